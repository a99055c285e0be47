set_option maxRecDepth 100000 in
theorem lq_80 : Cond.initialized RX9 ∈ gTs := g_word (i := 80) (by decide +kernel) rfl
set_option maxRecDepth 100000 in
theorem lq_90 : Cond.initialized RX10 ∈ gTs := g_word (i := 90) (by decide +kernel) rfl
set_option maxRecDepth 100000 in
theorem lq_424 : Cond.methodLink R_law 13 yX9_cats ∈ gTs := g_word (i := 424) (by decide +kernel) rfl
set_option maxRecDepth 100000 in
theorem lq_425 : Cond.instanceMethod yX9_cats ∈ gTs := g_word (i := 425) (by decide +kernel) rfl
set_option maxRecDepth 100000 in
theorem lq_426 : Cond.selects RX9 yX9_cats yX9_cats ∈ gTs := g_word (i := 426) (by decide +kernel) rfl
set_option maxRecDepth 100000 in
theorem lq_427 : Cond.code yX9_cats cX9_cats 3 (some .boolean) ∈ gTs := g_word (i := 427) (by rfl) rfl
set_option maxRecDepth 100000 in
theorem lq_434 : Cond.methodLink R_law 18 yX9_allSouls ∈ gTs := g_word (i := 434) (by decide +kernel) rfl
set_option maxRecDepth 100000 in
theorem lq_435 : Cond.instanceMethod yX9_allSouls ∈ gTs := g_word (i := 435) (by decide +kernel) rfl
set_option maxRecDepth 100000 in
theorem lq_436 : Cond.selects RX9 yX9_allSouls yX9_allSouls ∈ gTs := g_word (i := 436) (by decide +kernel) rfl
set_option maxRecDepth 100000 in
theorem lq_437 : Cond.code yX9_allSouls cX9_allSouls 2 (some .boolean) ∈ gTs := g_word (i := 437) (by rfl) rfl
set_option maxRecDepth 100000 in
theorem lq_441 : Cond.methodLink R_law 23 yX9_chains ∈ gTs := g_word (i := 441) (by decide +kernel) rfl
set_option maxRecDepth 100000 in
theorem lq_442 : Cond.instanceMethod yX9_chains ∈ gTs := g_word (i := 442) (by decide +kernel) rfl
set_option maxRecDepth 100000 in
theorem lq_443 : Cond.selects RX9 yX9_chains yX9_chains ∈ gTs := g_word (i := 443) (by decide +kernel) rfl
set_option maxRecDepth 100000 in
theorem lq_444 : Cond.code yX9_chains cX9_chains 2 (some .boolean) ∈ gTs := g_word (i := 444) (by rfl) rfl
set_option maxRecDepth 100000 in
theorem lq_445 : Cond.methodLink R_law 27 yX9_sleeper ∈ gTs := g_word (i := 445) (by decide +kernel) rfl
set_option maxRecDepth 100000 in
theorem lq_446 : Cond.instanceMethod yX9_sleeper ∈ gTs := g_word (i := 446) (by decide +kernel) rfl
set_option maxRecDepth 100000 in
theorem lq_447 : Cond.selects RX9 yX9_sleeper yX9_sleeper ∈ gTs := g_word (i := 447) (by decide +kernel) rfl
set_option maxRecDepth 100000 in
theorem lq_448 : Cond.code yX9_sleeper cX9_sleeper 3 (some .boolean) ∈ gTs := g_word (i := 448) (by rfl) rfl
set_option maxRecDepth 100000 in
theorem lq_453 : Cond.methodLink R_law 31 yX9_sleeps ∈ gTs := g_word (i := 453) (by decide +kernel) rfl
set_option maxRecDepth 100000 in
theorem lq_454 : Cond.instanceMethod yX9_sleeps ∈ gTs := g_word (i := 454) (by decide +kernel) rfl
set_option maxRecDepth 100000 in
theorem lq_455 : Cond.selects RX9 yX9_sleeps yX9_sleeps ∈ gTs := g_word (i := 455) (by decide +kernel) rfl
set_option maxRecDepth 100000 in
theorem lq_456 : Cond.code yX9_sleeps cX9_sleeps 6 (some .boolean) ∈ gTs := g_word (i := 456) (by rfl) rfl
set_option maxRecDepth 100000 in
theorem lq_461 : Cond.methodLink R_law 36 yX9_ghost ∈ gTs := g_word (i := 461) (by decide +kernel) rfl
set_option maxRecDepth 100000 in
theorem lq_462 : Cond.instanceMethod yX9_ghost ∈ gTs := g_word (i := 462) (by decide +kernel) rfl
set_option maxRecDepth 100000 in
theorem lq_463 : Cond.selects RX9 yX9_ghost yX9_ghost ∈ gTs := g_word (i := 463) (by decide +kernel) rfl
set_option maxRecDepth 100000 in
theorem lq_464 : Cond.code yX9_ghost cX9_ghost 6 (some .boolean) ∈ gTs := g_word (i := 464) (by rfl) rfl
set_option maxRecDepth 100000 in
theorem lq_469 : Cond.methodLink R_law 41 yX9_feed ∈ gTs := g_word (i := 469) (by decide +kernel) rfl
set_option maxRecDepth 100000 in
theorem lq_470 : Cond.instanceMethod yX9_feed ∈ gTs := g_word (i := 470) (by decide +kernel) rfl
set_option maxRecDepth 100000 in
theorem lq_471 : Cond.selects RX9 yX9_feed yX9_feed ∈ gTs := g_word (i := 471) (by decide +kernel) rfl
set_option maxRecDepth 100000 in
theorem lq_472 : Cond.code yX9_feed cX9_feed 6 (some .int) ∈ gTs := g_word (i := 472) (by rfl) rfl
set_option maxRecDepth 100000 in
theorem lq_481 : Cond.methodLink R_law 46 yX9_rota ∈ gTs := g_word (i := 481) (by decide +kernel) rfl
set_option maxRecDepth 100000 in
theorem lq_482 : Cond.instanceMethod yX9_rota ∈ gTs := g_word (i := 482) (by decide +kernel) rfl
set_option maxRecDepth 100000 in
theorem lq_483 : Cond.selects RX9 yX9_rota yX9_rota ∈ gTs := g_word (i := 483) (by decide +kernel) rfl
set_option maxRecDepth 100000 in
theorem lq_484 : Cond.code yX9_rota cX9_rota 2 (some .int) ∈ gTs := g_word (i := 484) (by rfl) rfl
set_option maxRecDepth 100000 in
theorem lq_542 : Cond.methodLink R_law 51 yX9_law ∈ gTs := g_word (i := 542) (by decide +kernel) rfl
set_option maxRecDepth 100000 in
theorem lq_543 : Cond.instanceMethod yX9_law ∈ gTs := g_word (i := 543) (by decide +kernel) rfl
set_option maxRecDepth 100000 in
theorem lq_544 : Cond.selects RX9 yX9_law yX9_law ∈ gTs := g_word (i := 544) (by decide +kernel) rfl
set_option maxRecDepth 100000 in
theorem lq_545 : Cond.code yX9_law cX9_law 2 (some .int) ∈ gTs := g_word (i := 545) (by rfl) rfl
set_option maxRecDepth 100000 in
theorem lq_714 : Cond.methodLink R_law 55 yX9_walk ∈ gTs := g_word (i := 714) (by decide +kernel) rfl
set_option maxRecDepth 100000 in
theorem lq_715 : Cond.instanceMethod yX9_walk ∈ gTs := g_word (i := 715) (by decide +kernel) rfl
set_option maxRecDepth 100000 in
theorem lq_716 : Cond.selects RX9 yX9_walk yX9_walk ∈ gTs := g_word (i := 716) (by decide +kernel) rfl
set_option maxRecDepth 100000 in
theorem lq_717 : Cond.code yX9_walk cX9_walk 3 (some .int) ∈ gTs := g_word (i := 717) (by rfl) rfl
set_option maxRecDepth 100000 in
theorem lq_726 : Cond.methodLink R_law 60 yX9_fright ∈ gTs := g_word (i := 726) (by decide +kernel) rfl
set_option maxRecDepth 100000 in
theorem lq_727 : Cond.instanceMethod yX9_fright ∈ gTs := g_word (i := 727) (by decide +kernel) rfl
set_option maxRecDepth 100000 in
theorem lq_728 : Cond.selects RX9 yX9_fright yX9_fright ∈ gTs := g_word (i := 728) (by decide +kernel) rfl
set_option maxRecDepth 100000 in
theorem lq_729 : Cond.code yX9_fright cX9_fright 6 (some .int) ∈ gTs := g_word (i := 729) (by rfl) rfl
set_option maxRecDepth 100000 in
theorem lq_778 : Cond.methodLink R_law 64 yX9_week ∈ gTs := g_word (i := 778) (by decide +kernel) rfl
set_option maxRecDepth 100000 in
theorem lq_779 : Cond.instanceMethod yX9_week ∈ gTs := g_word (i := 779) (by decide +kernel) rfl
set_option maxRecDepth 100000 in
theorem lq_780 : Cond.selects RX9 yX9_week yX9_week ∈ gTs := g_word (i := 780) (by decide +kernel) rfl
set_option maxRecDepth 100000 in
theorem lq_781 : Cond.code yX9_week cX9_week 2 (some .int) ∈ gTs := g_word (i := 781) (by rfl) rfl
set_option maxRecDepth 100000 in
theorem lq_819 : Cond.methodLink R_law 68 yX9_live ∈ gTs := g_word (i := 819) (by decide +kernel) rfl
set_option maxRecDepth 100000 in
theorem lq_820 : Cond.instanceMethod yX9_live ∈ gTs := g_word (i := 820) (by decide +kernel) rfl
set_option maxRecDepth 100000 in
theorem lq_821 : Cond.selects RX9 yX9_live yX9_live ∈ gTs := g_word (i := 821) (by decide +kernel) rfl
set_option maxRecDepth 100000 in
theorem lq_822 : Cond.code yX9_live cX9_live 2 (some .int) ∈ gTs := g_word (i := 822) (by rfl) rfl
set_option maxRecDepth 100000 in
theorem lq_823 : Cond.methodLink R_law 73 yX9_soFar ∈ gTs := g_word (i := 823) (by decide +kernel) rfl
set_option maxRecDepth 100000 in
theorem lq_824 : Cond.instanceMethod yX9_soFar ∈ gTs := g_word (i := 824) (by decide +kernel) rfl
set_option maxRecDepth 100000 in
theorem lq_825 : Cond.selects RX9 yX9_soFar yX9_soFar ∈ gTs := g_word (i := 825) (by decide +kernel) rfl
set_option maxRecDepth 100000 in
theorem lq_826 : Cond.code yX9_soFar cX9_soFar 2 (some .int) ∈ gTs := g_word (i := 826) (by rfl) rfl
set_option maxRecDepth 100000 in
theorem lq_827 : Cond.methodLink R_law 77 yX9_once ∈ gTs := g_word (i := 827) (by decide +kernel) rfl
set_option maxRecDepth 100000 in
theorem lq_828 : Cond.instanceMethod yX9_once ∈ gTs := g_word (i := 828) (by decide +kernel) rfl
set_option maxRecDepth 100000 in
theorem lq_829 : Cond.selects RX9 yX9_once yX9_once ∈ gTs := g_word (i := 829) (by decide +kernel) rfl
set_option maxRecDepth 100000 in
theorem lq_830 : Cond.code yX9_once cX9_once 3 (some .int) ∈ gTs := g_word (i := 830) (by rfl) rfl
set_option maxRecDepth 100000 in
theorem lq_874 : Cond.methodLink R_law 81 yX9_bestWalk ∈ gTs := g_word (i := 874) (by decide +kernel) rfl
set_option maxRecDepth 100000 in
theorem lq_875 : Cond.instanceMethod yX9_bestWalk ∈ gTs := g_word (i := 875) (by decide +kernel) rfl
set_option maxRecDepth 100000 in
theorem lq_876 : Cond.selects RX9 yX9_bestWalk yX9_bestWalk ∈ gTs := g_word (i := 876) (by decide +kernel) rfl
set_option maxRecDepth 100000 in
theorem lq_877 : Cond.code yX9_bestWalk cX9_bestWalk 7 (some .int) ∈ gTs := g_word (i := 877) (by rfl) rfl
set_option maxRecDepth 100000 in
theorem lq_888 : Cond.methodLink R_law 85 yX9_candle ∈ gTs := g_word (i := 888) (by decide +kernel) rfl
set_option maxRecDepth 100000 in
theorem lq_889 : Cond.instanceMethod yX9_candle ∈ gTs := g_word (i := 889) (by decide +kernel) rfl
set_option maxRecDepth 100000 in
theorem lq_890 : Cond.selects RX9 yX9_candle yX9_candle ∈ gTs := g_word (i := 890) (by decide +kernel) rfl
set_option maxRecDepth 100000 in
theorem lq_891 : Cond.code yX9_candle cX9_candle 10 (some .int) ∈ gTs := g_word (i := 891) (by rfl) rfl
set_option maxRecDepth 100000 in
theorem lq_894 : Cond.methodLink R_law 90 yX9_draughts ∈ gTs := g_word (i := 894) (by decide +kernel) rfl
set_option maxRecDepth 100000 in
theorem lq_895 : Cond.instanceMethod yX9_draughts ∈ gTs := g_word (i := 895) (by decide +kernel) rfl
set_option maxRecDepth 100000 in
theorem lq_896 : Cond.selects RX9 yX9_draughts yX9_draughts ∈ gTs := g_word (i := 896) (by decide +kernel) rfl
set_option maxRecDepth 100000 in
theorem lq_897 : Cond.code yX9_draughts cX9_draughts 4 (some .int) ∈ gTs := g_word (i := 897) (by rfl) rfl
set_option maxRecDepth 100000 in
theorem lq_898 : Cond.methodLink R_law 94 yX9_mended ∈ gTs := g_word (i := 898) (by decide +kernel) rfl
set_option maxRecDepth 100000 in
theorem lq_899 : Cond.instanceMethod yX9_mended ∈ gTs := g_word (i := 899) (by decide +kernel) rfl
set_option maxRecDepth 100000 in
theorem lq_900 : Cond.selects RX9 yX9_mended yX9_mended ∈ gTs := g_word (i := 900) (by decide +kernel) rfl
set_option maxRecDepth 100000 in
theorem lq_901 : Cond.code yX9_mended cX9_mended 7 (some .int) ∈ gTs := g_word (i := 901) (by rfl) rfl
set_option maxRecDepth 100000 in
theorem lq_907 : Cond.methodLink R_law 98 yX9_mend ∈ gTs := g_word (i := 907) (by decide +kernel) rfl
set_option maxRecDepth 100000 in
theorem lq_908 : Cond.instanceMethod yX9_mend ∈ gTs := g_word (i := 908) (by decide +kernel) rfl
set_option maxRecDepth 100000 in
theorem lq_909 : Cond.selects RX9 yX9_mend yX9_mend ∈ gTs := g_word (i := 909) (by decide +kernel) rfl
set_option maxRecDepth 100000 in
theorem lq_910 : Cond.code yX9_mend cX9_mend 2 (some .int) ∈ gTs := g_word (i := 910) (by rfl) rfl
set_option maxRecDepth 100000 in
theorem lq_911 : Cond.methodLink R_law 102 yX9_shared ∈ gTs := g_word (i := 911) (by decide +kernel) rfl
set_option maxRecDepth 100000 in
theorem lq_912 : Cond.instanceMethod yX9_shared ∈ gTs := g_word (i := 912) (by decide +kernel) rfl
set_option maxRecDepth 100000 in
theorem lq_913 : Cond.selects RX9 yX9_shared yX9_shared ∈ gTs := g_word (i := 913) (by decide +kernel) rfl
set_option maxRecDepth 100000 in
theorem lq_914 : Cond.code yX9_shared cX9_shared 7 (some .int) ∈ gTs := g_word (i := 914) (by rfl) rfl
set_option maxRecDepth 100000 in
theorem lq_924 : Cond.methodLink R_law 106 yX9_july ∈ gTs := g_word (i := 924) (by decide +kernel) rfl
set_option maxRecDepth 100000 in
theorem lq_925 : Cond.instanceMethod yX9_july ∈ gTs := g_word (i := 925) (by decide +kernel) rfl
set_option maxRecDepth 100000 in
theorem lq_926 : Cond.selects RX9 yX9_july yX9_july ∈ gTs := g_word (i := 926) (by decide +kernel) rfl
set_option maxRecDepth 100000 in
theorem lq_927 : Cond.code yX9_july cX9_july 6 (some .int) ∈ gTs := g_word (i := 927) (by rfl) rfl
set_option maxRecDepth 100000 in
theorem lq_958 : Cond.methodLink R_law 110 yX9_off ∈ gTs := g_word (i := 958) (by decide +kernel) rfl
set_option maxRecDepth 100000 in
theorem lq_959 : Cond.instanceMethod yX9_off ∈ gTs := g_word (i := 959) (by decide +kernel) rfl
set_option maxRecDepth 100000 in
theorem lq_960 : Cond.selects RX9 yX9_off yX9_off ∈ gTs := g_word (i := 960) (by decide +kernel) rfl
set_option maxRecDepth 100000 in
theorem lq_961 : Cond.code yX9_off cX9_off 5 (some .int) ∈ gTs := g_word (i := 961) (by rfl) rfl
set_option maxRecDepth 100000 in
theorem lq_972 : Cond.methodLink R_law 114 yX9_bids ∈ gTs := g_word (i := 972) (by decide +kernel) rfl
set_option maxRecDepth 100000 in
theorem lq_973 : Cond.instanceMethod yX9_bids ∈ gTs := g_word (i := 973) (by decide +kernel) rfl
set_option maxRecDepth 100000 in
theorem lq_974 : Cond.selects RX9 yX9_bids yX9_bids ∈ gTs := g_word (i := 974) (by decide +kernel) rfl
set_option maxRecDepth 100000 in
theorem lq_975 : Cond.code yX9_bids cX9_bids 9 (some .int) ∈ gTs := g_word (i := 975) (by rfl) rfl
set_option maxRecDepth 100000 in
theorem lq_985 : Cond.methodLink R_law 118 yX9_odds ∈ gTs := g_word (i := 985) (by decide +kernel) rfl
set_option maxRecDepth 100000 in
theorem lq_986 : Cond.instanceMethod yX9_odds ∈ gTs := g_word (i := 986) (by decide +kernel) rfl
set_option maxRecDepth 100000 in
theorem lq_987 : Cond.selects RX9 yX9_odds yX9_odds ∈ gTs := g_word (i := 987) (by decide +kernel) rfl
set_option maxRecDepth 100000 in
theorem lq_988 : Cond.code yX9_odds cX9_odds 4 (some .int) ∈ gTs := g_word (i := 988) (by rfl) rfl
set_option maxRecDepth 100000 in
theorem lq_996 : Cond.methodLink R_law 122 yX9_seed ∈ gTs := g_word (i := 996) (by decide +kernel) rfl
set_option maxRecDepth 100000 in
theorem lq_997 : Cond.instanceMethod yX9_seed ∈ gTs := g_word (i := 997) (by decide +kernel) rfl
set_option maxRecDepth 100000 in
theorem lq_998 : Cond.selects RX9 yX9_seed yX9_seed ∈ gTs := g_word (i := 998) (by decide +kernel) rfl
set_option maxRecDepth 100000 in
theorem lq_999 : Cond.code yX9_seed cX9_seed 2 (some .boolean) ∈ gTs := g_word (i := 999) (by rfl) rfl
set_option maxRecDepth 100000 in
theorem lq_1001 : Cond.methodLink R_law 126 yX9_keep ∈ gTs := g_word (i := 1001) (by decide +kernel) rfl
set_option maxRecDepth 100000 in
theorem lq_1002 : Cond.instanceMethod yX9_keep ∈ gTs := g_word (i := 1002) (by decide +kernel) rfl
set_option maxRecDepth 100000 in
theorem lq_1003 : Cond.selects RX9 yX9_keep yX9_keep ∈ gTs := g_word (i := 1003) (by decide +kernel) rfl
set_option maxRecDepth 100000 in
theorem lq_1004 : Cond.code yX9_keep cX9_keep 1 (some .int) ∈ gTs := g_word (i := 1004) (by rfl) rfl
set_option maxRecDepth 100000 in
theorem lq_1010 : Cond.methodLink R_law 130 yX9_undo ∈ gTs := g_word (i := 1010) (by decide +kernel) rfl
set_option maxRecDepth 100000 in
theorem lq_1011 : Cond.instanceMethod yX9_undo ∈ gTs := g_word (i := 1011) (by decide +kernel) rfl
set_option maxRecDepth 100000 in
theorem lq_1012 : Cond.selects RX9 yX9_undo yX9_undo ∈ gTs := g_word (i := 1012) (by decide +kernel) rfl
set_option maxRecDepth 100000 in
theorem lq_1013 : Cond.code yX9_undo cX9_undo 1 (some .boolean) ∈ gTs := g_word (i := 1013) (by rfl) rfl
set_option maxRecDepth 100000 in
theorem lq_1014 : Cond.methodLink R_law 135 yX9_check ∈ gTs := g_word (i := 1014) (by decide +kernel) rfl
set_option maxRecDepth 100000 in
theorem lq_1015 : Cond.instanceMethod yX9_check ∈ gTs := g_word (i := 1015) (by decide +kernel) rfl
set_option maxRecDepth 100000 in
theorem lq_1016 : Cond.selects RX9 yX9_check yX9_check ∈ gTs := g_word (i := 1016) (by decide +kernel) rfl
set_option maxRecDepth 100000 in
theorem lq_1017 : Cond.code yX9_check cX9_check 4 (some .int) ∈ gTs := g_word (i := 1017) (by rfl) rfl
set_option maxRecDepth 100000 in
theorem lq_1022 : Cond.methodLink R_law 139 yX9_count ∈ gTs := g_word (i := 1022) (by decide +kernel) rfl
set_option maxRecDepth 100000 in
theorem lq_1023 : Cond.instanceMethod yX9_count ∈ gTs := g_word (i := 1023) (by decide +kernel) rfl
set_option maxRecDepth 100000 in
theorem lq_1024 : Cond.selects RX9 yX9_count yX9_count ∈ gTs := g_word (i := 1024) (by decide +kernel) rfl
set_option maxRecDepth 100000 in
theorem lq_1025 : Cond.code yX9_count cX9_count 2 (some .int) ∈ gTs := g_word (i := 1025) (by rfl) rfl
set_option maxRecDepth 100000 in
theorem lq_1249 : Cond.methodLink R_law 17 yX10_cats ∈ gTs := g_word (i := 1249) (by decide +kernel) rfl
set_option maxRecDepth 100000 in
theorem lq_1250 : Cond.instanceMethod yX10_cats ∈ gTs := g_word (i := 1250) (by decide +kernel) rfl
set_option maxRecDepth 100000 in
theorem lq_1251 : Cond.selects RX10 yX10_cats yX10_cats ∈ gTs := g_word (i := 1251) (by decide +kernel) rfl
set_option maxRecDepth 100000 in
theorem lq_1252 : Cond.code yX10_cats cX10_cats 3 (some .boolean) ∈ gTs := g_word (i := 1252) (by rfl) rfl
set_option maxRecDepth 100000 in
theorem lq_1259 : Cond.methodLink R_law 22 yX10_allSouls ∈ gTs := g_word (i := 1259) (by decide +kernel) rfl
set_option maxRecDepth 100000 in
theorem lq_1260 : Cond.instanceMethod yX10_allSouls ∈ gTs := g_word (i := 1260) (by decide +kernel) rfl
set_option maxRecDepth 100000 in
theorem lq_1261 : Cond.selects RX10 yX10_allSouls yX10_allSouls ∈ gTs := g_word (i := 1261) (by decide +kernel) rfl
set_option maxRecDepth 100000 in
theorem lq_1262 : Cond.code yX10_allSouls cX10_allSouls 2 (some .boolean) ∈ gTs := g_word (i := 1262) (by rfl) rfl
set_option maxRecDepth 100000 in
theorem lq_1266 : Cond.methodLink R_law 26 yX10_chains ∈ gTs := g_word (i := 1266) (by decide +kernel) rfl
set_option maxRecDepth 100000 in
theorem lq_1267 : Cond.instanceMethod yX10_chains ∈ gTs := g_word (i := 1267) (by decide +kernel) rfl
set_option maxRecDepth 100000 in
theorem lq_1268 : Cond.selects RX10 yX10_chains yX10_chains ∈ gTs := g_word (i := 1268) (by decide +kernel) rfl
set_option maxRecDepth 100000 in
theorem lq_1269 : Cond.code yX10_chains cX10_chains 2 (some .boolean) ∈ gTs := g_word (i := 1269) (by rfl) rfl
set_option maxRecDepth 100000 in
theorem lq_1270 : Cond.methodLink R_law 30 yX10_sleeper ∈ gTs := g_word (i := 1270) (by decide +kernel) rfl
set_option maxRecDepth 100000 in
theorem lq_1271 : Cond.instanceMethod yX10_sleeper ∈ gTs := g_word (i := 1271) (by decide +kernel) rfl
set_option maxRecDepth 100000 in
theorem lq_1272 : Cond.selects RX10 yX10_sleeper yX10_sleeper ∈ gTs := g_word (i := 1272) (by decide +kernel) rfl
set_option maxRecDepth 100000 in
theorem lq_1273 : Cond.code yX10_sleeper cX10_sleeper 4 (some .boolean) ∈ gTs := g_word (i := 1273) (by rfl) rfl
set_option maxRecDepth 100000 in
theorem lq_1274 : Cond.methodLink R_law 35 yX10_sleeps ∈ gTs := g_word (i := 1274) (by decide +kernel) rfl
set_option maxRecDepth 100000 in
theorem lq_1275 : Cond.instanceMethod yX10_sleeps ∈ gTs := g_word (i := 1275) (by decide +kernel) rfl
set_option maxRecDepth 100000 in
theorem lq_1276 : Cond.selects RX10 yX10_sleeps yX10_sleeps ∈ gTs := g_word (i := 1276) (by decide +kernel) rfl
set_option maxRecDepth 100000 in
theorem lq_1277 : Cond.code yX10_sleeps cX10_sleeps 6 (some .boolean) ∈ gTs := g_word (i := 1277) (by rfl) rfl
set_option maxRecDepth 100000 in
theorem lq_1285 : Cond.methodLink R_law 40 yX10_ghost ∈ gTs := g_word (i := 1285) (by decide +kernel) rfl
set_option maxRecDepth 100000 in
theorem lq_1286 : Cond.instanceMethod yX10_ghost ∈ gTs := g_word (i := 1286) (by decide +kernel) rfl
set_option maxRecDepth 100000 in
theorem lq_1287 : Cond.selects RX10 yX10_ghost yX10_ghost ∈ gTs := g_word (i := 1287) (by decide +kernel) rfl
set_option maxRecDepth 100000 in
theorem lq_1288 : Cond.code yX10_ghost cX10_ghost 6 (some .boolean) ∈ gTs := g_word (i := 1288) (by rfl) rfl
set_option maxRecDepth 100000 in
theorem lq_1289 : Cond.methodLink R_law 45 yX10_feed ∈ gTs := g_word (i := 1289) (by decide +kernel) rfl
set_option maxRecDepth 100000 in
theorem lq_1290 : Cond.instanceMethod yX10_feed ∈ gTs := g_word (i := 1290) (by decide +kernel) rfl
set_option maxRecDepth 100000 in
theorem lq_1291 : Cond.selects RX10 yX10_feed yX10_feed ∈ gTs := g_word (i := 1291) (by decide +kernel) rfl
set_option maxRecDepth 100000 in
theorem lq_1292 : Cond.code yX10_feed cX10_feed 6 (some .int) ∈ gTs := g_word (i := 1292) (by rfl) rfl
set_option maxRecDepth 100000 in
theorem lq_1297 : Cond.methodLink R_law 50 yX10_rota ∈ gTs := g_word (i := 1297) (by decide +kernel) rfl
set_option maxRecDepth 100000 in
theorem lq_1298 : Cond.instanceMethod yX10_rota ∈ gTs := g_word (i := 1298) (by decide +kernel) rfl
set_option maxRecDepth 100000 in
theorem lq_1299 : Cond.selects RX10 yX10_rota yX10_rota ∈ gTs := g_word (i := 1299) (by decide +kernel) rfl
set_option maxRecDepth 100000 in
theorem lq_1300 : Cond.code yX10_rota cX10_rota 4 (some .int) ∈ gTs := g_word (i := 1300) (by rfl) rfl
set_option maxRecDepth 100000 in
theorem lq_1329 : Cond.methodLink R_law 59 yX10_walk ∈ gTs := g_word (i := 1329) (by decide +kernel) rfl
set_option maxRecDepth 100000 in
theorem lq_1330 : Cond.instanceMethod yX10_walk ∈ gTs := g_word (i := 1330) (by decide +kernel) rfl
set_option maxRecDepth 100000 in
theorem lq_1331 : Cond.selects RX10 yX10_walk yX10_walk ∈ gTs := g_word (i := 1331) (by decide +kernel) rfl
set_option maxRecDepth 100000 in
theorem lq_1332 : Cond.code yX10_walk cX10_walk 3 (some .int) ∈ gTs := g_word (i := 1332) (by rfl) rfl
set_option maxRecDepth 100000 in
theorem lq_1341 : Cond.methodLink R_law 54 yX10_law ∈ gTs := g_word (i := 1341) (by decide +kernel) rfl
set_option maxRecDepth 100000 in
theorem lq_1342 : Cond.instanceMethod yX10_law ∈ gTs := g_word (i := 1342) (by decide +kernel) rfl
set_option maxRecDepth 100000 in
theorem lq_1343 : Cond.selects RX10 yX10_law yX10_law ∈ gTs := g_word (i := 1343) (by decide +kernel) rfl
set_option maxRecDepth 100000 in
theorem lq_1344 : Cond.code yX10_law cX10_law 4 (some .int) ∈ gTs := g_word (i := 1344) (by rfl) rfl
set_option maxRecDepth 100000 in
theorem lq_1411 : Cond.methodLink R_law 63 yX10_fright ∈ gTs := g_word (i := 1411) (by decide +kernel) rfl
set_option maxRecDepth 100000 in
theorem lq_1412 : Cond.instanceMethod yX10_fright ∈ gTs := g_word (i := 1412) (by decide +kernel) rfl
set_option maxRecDepth 100000 in
theorem lq_1413 : Cond.selects RX10 yX10_fright yX10_fright ∈ gTs := g_word (i := 1413) (by decide +kernel) rfl
set_option maxRecDepth 100000 in
theorem lq_1414 : Cond.code yX10_fright cX10_fright 6 (some .int) ∈ gTs := g_word (i := 1414) (by rfl) rfl
set_option maxRecDepth 100000 in
theorem lq_1445 : Cond.methodLink R_law 67 yX10_week ∈ gTs := g_word (i := 1445) (by decide +kernel) rfl
set_option maxRecDepth 100000 in
theorem lq_1446 : Cond.instanceMethod yX10_week ∈ gTs := g_word (i := 1446) (by decide +kernel) rfl
set_option maxRecDepth 100000 in
theorem lq_1447 : Cond.selects RX10 yX10_week yX10_week ∈ gTs := g_word (i := 1447) (by decide +kernel) rfl
set_option maxRecDepth 100000 in
theorem lq_1448 : Cond.code yX10_week cX10_week 2 (some .int) ∈ gTs := g_word (i := 1448) (by rfl) rfl
set_option maxRecDepth 100000 in
theorem lq_1478 : Cond.methodLink R_law 72 yX10_live ∈ gTs := g_word (i := 1478) (by decide +kernel) rfl
set_option maxRecDepth 100000 in
theorem lq_1479 : Cond.instanceMethod yX10_live ∈ gTs := g_word (i := 1479) (by decide +kernel) rfl
set_option maxRecDepth 100000 in
theorem lq_1480 : Cond.selects RX10 yX10_live yX10_live ∈ gTs := g_word (i := 1480) (by decide +kernel) rfl
set_option maxRecDepth 100000 in
theorem lq_1481 : Cond.code yX10_live cX10_live 2 (some .int) ∈ gTs := g_word (i := 1481) (by rfl) rfl
set_option maxRecDepth 100000 in
theorem lq_1482 : Cond.methodLink R_law 76 yX10_soFar ∈ gTs := g_word (i := 1482) (by decide +kernel) rfl
set_option maxRecDepth 100000 in
theorem lq_1483 : Cond.instanceMethod yX10_soFar ∈ gTs := g_word (i := 1483) (by decide +kernel) rfl
set_option maxRecDepth 100000 in
theorem lq_1484 : Cond.selects RX10 yX10_soFar yX10_soFar ∈ gTs := g_word (i := 1484) (by decide +kernel) rfl
set_option maxRecDepth 100000 in
theorem lq_1485 : Cond.code yX10_soFar cX10_soFar 2 (some .int) ∈ gTs := g_word (i := 1485) (by rfl) rfl
set_option maxRecDepth 100000 in
theorem lq_1486 : Cond.methodLink R_law 80 yX10_once ∈ gTs := g_word (i := 1486) (by decide +kernel) rfl
set_option maxRecDepth 100000 in
theorem lq_1487 : Cond.instanceMethod yX10_once ∈ gTs := g_word (i := 1487) (by decide +kernel) rfl
set_option maxRecDepth 100000 in
theorem lq_1488 : Cond.selects RX10 yX10_once yX10_once ∈ gTs := g_word (i := 1488) (by decide +kernel) rfl
set_option maxRecDepth 100000 in
theorem lq_1489 : Cond.code yX10_once cX10_once 6 (some .int) ∈ gTs := g_word (i := 1489) (by rfl) rfl
set_option maxRecDepth 100000 in
theorem lq_1510 : Cond.methodLink R_law 84 yX10_bestWalk ∈ gTs := g_word (i := 1510) (by decide +kernel) rfl
set_option maxRecDepth 100000 in
theorem lq_1511 : Cond.instanceMethod yX10_bestWalk ∈ gTs := g_word (i := 1511) (by decide +kernel) rfl
set_option maxRecDepth 100000 in
theorem lq_1512 : Cond.selects RX10 yX10_bestWalk yX10_bestWalk ∈ gTs := g_word (i := 1512) (by decide +kernel) rfl
set_option maxRecDepth 100000 in
theorem lq_1513 : Cond.code yX10_bestWalk cX10_bestWalk 7 (some .int) ∈ gTs := g_word (i := 1513) (by rfl) rfl
set_option maxRecDepth 100000 in
theorem lq_1518 : Cond.methodLink R_law 89 yX10_candle ∈ gTs := g_word (i := 1518) (by decide +kernel) rfl
set_option maxRecDepth 100000 in
theorem lq_1519 : Cond.instanceMethod yX10_candle ∈ gTs := g_word (i := 1519) (by decide +kernel) rfl
set_option maxRecDepth 100000 in
theorem lq_1520 : Cond.selects RX10 yX10_candle yX10_candle ∈ gTs := g_word (i := 1520) (by decide +kernel) rfl
set_option maxRecDepth 100000 in
theorem lq_1521 : Cond.code yX10_candle cX10_candle 9 (some .int) ∈ gTs := g_word (i := 1521) (by rfl) rfl
set_option maxRecDepth 100000 in
theorem lq_1522 : Cond.methodLink R_law 93 yX10_draughts ∈ gTs := g_word (i := 1522) (by decide +kernel) rfl
set_option maxRecDepth 100000 in
theorem lq_1523 : Cond.instanceMethod yX10_draughts ∈ gTs := g_word (i := 1523) (by decide +kernel) rfl
set_option maxRecDepth 100000 in
theorem lq_1524 : Cond.selects RX10 yX10_draughts yX10_draughts ∈ gTs := g_word (i := 1524) (by decide +kernel) rfl
set_option maxRecDepth 100000 in
theorem lq_1525 : Cond.code yX10_draughts cX10_draughts 3 (some .int) ∈ gTs := g_word (i := 1525) (by rfl) rfl
set_option maxRecDepth 100000 in
theorem lq_1526 : Cond.methodLink R_law 97 yX10_mended ∈ gTs := g_word (i := 1526) (by decide +kernel) rfl
set_option maxRecDepth 100000 in
theorem lq_1527 : Cond.instanceMethod yX10_mended ∈ gTs := g_word (i := 1527) (by decide +kernel) rfl
set_option maxRecDepth 100000 in
theorem lq_1528 : Cond.selects RX10 yX10_mended yX10_mended ∈ gTs := g_word (i := 1528) (by decide +kernel) rfl
set_option maxRecDepth 100000 in
theorem lq_1529 : Cond.code yX10_mended cX10_mended 7 (some .int) ∈ gTs := g_word (i := 1529) (by rfl) rfl
set_option maxRecDepth 100000 in
theorem lq_1535 : Cond.methodLink R_law 101 yX10_mend ∈ gTs := g_word (i := 1535) (by decide +kernel) rfl
set_option maxRecDepth 100000 in
theorem lq_1536 : Cond.instanceMethod yX10_mend ∈ gTs := g_word (i := 1536) (by decide +kernel) rfl
set_option maxRecDepth 100000 in
theorem lq_1537 : Cond.selects RX10 yX10_mend yX10_mend ∈ gTs := g_word (i := 1537) (by decide +kernel) rfl
set_option maxRecDepth 100000 in
theorem lq_1538 : Cond.code yX10_mend cX10_mend 2 (some .int) ∈ gTs := g_word (i := 1538) (by rfl) rfl
set_option maxRecDepth 100000 in
theorem lq_1539 : Cond.methodLink R_law 105 yX10_shared ∈ gTs := g_word (i := 1539) (by decide +kernel) rfl
set_option maxRecDepth 100000 in
theorem lq_1540 : Cond.instanceMethod yX10_shared ∈ gTs := g_word (i := 1540) (by decide +kernel) rfl
set_option maxRecDepth 100000 in
theorem lq_1541 : Cond.selects RX10 yX10_shared yX10_shared ∈ gTs := g_word (i := 1541) (by decide +kernel) rfl
set_option maxRecDepth 100000 in
theorem lq_1542 : Cond.code yX10_shared cX10_shared 9 (some .int) ∈ gTs := g_word (i := 1542) (by rfl) rfl
set_option maxRecDepth 100000 in
theorem lq_1546 : Cond.methodLink R_law 109 yX10_july ∈ gTs := g_word (i := 1546) (by decide +kernel) rfl
set_option maxRecDepth 100000 in
theorem lq_1547 : Cond.instanceMethod yX10_july ∈ gTs := g_word (i := 1547) (by decide +kernel) rfl
set_option maxRecDepth 100000 in
theorem lq_1548 : Cond.selects RX10 yX10_july yX10_july ∈ gTs := g_word (i := 1548) (by decide +kernel) rfl
set_option maxRecDepth 100000 in
theorem lq_1549 : Cond.code yX10_july cX10_july 6 (some .int) ∈ gTs := g_word (i := 1549) (by rfl) rfl
set_option maxRecDepth 100000 in
theorem lq_1566 : Cond.methodLink R_law 113 yX10_off ∈ gTs := g_word (i := 1566) (by decide +kernel) rfl
set_option maxRecDepth 100000 in
theorem lq_1567 : Cond.instanceMethod yX10_off ∈ gTs := g_word (i := 1567) (by decide +kernel) rfl
set_option maxRecDepth 100000 in
theorem lq_1568 : Cond.selects RX10 yX10_off yX10_off ∈ gTs := g_word (i := 1568) (by decide +kernel) rfl
set_option maxRecDepth 100000 in
theorem lq_1569 : Cond.code yX10_off cX10_off 10 (some .int) ∈ gTs := g_word (i := 1569) (by rfl) rfl
set_option maxRecDepth 100000 in
theorem lq_1570 : Cond.methodLink R_law 117 yX10_bids ∈ gTs := g_word (i := 1570) (by decide +kernel) rfl
set_option maxRecDepth 100000 in
theorem lq_1571 : Cond.instanceMethod yX10_bids ∈ gTs := g_word (i := 1571) (by decide +kernel) rfl
set_option maxRecDepth 100000 in
theorem lq_1572 : Cond.selects RX10 yX10_bids yX10_bids ∈ gTs := g_word (i := 1572) (by decide +kernel) rfl
set_option maxRecDepth 100000 in
theorem lq_1573 : Cond.code yX10_bids cX10_bids 7 (some .int) ∈ gTs := g_word (i := 1573) (by rfl) rfl
set_option maxRecDepth 100000 in
theorem lq_1583 : Cond.methodLink R_law 121 yX10_odds ∈ gTs := g_word (i := 1583) (by decide +kernel) rfl
set_option maxRecDepth 100000 in
theorem lq_1584 : Cond.instanceMethod yX10_odds ∈ gTs := g_word (i := 1584) (by decide +kernel) rfl
set_option maxRecDepth 100000 in
theorem lq_1585 : Cond.selects RX10 yX10_odds yX10_odds ∈ gTs := g_word (i := 1585) (by decide +kernel) rfl
set_option maxRecDepth 100000 in
theorem lq_1586 : Cond.code yX10_odds cX10_odds 11 (some .int) ∈ gTs := g_word (i := 1586) (by rfl) rfl
set_option maxRecDepth 100000 in
theorem lq_1590 : Cond.methodLink R_law 125 yX10_seed ∈ gTs := g_word (i := 1590) (by decide +kernel) rfl
set_option maxRecDepth 100000 in
theorem lq_1591 : Cond.instanceMethod yX10_seed ∈ gTs := g_word (i := 1591) (by decide +kernel) rfl
set_option maxRecDepth 100000 in
theorem lq_1592 : Cond.selects RX10 yX10_seed yX10_seed ∈ gTs := g_word (i := 1592) (by decide +kernel) rfl
set_option maxRecDepth 100000 in
theorem lq_1593 : Cond.code yX10_seed cX10_seed 2 (some .boolean) ∈ gTs := g_word (i := 1593) (by rfl) rfl
set_option maxRecDepth 100000 in
theorem lq_1595 : Cond.methodLink R_law 129 yX10_keep ∈ gTs := g_word (i := 1595) (by decide +kernel) rfl
set_option maxRecDepth 100000 in
theorem lq_1596 : Cond.instanceMethod yX10_keep ∈ gTs := g_word (i := 1596) (by decide +kernel) rfl
set_option maxRecDepth 100000 in
theorem lq_1597 : Cond.selects RX10 yX10_keep yX10_keep ∈ gTs := g_word (i := 1597) (by decide +kernel) rfl
set_option maxRecDepth 100000 in
theorem lq_1598 : Cond.code yX10_keep cX10_keep 1 (some .int) ∈ gTs := g_word (i := 1598) (by rfl) rfl
set_option maxRecDepth 100000 in
theorem lq_1602 : Cond.methodLink R_law 134 yX10_undo ∈ gTs := g_word (i := 1602) (by decide +kernel) rfl
set_option maxRecDepth 100000 in
theorem lq_1603 : Cond.instanceMethod yX10_undo ∈ gTs := g_word (i := 1603) (by decide +kernel) rfl
set_option maxRecDepth 100000 in
theorem lq_1604 : Cond.selects RX10 yX10_undo yX10_undo ∈ gTs := g_word (i := 1604) (by decide +kernel) rfl
set_option maxRecDepth 100000 in
theorem lq_1605 : Cond.code yX10_undo cX10_undo 1 (some .boolean) ∈ gTs := g_word (i := 1605) (by rfl) rfl
set_option maxRecDepth 100000 in
theorem lq_1606 : Cond.methodLink R_law 138 yX10_check ∈ gTs := g_word (i := 1606) (by decide +kernel) rfl
set_option maxRecDepth 100000 in
theorem lq_1607 : Cond.instanceMethod yX10_check ∈ gTs := g_word (i := 1607) (by decide +kernel) rfl
set_option maxRecDepth 100000 in
theorem lq_1608 : Cond.selects RX10 yX10_check yX10_check ∈ gTs := g_word (i := 1608) (by decide +kernel) rfl
set_option maxRecDepth 100000 in
theorem lq_1609 : Cond.code yX10_check cX10_check 3 (some .int) ∈ gTs := g_word (i := 1609) (by rfl) rfl
set_option maxRecDepth 100000 in
theorem lq_1614 : Cond.methodLink R_law 142 yX10_count ∈ gTs := g_word (i := 1614) (by decide +kernel) rfl
set_option maxRecDepth 100000 in
theorem lq_1615 : Cond.instanceMethod yX10_count ∈ gTs := g_word (i := 1615) (by decide +kernel) rfl
set_option maxRecDepth 100000 in
theorem lq_1616 : Cond.selects RX10 yX10_count yX10_count ∈ gTs := g_word (i := 1616) (by decide +kernel) rfl
set_option maxRecDepth 100000 in
theorem lq_1617 : Cond.code yX10_count cX10_count 2 (some .int) ∈ gTs := g_word (i := 1617) (by rfl) rfl
set_option maxHeartbeats 4000000 in
set_option maxRecDepth 100000 in
theorem lc_0 {κ : lC} {i : Int32} {wx wm : gT} {N n : Nat} (ok : lOk κ) (hN : 5000 ≤ N) (h : Rel N wx wm) (hk : Mk n wx) (hn : n + 10 < 2 ^ 30) (hin : ∀ k, k ≤ 5 → vp_in (i + nI k) (lL κ)) (K : ∀ wx' wm', Rel N wx' wm' → Mk (n + 10) wx' → lJ κ 1128 i [] wx' wm') : lJ κ 168 i [] wx wm := by
  obtain ⟨r, wx', wm', e1, e2, hR, hK0⟩ := (o_cats h (la κ i 1) (la κ i 2)).m hk (p_X9_cats wx (la κ i 1) (la κ i 2) wx ⟨rfl, rfl, rfl⟩)
  have hK := hK0.le (show n ≤ n + 10 by omega)
  have hx1 := kX9_cats (la κ i 1) (la κ i 2) wx
  rw [e1] at hx1
  have hm1 := kX10_cats (la κ i 1) (la κ i 2) wm
  rw [e2] at hm1
  refine l_x ok dL_law_168 rfl ?_
  refine l_arg ok 1 dL_law_169 dL_law_170 dL_law_171 dL_law_172 dL_law_173 rfl (by decide) (hin 1 (by decide)) ?_
  refine l_arg ok 2 dL_law_174 dL_law_175 dL_law_176 dL_law_177 dL_law_178 rfl (by decide) (hin 2 (by decide)) ?_
  refine l_callX (n := 2) (is := [la κ i 1, la κ i 2]) (st := []) ok dL_law_179 rfl hx1 ⟨lq_424, lq_425, lq_426, lq_80, lq_427, by decide +kernel, by decide +kernel, by decide +kernel⟩ ⟨rfl, rfl, Nat.le_of_ble_eq_true rfl, Nat.le_of_ble_eq_true rfl⟩ rfl rfl rfl (Nat.le_of_ble_eq_true rfl) ?_
  refine l_m ok dL_law_182 rfl ?_
  refine l_arg ok 1 dL_law_183 dL_law_184 dL_law_185 dL_law_186 dL_law_187 rfl (by decide) (hin 1 (by decide)) ?_
  refine l_arg ok 2 dL_law_188 dL_law_189 dL_law_190 dL_law_191 dL_law_192 rfl (by decide) (hin 2 (by decide)) ?_
  refine l_callM (n := 2) (is := [la κ i 1, la κ i 2]) (st := [.int r]) ok dL_law_193 rfl hm1 ⟨lq_1249, lq_1250, lq_1251, lq_90, lq_1252, by decide +kernel, by decide +kernel, by decide +kernel⟩ ⟨rfl, rfl, Nat.le_of_ble_eq_true rfl, Nat.le_of_ble_eq_true rfl⟩ rfl rfl rfl (Nat.le_of_ble_eq_true rfl) ?_
  exact l_eq (q := 1128) ok dL_law_196 (by decide) (K wx' wm' hR hK)
set_option maxHeartbeats 4000000 in
set_option maxRecDepth 100000 in
theorem lc_1 {κ : lC} {i : Int32} {wx wm : gT} {N n : Nat} (ok : lOk κ) (hN : 5000 ≤ N) (h : Rel N wx wm) (hk : Mk n wx) (hn : n + 10 < 2 ^ 30) (hin : ∀ k, k ≤ 5 → vp_in (i + nI k) (lL κ)) (K : ∀ wx' wm', Rel N wx' wm' → Mk (n + 10) wx' → lJ κ 1128 i [] wx' wm') : lJ κ 201 i [] wx wm := by
  obtain ⟨r, wx', wm', e1, e2, hR, hK0⟩ := (o_allSouls h (la κ i 1)).m hk (p_X9_allSouls wx (la κ i 1) wx ⟨rfl, rfl, rfl⟩)
  have hK := hK0.le (show n ≤ n + 10 by omega)
  have hx1 := kX9_allSouls (la κ i 1) wx
  rw [e1] at hx1
  have hm1 := kX10_allSouls (la κ i 1) wm
  rw [e2] at hm1
  refine l_x ok dL_law_201 rfl ?_
  refine l_arg ok 1 dL_law_202 dL_law_203 dL_law_204 dL_law_205 dL_law_206 rfl (by decide) (hin 1 (by decide)) ?_
  refine l_callX (n := 1) (is := [la κ i 1]) (st := []) ok dL_law_207 rfl hx1 ⟨lq_434, lq_435, lq_436, lq_80, lq_437, by decide +kernel, by decide +kernel, by decide +kernel⟩ ⟨rfl, rfl, Nat.le_of_ble_eq_true rfl, Nat.le_of_ble_eq_true rfl⟩ rfl rfl rfl (Nat.le_of_ble_eq_true rfl) ?_
  refine l_m ok dL_law_210 rfl ?_
  refine l_arg ok 1 dL_law_211 dL_law_212 dL_law_213 dL_law_214 dL_law_215 rfl (by decide) (hin 1 (by decide)) ?_
  refine l_callM (n := 1) (is := [la κ i 1]) (st := [.int r]) ok dL_law_216 rfl hm1 ⟨lq_1259, lq_1260, lq_1261, lq_90, lq_1262, by decide +kernel, by decide +kernel, by decide +kernel⟩ ⟨rfl, rfl, Nat.le_of_ble_eq_true rfl, Nat.le_of_ble_eq_true rfl⟩ rfl rfl rfl (Nat.le_of_ble_eq_true rfl) ?_
  exact l_eq (q := 1128) ok dL_law_219 (by decide) (K wx' wm' hR hK)
set_option maxHeartbeats 4000000 in
set_option maxRecDepth 100000 in
theorem lc_2 {κ : lC} {i : Int32} {wx wm : gT} {N n : Nat} (ok : lOk κ) (hN : 5000 ≤ N) (h : Rel N wx wm) (hk : Mk n wx) (hn : n + 10 < 2 ^ 30) (hin : ∀ k, k ≤ 5 → vp_in (i + nI k) (lL κ)) (K : ∀ wx' wm', Rel N wx' wm' → Mk (n + 10) wx' → lJ κ 1128 i [] wx' wm') : lJ κ 224 i [] wx wm := by
  obtain ⟨r, wx', wm', e1, e2, hR, hK0⟩ := (o_chains h (la κ i 1)).m hk (p_X9_chains wx (la κ i 1) wx ⟨rfl, rfl, rfl⟩)
  have hK := hK0.le (show n ≤ n + 10 by omega)
  have hx1 := kX9_chains (la κ i 1) wx
  rw [e1] at hx1
  have hm1 := kX10_chains (la κ i 1) wm
  rw [e2] at hm1
  refine l_x ok dL_law_224 rfl ?_
  refine l_arg ok 1 dL_law_225 dL_law_226 dL_law_227 dL_law_228 dL_law_229 rfl (by decide) (hin 1 (by decide)) ?_
  refine l_callX (n := 1) (is := [la κ i 1]) (st := []) ok dL_law_230 rfl hx1 ⟨lq_441, lq_442, lq_443, lq_80, lq_444, by decide +kernel, by decide +kernel, by decide +kernel⟩ ⟨rfl, rfl, Nat.le_of_ble_eq_true rfl, Nat.le_of_ble_eq_true rfl⟩ rfl rfl rfl (Nat.le_of_ble_eq_true rfl) ?_
  refine l_m ok dL_law_233 rfl ?_
  refine l_arg ok 1 dL_law_234 dL_law_235 dL_law_236 dL_law_237 dL_law_238 rfl (by decide) (hin 1 (by decide)) ?_
  refine l_callM (n := 1) (is := [la κ i 1]) (st := [.int r]) ok dL_law_239 rfl hm1 ⟨lq_1266, lq_1267, lq_1268, lq_90, lq_1269, by decide +kernel, by decide +kernel, by decide +kernel⟩ ⟨rfl, rfl, Nat.le_of_ble_eq_true rfl, Nat.le_of_ble_eq_true rfl⟩ rfl rfl rfl (Nat.le_of_ble_eq_true rfl) ?_
  exact l_eq (q := 1128) ok dL_law_242 (by decide) (K wx' wm' hR hK)
set_option maxHeartbeats 4000000 in
set_option maxRecDepth 100000 in
theorem lc_3 {κ : lC} {i : Int32} {wx wm : gT} {N n : Nat} (ok : lOk κ) (hN : 5000 ≤ N) (h : Rel N wx wm) (hk : Mk n wx) (hn : n + 10 < 2 ^ 30) (hin : ∀ k, k ≤ 5 → vp_in (i + nI k) (lL κ)) (K : ∀ wx' wm', Rel N wx' wm' → Mk (n + 10) wx' → lJ κ 1128 i [] wx' wm') : lJ κ 247 i [] wx wm := by
  obtain ⟨r, wx', wm', e1, e2, hR, hK0⟩ := (o_sleeper hN h (la κ i 1) (la κ i 2)).m hk (p_X9_sleeper N wx (la κ i 1) (la κ i 2) wx ⟨rfl, rfl, rfl⟩)
  have hK := hK0.le (show n ≤ n + 10 by omega)
  have hx1 := kX9_sleeper N (la κ i 1) (la κ i 2) wx
  rw [e1] at hx1
  have hm1 := kX10_sleeper N (la κ i 1) (la κ i 2) wm
  rw [e2] at hm1
  refine l_x ok dL_law_247 rfl ?_
  refine l_arg ok 1 dL_law_248 dL_law_249 dL_law_250 dL_law_251 dL_law_252 rfl (by decide) (hin 1 (by decide)) ?_
  refine l_arg ok 2 dL_law_253 dL_law_254 dL_law_255 dL_law_256 dL_law_257 rfl (by decide) (hin 2 (by decide)) ?_
  refine l_callX (n := 2) (is := [la κ i 1, la κ i 2]) (st := []) ok dL_law_258 rfl hx1 ⟨lq_445, lq_446, lq_447, lq_80, lq_448, by decide +kernel, by decide +kernel, by decide +kernel⟩ ⟨rfl, rfl, Nat.le_of_ble_eq_true rfl, Nat.le_of_ble_eq_true rfl⟩ rfl rfl rfl (Nat.le_of_ble_eq_true rfl) ?_
  refine l_m ok dL_law_261 rfl ?_
  refine l_arg ok 1 dL_law_262 dL_law_263 dL_law_264 dL_law_265 dL_law_266 rfl (by decide) (hin 1 (by decide)) ?_
  refine l_arg ok 2 dL_law_267 dL_law_268 dL_law_269 dL_law_270 dL_law_271 rfl (by decide) (hin 2 (by decide)) ?_
  refine l_callM (n := 2) (is := [la κ i 1, la κ i 2]) (st := [.int r]) ok dL_law_272 rfl hm1 ⟨lq_1270, lq_1271, lq_1272, lq_90, lq_1273, by decide +kernel, by decide +kernel, by decide +kernel⟩ ⟨rfl, rfl, Nat.le_of_ble_eq_true rfl, Nat.le_of_ble_eq_true rfl⟩ rfl rfl rfl (Nat.le_of_ble_eq_true rfl) ?_
  exact l_eq (q := 1128) ok dL_law_275 (by decide) (K wx' wm' hR hK)
set_option maxHeartbeats 4000000 in
set_option maxRecDepth 100000 in
theorem lc_4 {κ : lC} {i : Int32} {wx wm : gT} {N n : Nat} (ok : lOk κ) (hN : 5000 ≤ N) (h : Rel N wx wm) (hk : Mk n wx) (hn : n + 10 < 2 ^ 30) (hin : ∀ k, k ≤ 5 → vp_in (i + nI k) (lL κ)) (K : ∀ wx' wm', Rel N wx' wm' → Mk (n + 10) wx' → lJ κ 1128 i [] wx' wm') : lJ κ 280 i [] wx wm := by
  obtain ⟨r, wx', wm', e1, e2, hR, hK0⟩ := (o_sleeps hN h (la κ i 1) (la κ i 2) (la κ i 3) (la κ i 4)).m hk (p_X9_sleeps N wx (la κ i 1) (la κ i 2) (la κ i 3) (la κ i 4) wx ⟨rfl, rfl, rfl⟩)
  have hK := hK0.le (show n ≤ n + 10 by omega)
  have hx1 := kX9_sleeps N (la κ i 1) (la κ i 2) (la κ i 3) (la κ i 4) wx
  rw [e1] at hx1
  have hm1 := kX10_sleeps N (la κ i 1) (la κ i 2) (la κ i 3) (la κ i 4) wm
  rw [e2] at hm1
  refine l_x ok dL_law_280 rfl ?_
  refine l_arg ok 1 dL_law_281 dL_law_282 dL_law_283 dL_law_284 dL_law_285 rfl (by decide) (hin 1 (by decide)) ?_
  refine l_arg ok 2 dL_law_286 dL_law_287 dL_law_288 dL_law_289 dL_law_290 rfl (by decide) (hin 2 (by decide)) ?_
  refine l_arg ok 3 dL_law_291 dL_law_292 dL_law_293 dL_law_294 dL_law_295 rfl (by decide) (hin 3 (by decide)) ?_
  refine l_arg ok 4 dL_law_296 dL_law_297 dL_law_298 dL_law_299 dL_law_300 rfl (by decide) (hin 4 (by decide)) ?_
  refine l_callX (n := 4) (is := [la κ i 1, la κ i 2, la κ i 3, la κ i 4]) (st := []) ok dL_law_301 rfl hx1 ⟨lq_453, lq_454, lq_455, lq_80, lq_456, by decide +kernel, by decide +kernel, by decide +kernel⟩ ⟨rfl, rfl, Nat.le_of_ble_eq_true rfl, Nat.le_of_ble_eq_true rfl⟩ rfl rfl rfl (Nat.le_of_ble_eq_true rfl) ?_
  refine l_m ok dL_law_304 rfl ?_
  refine l_arg ok 1 dL_law_305 dL_law_306 dL_law_307 dL_law_308 dL_law_309 rfl (by decide) (hin 1 (by decide)) ?_
  refine l_arg ok 2 dL_law_310 dL_law_311 dL_law_312 dL_law_313 dL_law_314 rfl (by decide) (hin 2 (by decide)) ?_
  refine l_arg ok 3 dL_law_315 dL_law_316 dL_law_317 dL_law_318 dL_law_319 rfl (by decide) (hin 3 (by decide)) ?_
  refine l_arg ok 4 dL_law_320 dL_law_321 dL_law_322 dL_law_323 dL_law_324 rfl (by decide) (hin 4 (by decide)) ?_
  refine l_callM (n := 4) (is := [la κ i 1, la κ i 2, la κ i 3, la κ i 4]) (st := [.int r]) ok dL_law_325 rfl hm1 ⟨lq_1274, lq_1275, lq_1276, lq_90, lq_1277, by decide +kernel, by decide +kernel, by decide +kernel⟩ ⟨rfl, rfl, Nat.le_of_ble_eq_true rfl, Nat.le_of_ble_eq_true rfl⟩ rfl rfl rfl (Nat.le_of_ble_eq_true rfl) ?_
  exact l_eq (q := 1128) ok dL_law_328 (by decide) (K wx' wm' hR hK)
set_option maxHeartbeats 4000000 in
set_option maxRecDepth 100000 in
theorem lc_5 {κ : lC} {i : Int32} {wx wm : gT} {N n : Nat} (ok : lOk κ) (hN : 5000 ≤ N) (h : Rel N wx wm) (hk : Mk n wx) (hn : n + 10 < 2 ^ 30) (hin : ∀ k, k ≤ 5 → vp_in (i + nI k) (lL κ)) (K : ∀ wx' wm', Rel N wx' wm' → Mk (n + 10) wx' → lJ κ 1128 i [] wx' wm') : lJ κ 333 i [] wx wm := by
  obtain ⟨r, wx', wm', e1, e2, hR, hK0⟩ := (o_ghost h (la κ i 1) (la κ i 2) (la κ i 3) (la κ i 4) (la κ i 5)).m hk (p_X9_ghost wx (la κ i 1) (la κ i 2) (la κ i 3) (la κ i 4) (la κ i 5) wx ⟨rfl, rfl, rfl⟩)
  have hK := hK0.le (show n ≤ n + 10 by omega)
  have hx1 := kX9_ghost (la κ i 1) (la κ i 2) (la κ i 3) (la κ i 4) (la κ i 5) wx
  rw [e1] at hx1
  have hm1 := kX10_ghost (la κ i 1) (la κ i 2) (la κ i 3) (la κ i 4) (la κ i 5) wm
  rw [e2] at hm1
  refine l_x ok dL_law_333 rfl ?_
  refine l_arg ok 1 dL_law_334 dL_law_335 dL_law_336 dL_law_337 dL_law_338 rfl (by decide) (hin 1 (by decide)) ?_
  refine l_arg ok 2 dL_law_339 dL_law_340 dL_law_341 dL_law_342 dL_law_343 rfl (by decide) (hin 2 (by decide)) ?_
  refine l_arg ok 3 dL_law_344 dL_law_345 dL_law_346 dL_law_347 dL_law_348 rfl (by decide) (hin 3 (by decide)) ?_
  refine l_arg ok 4 dL_law_349 dL_law_350 dL_law_351 dL_law_352 dL_law_353 rfl (by decide) (hin 4 (by decide)) ?_
  refine l_arg ok 5 dL_law_354 dL_law_355 dL_law_356 dL_law_357 dL_law_358 rfl (by decide) (hin 5 (by decide)) ?_
  refine l_callX (n := 5) (is := [la κ i 1, la κ i 2, la κ i 3, la κ i 4, la κ i 5]) (st := []) ok dL_law_359 rfl hx1 ⟨lq_461, lq_462, lq_463, lq_80, lq_464, by decide +kernel, by decide +kernel, by decide +kernel⟩ ⟨rfl, rfl, Nat.le_of_ble_eq_true rfl, Nat.le_of_ble_eq_true rfl⟩ rfl rfl rfl (Nat.le_of_ble_eq_true rfl) ?_
  refine l_m ok dL_law_362 rfl ?_
  refine l_arg ok 1 dL_law_363 dL_law_364 dL_law_365 dL_law_366 dL_law_367 rfl (by decide) (hin 1 (by decide)) ?_
  refine l_arg ok 2 dL_law_368 dL_law_369 dL_law_370 dL_law_371 dL_law_372 rfl (by decide) (hin 2 (by decide)) ?_
  refine l_arg ok 3 dL_law_373 dL_law_374 dL_law_375 dL_law_376 dL_law_377 rfl (by decide) (hin 3 (by decide)) ?_
  refine l_arg ok 4 dL_law_378 dL_law_379 dL_law_380 dL_law_381 dL_law_382 rfl (by decide) (hin 4 (by decide)) ?_
  refine l_arg ok 5 dL_law_383 dL_law_384 dL_law_385 dL_law_386 dL_law_387 rfl (by decide) (hin 5 (by decide)) ?_
  refine l_callM (n := 5) (is := [la κ i 1, la κ i 2, la κ i 3, la κ i 4, la κ i 5]) (st := [.int r]) ok dL_law_388 rfl hm1 ⟨lq_1285, lq_1286, lq_1287, lq_90, lq_1288, by decide +kernel, by decide +kernel, by decide +kernel⟩ ⟨rfl, rfl, Nat.le_of_ble_eq_true rfl, Nat.le_of_ble_eq_true rfl⟩ rfl rfl rfl (Nat.le_of_ble_eq_true rfl) ?_
  exact l_eq (q := 1128) ok dL_law_391 (by decide) (K wx' wm' hR hK)
set_option maxHeartbeats 4000000 in
set_option maxRecDepth 100000 in
theorem lc_6 {κ : lC} {i : Int32} {wx wm : gT} {N n : Nat} (ok : lOk κ) (hN : 5000 ≤ N) (h : Rel N wx wm) (hk : Mk n wx) (hn : n + 10 < 2 ^ 30) (hin : ∀ k, k ≤ 5 → vp_in (i + nI k) (lL κ)) (K : ∀ wx' wm', Rel N wx' wm' → Mk (n + 10) wx' → lJ κ 1128 i [] wx' wm') : lJ κ 396 i [] wx wm := by
  obtain ⟨r, wx', wm', e1, e2, hR, hK0⟩ := (o_feed hN h (la κ i 1) (la κ i 2) (la κ i 3) (la κ i 4) (la κ i 5)).m hk (p_X9_feed N wx (la κ i 1) (la κ i 2) (la κ i 3) (la κ i 4) (la κ i 5) wx ⟨rfl, rfl, rfl⟩)
  have hK := hK0.le (show n ≤ n + 10 by omega)
  have hx1 := kX9_feed N (la κ i 1) (la κ i 2) (la κ i 3) (la κ i 4) (la κ i 5) wx
  rw [e1] at hx1
  have hm1 := kX10_feed N (la κ i 1) (la κ i 2) (la κ i 3) (la κ i 4) (la κ i 5) wm
  rw [e2] at hm1
  refine l_x ok dL_law_396 rfl ?_
  refine l_arg ok 1 dL_law_397 dL_law_398 dL_law_399 dL_law_400 dL_law_401 rfl (by decide) (hin 1 (by decide)) ?_
  refine l_arg ok 2 dL_law_402 dL_law_403 dL_law_404 dL_law_405 dL_law_406 rfl (by decide) (hin 2 (by decide)) ?_
  refine l_arg ok 3 dL_law_407 dL_law_408 dL_law_409 dL_law_410 dL_law_411 rfl (by decide) (hin 3 (by decide)) ?_
  refine l_arg ok 4 dL_law_412 dL_law_413 dL_law_414 dL_law_415 dL_law_416 rfl (by decide) (hin 4 (by decide)) ?_
  refine l_arg ok 5 dL_law_417 dL_law_418 dL_law_419 dL_law_420 dL_law_421 rfl (by decide) (hin 5 (by decide)) ?_
  refine l_callX (n := 5) (is := [la κ i 1, la κ i 2, la κ i 3, la κ i 4, la κ i 5]) (st := []) ok dL_law_422 rfl hx1 ⟨lq_469, lq_470, lq_471, lq_80, lq_472, by decide +kernel, by decide +kernel, by decide +kernel⟩ ⟨rfl, rfl, Nat.le_of_ble_eq_true rfl, Nat.le_of_ble_eq_true rfl⟩ rfl rfl rfl (Nat.le_of_ble_eq_true rfl) ?_
  refine l_m ok dL_law_425 rfl ?_
  refine l_arg ok 1 dL_law_426 dL_law_427 dL_law_428 dL_law_429 dL_law_430 rfl (by decide) (hin 1 (by decide)) ?_
  refine l_arg ok 2 dL_law_431 dL_law_432 dL_law_433 dL_law_434 dL_law_435 rfl (by decide) (hin 2 (by decide)) ?_
  refine l_arg ok 3 dL_law_436 dL_law_437 dL_law_438 dL_law_439 dL_law_440 rfl (by decide) (hin 3 (by decide)) ?_
  refine l_arg ok 4 dL_law_441 dL_law_442 dL_law_443 dL_law_444 dL_law_445 rfl (by decide) (hin 4 (by decide)) ?_
  refine l_arg ok 5 dL_law_446 dL_law_447 dL_law_448 dL_law_449 dL_law_450 rfl (by decide) (hin 5 (by decide)) ?_
  refine l_callM (n := 5) (is := [la κ i 1, la κ i 2, la κ i 3, la κ i 4, la κ i 5]) (st := [.int r]) ok dL_law_451 rfl hm1 ⟨lq_1289, lq_1290, lq_1291, lq_90, lq_1292, by decide +kernel, by decide +kernel, by decide +kernel⟩ ⟨rfl, rfl, Nat.le_of_ble_eq_true rfl, Nat.le_of_ble_eq_true rfl⟩ rfl rfl rfl (Nat.le_of_ble_eq_true rfl) ?_
  exact l_eq (q := 1128) ok dL_law_454 (by decide) (K wx' wm' hR hK)
set_option maxHeartbeats 4000000 in
set_option maxRecDepth 100000 in
theorem lc_7 {κ : lC} {i : Int32} {wx wm : gT} {N n : Nat} (ok : lOk κ) (hN : 5000 ≤ N) (h : Rel N wx wm) (hk : Mk n wx) (hn : n + 10 < 2 ^ 30) (hin : ∀ k, k ≤ 5 → vp_in (i + nI k) (lL κ)) (K : ∀ wx' wm', Rel N wx' wm' → Mk (n + 10) wx' → lJ κ 1128 i [] wx' wm') : lJ κ 459 i [] wx wm := by
  obtain ⟨r, wx', wm', e1, e2, hR, hK0⟩ := (o_rota hN h (la κ i 1)).m hk (p_X9_rota N wx (la κ i 1) wx ⟨rfl, rfl, rfl⟩)
  have hK := hK0.le (show n ≤ n + 10 by omega)
  have hx1 := kX9_rota N (la κ i 1) wx
  rw [e1] at hx1
  have hm1 := kX10_rota N (la κ i 1) wm
  rw [e2] at hm1
  refine l_x ok dL_law_459 rfl ?_
  refine l_arg ok 1 dL_law_460 dL_law_461 dL_law_462 dL_law_463 dL_law_464 rfl (by decide) (hin 1 (by decide)) ?_
  refine l_callX (n := 1) (is := [la κ i 1]) (st := []) ok dL_law_465 rfl hx1 ⟨lq_481, lq_482, lq_483, lq_80, lq_484, by decide +kernel, by decide +kernel, by decide +kernel⟩ ⟨rfl, rfl, Nat.le_of_ble_eq_true rfl, Nat.le_of_ble_eq_true rfl⟩ rfl rfl rfl (Nat.le_of_ble_eq_true rfl) ?_
  refine l_m ok dL_law_468 rfl ?_
  refine l_arg ok 1 dL_law_469 dL_law_470 dL_law_471 dL_law_472 dL_law_473 rfl (by decide) (hin 1 (by decide)) ?_
  refine l_callM (n := 1) (is := [la κ i 1]) (st := [.int r]) ok dL_law_474 rfl hm1 ⟨lq_1297, lq_1298, lq_1299, lq_90, lq_1300, by decide +kernel, by decide +kernel, by decide +kernel⟩ ⟨rfl, rfl, Nat.le_of_ble_eq_true rfl, Nat.le_of_ble_eq_true rfl⟩ rfl rfl rfl (Nat.le_of_ble_eq_true rfl) ?_
  exact l_eq (q := 1128) ok dL_law_477 (by decide) (K wx' wm' hR hK)
set_option maxHeartbeats 4000000 in
set_option maxRecDepth 100000 in
theorem lc_8 {κ : lC} {i : Int32} {wx wm : gT} {N n : Nat} (ok : lOk κ) (hN : 5000 ≤ N) (h : Rel N wx wm) (hk : Mk n wx) (hn : n + 10 < 2 ^ 30) (hin : ∀ k, k ≤ 5 → vp_in (i + nI k) (lL κ)) (K : ∀ wx' wm', Rel N wx' wm' → Mk (n + 10) wx' → lJ κ 1128 i [] wx' wm') : lJ κ 482 i [] wx wm := by
  obtain ⟨r, wx', wm', e1, e2, hR, hK0⟩ := (o_law hN h (la κ i 1)).m hk (p_X9_law N wx (la κ i 1) wx ⟨rfl, rfl, rfl⟩)
  have hK := hK0.le (show n ≤ n + 10 by omega)
  have hx1 := kX9_law N (la κ i 1) wx
  rw [e1] at hx1
  have hm1 := kX10_law N (la κ i 1) wm
  rw [e2] at hm1
  refine l_x ok dL_law_482 rfl ?_
  refine l_arg ok 1 dL_law_483 dL_law_484 dL_law_485 dL_law_486 dL_law_487 rfl (by decide) (hin 1 (by decide)) ?_
  refine l_callX (n := 1) (is := [la κ i 1]) (st := []) ok dL_law_488 rfl hx1 ⟨lq_542, lq_543, lq_544, lq_80, lq_545, by decide +kernel, by decide +kernel, by decide +kernel⟩ ⟨rfl, rfl, Nat.le_of_ble_eq_true rfl, Nat.le_of_ble_eq_true rfl⟩ rfl rfl rfl (Nat.le_of_ble_eq_true rfl) ?_
  refine l_m ok dL_law_491 rfl ?_
  refine l_arg ok 1 dL_law_492 dL_law_493 dL_law_494 dL_law_495 dL_law_496 rfl (by decide) (hin 1 (by decide)) ?_
  refine l_callM (n := 1) (is := [la κ i 1]) (st := [.int r]) ok dL_law_497 rfl hm1 ⟨lq_1341, lq_1342, lq_1343, lq_90, lq_1344, by decide +kernel, by decide +kernel, by decide +kernel⟩ ⟨rfl, rfl, Nat.le_of_ble_eq_true rfl, Nat.le_of_ble_eq_true rfl⟩ rfl rfl rfl (Nat.le_of_ble_eq_true rfl) ?_
  exact l_eq (q := 1128) ok dL_law_500 (by decide) (K wx' wm' hR hK)
set_option maxHeartbeats 4000000 in
set_option maxRecDepth 100000 in
theorem lc_9 {κ : lC} {i : Int32} {wx wm : gT} {N n : Nat} (ok : lOk κ) (hN : 5000 ≤ N) (h : Rel N wx wm) (hk : Mk n wx) (hn : n + 10 < 2 ^ 30) (hin : ∀ k, k ≤ 5 → vp_in (i + nI k) (lL κ)) (K : ∀ wx' wm', Rel N wx' wm' → Mk (n + 10) wx' → lJ κ 1128 i [] wx' wm') : lJ κ 505 i [] wx wm := by
  obtain ⟨r, wx', wm', e1, e2, hR, hK0⟩ := (o_walk hN h (la κ i 1) (la κ i 2)).m hk (p_X9_walk wx (la κ i 1) (la κ i 2) wx ⟨rfl, rfl, rfl⟩)
  have hK := hK0.le (show n ≤ n + 10 by omega)
  have hx1 := kX9_walk (la κ i 1) (la κ i 2) wx
  rw [e1] at hx1
  have hm1 := kX10_walk N (la κ i 1) (la κ i 2) wm
  rw [e2] at hm1
  refine l_x ok dL_law_505 rfl ?_
  refine l_arg ok 1 dL_law_506 dL_law_507 dL_law_508 dL_law_509 dL_law_510 rfl (by decide) (hin 1 (by decide)) ?_
  refine l_arg ok 2 dL_law_511 dL_law_512 dL_law_513 dL_law_514 dL_law_515 rfl (by decide) (hin 2 (by decide)) ?_
  refine l_callX (n := 2) (is := [la κ i 1, la κ i 2]) (st := []) ok dL_law_516 rfl hx1 ⟨lq_714, lq_715, lq_716, lq_80, lq_717, by decide +kernel, by decide +kernel, by decide +kernel⟩ ⟨rfl, rfl, Nat.le_of_ble_eq_true rfl, Nat.le_of_ble_eq_true rfl⟩ rfl rfl rfl (Nat.le_of_ble_eq_true rfl) ?_
  refine l_m ok dL_law_519 rfl ?_
  refine l_arg ok 1 dL_law_520 dL_law_521 dL_law_522 dL_law_523 dL_law_524 rfl (by decide) (hin 1 (by decide)) ?_
  refine l_arg ok 2 dL_law_525 dL_law_526 dL_law_527 dL_law_528 dL_law_529 rfl (by decide) (hin 2 (by decide)) ?_
  refine l_callM (n := 2) (is := [la κ i 1, la κ i 2]) (st := [.int r]) ok dL_law_530 rfl hm1 ⟨lq_1329, lq_1330, lq_1331, lq_90, lq_1332, by decide +kernel, by decide +kernel, by decide +kernel⟩ ⟨rfl, rfl, Nat.le_of_ble_eq_true rfl, Nat.le_of_ble_eq_true rfl⟩ rfl rfl rfl (Nat.le_of_ble_eq_true rfl) ?_
  exact l_eq (q := 1128) ok dL_law_533 (by decide) (K wx' wm' hR hK)
set_option maxHeartbeats 4000000 in
set_option maxRecDepth 100000 in
theorem lc_10 {κ : lC} {i : Int32} {wx wm : gT} {N n : Nat} (ok : lOk κ) (hN : 5000 ≤ N) (h : Rel N wx wm) (hk : Mk n wx) (hn : n + 10 < 2 ^ 30) (hin : ∀ k, k ≤ 5 → vp_in (i + nI k) (lL κ)) (K : ∀ wx' wm', Rel N wx' wm' → Mk (n + 10) wx' → lJ κ 1128 i [] wx' wm') : lJ κ 538 i [] wx wm := by
  obtain ⟨r, wx', wm', e1, e2, hR, hK0⟩ := (o_fright hN h (la κ i 1) (la κ i 2) (la κ i 3) (la κ i 4) (la κ i 5)).m hk (p_X9_fright N wx (la κ i 1) (la κ i 2) (la κ i 3) (la κ i 4) (la κ i 5) wx ⟨rfl, rfl, rfl⟩)
  have hK := hK0.le (show n ≤ n + 10 by omega)
  have hx1 := kX9_fright N (la κ i 1) (la κ i 2) (la κ i 3) (la κ i 4) (la κ i 5) wx
  rw [e1] at hx1
  have hm1 := kX10_fright N (la κ i 1) (la κ i 2) (la κ i 3) (la κ i 4) (la κ i 5) wm
  rw [e2] at hm1
  refine l_x ok dL_law_538 rfl ?_
  refine l_arg ok 1 dL_law_539 dL_law_540 dL_law_541 dL_law_542 dL_law_543 rfl (by decide) (hin 1 (by decide)) ?_
  refine l_arg ok 2 dL_law_544 dL_law_545 dL_law_546 dL_law_547 dL_law_548 rfl (by decide) (hin 2 (by decide)) ?_
  refine l_arg ok 3 dL_law_549 dL_law_550 dL_law_551 dL_law_552 dL_law_553 rfl (by decide) (hin 3 (by decide)) ?_
  refine l_arg ok 4 dL_law_554 dL_law_555 dL_law_556 dL_law_557 dL_law_558 rfl (by decide) (hin 4 (by decide)) ?_
  refine l_arg ok 5 dL_law_559 dL_law_560 dL_law_561 dL_law_562 dL_law_563 rfl (by decide) (hin 5 (by decide)) ?_
  refine l_callX (n := 5) (is := [la κ i 1, la κ i 2, la κ i 3, la κ i 4, la κ i 5]) (st := []) ok dL_law_564 rfl hx1 ⟨lq_726, lq_727, lq_728, lq_80, lq_729, by decide +kernel, by decide +kernel, by decide +kernel⟩ ⟨rfl, rfl, Nat.le_of_ble_eq_true rfl, Nat.le_of_ble_eq_true rfl⟩ rfl rfl rfl (Nat.le_of_ble_eq_true rfl) ?_
  refine l_m ok dL_law_567 rfl ?_
  refine l_arg ok 1 dL_law_568 dL_law_569 dL_law_570 dL_law_571 dL_law_572 rfl (by decide) (hin 1 (by decide)) ?_
  refine l_arg ok 2 dL_law_573 dL_law_574 dL_law_575 dL_law_576 dL_law_577 rfl (by decide) (hin 2 (by decide)) ?_
  refine l_arg ok 3 dL_law_578 dL_law_579 dL_law_580 dL_law_581 dL_law_582 rfl (by decide) (hin 3 (by decide)) ?_
  refine l_arg ok 4 dL_law_583 dL_law_584 dL_law_585 dL_law_586 dL_law_587 rfl (by decide) (hin 4 (by decide)) ?_
  refine l_arg ok 5 dL_law_588 dL_law_589 dL_law_590 dL_law_591 dL_law_592 rfl (by decide) (hin 5 (by decide)) ?_
  refine l_callM (n := 5) (is := [la κ i 1, la κ i 2, la κ i 3, la κ i 4, la κ i 5]) (st := [.int r]) ok dL_law_593 rfl hm1 ⟨lq_1411, lq_1412, lq_1413, lq_90, lq_1414, by decide +kernel, by decide +kernel, by decide +kernel⟩ ⟨rfl, rfl, Nat.le_of_ble_eq_true rfl, Nat.le_of_ble_eq_true rfl⟩ rfl rfl rfl (Nat.le_of_ble_eq_true rfl) ?_
  exact l_eq (q := 1128) ok dL_law_596 (by decide) (K wx' wm' hR hK)
set_option maxHeartbeats 4000000 in
set_option maxRecDepth 100000 in
theorem lc_11 {κ : lC} {i : Int32} {wx wm : gT} {N n : Nat} (ok : lOk κ) (hN : 5000 ≤ N) (h : Rel N wx wm) (hk : Mk n wx) (hn : n + 10 < 2 ^ 30) (hin : ∀ k, k ≤ 5 → vp_in (i + nI k) (lL κ)) (K : ∀ wx' wm', Rel N wx' wm' → Mk (n + 10) wx' → lJ κ 1128 i [] wx' wm') : lJ κ 601 i [] wx wm := by
  obtain ⟨r, wx', wm', e1, e2, hR, hK0⟩ := (o_week hN h (la κ i 1)).m hk (p_X9_week N wx (la κ i 1) wx ⟨rfl, rfl, rfl⟩)
  have hK := hK0.le (show n ≤ n + 10 by omega)
  have hx1 := kX9_week N (la κ i 1) wx
  rw [e1] at hx1
  have hm1 := kX10_week N (la κ i 1) wm
  rw [e2] at hm1
  refine l_x ok dL_law_601 rfl ?_
  refine l_arg ok 1 dL_law_602 dL_law_603 dL_law_604 dL_law_605 dL_law_606 rfl (by decide) (hin 1 (by decide)) ?_
  refine l_callX (n := 1) (is := [la κ i 1]) (st := []) ok dL_law_607 rfl hx1 ⟨lq_778, lq_779, lq_780, lq_80, lq_781, by decide +kernel, by decide +kernel, by decide +kernel⟩ ⟨rfl, rfl, Nat.le_of_ble_eq_true rfl, Nat.le_of_ble_eq_true rfl⟩ rfl rfl rfl (Nat.le_of_ble_eq_true rfl) ?_
  refine l_m ok dL_law_610 rfl ?_
  refine l_arg ok 1 dL_law_611 dL_law_612 dL_law_613 dL_law_614 dL_law_615 rfl (by decide) (hin 1 (by decide)) ?_
  refine l_callM (n := 1) (is := [la κ i 1]) (st := [.int r]) ok dL_law_616 rfl hm1 ⟨lq_1445, lq_1446, lq_1447, lq_90, lq_1448, by decide +kernel, by decide +kernel, by decide +kernel⟩ ⟨rfl, rfl, Nat.le_of_ble_eq_true rfl, Nat.le_of_ble_eq_true rfl⟩ rfl rfl rfl (Nat.le_of_ble_eq_true rfl) ?_
  exact l_eq (q := 1128) ok dL_law_619 (by decide) (K wx' wm' hR hK)
set_option maxHeartbeats 4000000 in
set_option maxRecDepth 100000 in
theorem lc_12 {κ : lC} {i : Int32} {wx wm : gT} {N n : Nat} (ok : lOk κ) (hN : 5000 ≤ N) (h : Rel N wx wm) (hk : Mk n wx) (hn : n + 10 < 2 ^ 30) (hin : ∀ k, k ≤ 5 → vp_in (i + nI k) (lL κ)) (K : ∀ wx' wm', Rel N wx' wm' → Mk (n + 10) wx' → lJ κ 1128 i [] wx' wm') : lJ κ 624 i [] wx wm := by
  obtain ⟨r, wx', wm', e1, e2, hR, hK0⟩ := (o_live hN h ).m hk (p_X9_live N wx  wx ⟨rfl, rfl, rfl⟩)
  have hK := hK0.le (show n ≤ n + 10 by omega)
  have hx1 := kX9_live N  wx
  rw [e1] at hx1
  have hm1 := kX10_live N  wm
  rw [e2] at hm1
  refine l_x ok dL_law_624 rfl ?_
  refine l_callX (n := 0) (is := []) (st := []) ok dL_law_625 rfl hx1 ⟨lq_819, lq_820, lq_821, lq_80, lq_822, by decide +kernel, by decide +kernel, by decide +kernel⟩ ⟨rfl, rfl, Nat.le_of_ble_eq_true rfl, Nat.le_of_ble_eq_true rfl⟩ rfl rfl rfl (Nat.le_of_ble_eq_true rfl) ?_
  refine l_m ok dL_law_628 rfl ?_
  refine l_callM (n := 0) (is := []) (st := [.int r]) ok dL_law_629 rfl hm1 ⟨lq_1478, lq_1479, lq_1480, lq_90, lq_1481, by decide +kernel, by decide +kernel, by decide +kernel⟩ ⟨rfl, rfl, Nat.le_of_ble_eq_true rfl, Nat.le_of_ble_eq_true rfl⟩ rfl rfl rfl (Nat.le_of_ble_eq_true rfl) ?_
  exact l_eq (q := 1128) ok dL_law_632 (by decide) (K wx' wm' hR hK)
set_option maxHeartbeats 4000000 in
set_option maxRecDepth 100000 in
theorem lc_13 {κ : lC} {i : Int32} {wx wm : gT} {N n : Nat} (ok : lOk κ) (hN : 5000 ≤ N) (h : Rel N wx wm) (hk : Mk n wx) (hn : n + 10 < 2 ^ 30) (hin : ∀ k, k ≤ 5 → vp_in (i + nI k) (lL κ)) (K : ∀ wx' wm', Rel N wx' wm' → Mk (n + 10) wx' → lJ κ 1128 i [] wx' wm') : lJ κ 637 i [] wx wm := by
  obtain ⟨r, wx', wm', e1, e2, hR, hK0⟩ := (o_soFar h (la κ i 1)).m hk (p_X9_soFar wx (la κ i 1) wx ⟨rfl, rfl, rfl⟩)
  have hK := hK0.le (show n ≤ n + 10 by omega)
  have hx1 := kX9_soFar (la κ i 1) wx
  rw [e1] at hx1
  have hm1 := kX10_soFar (la κ i 1) wm
  rw [e2] at hm1
  refine l_x ok dL_law_637 rfl ?_
  refine l_arg ok 1 dL_law_638 dL_law_639 dL_law_640 dL_law_641 dL_law_642 rfl (by decide) (hin 1 (by decide)) ?_
  refine l_callX (n := 1) (is := [la κ i 1]) (st := []) ok dL_law_643 rfl hx1 ⟨lq_823, lq_824, lq_825, lq_80, lq_826, by decide +kernel, by decide +kernel, by decide +kernel⟩ ⟨rfl, rfl, Nat.le_of_ble_eq_true rfl, Nat.le_of_ble_eq_true rfl⟩ rfl rfl rfl (Nat.le_of_ble_eq_true rfl) ?_
  refine l_m ok dL_law_646 rfl ?_
  refine l_arg ok 1 dL_law_647 dL_law_648 dL_law_649 dL_law_650 dL_law_651 rfl (by decide) (hin 1 (by decide)) ?_
  refine l_callM (n := 1) (is := [la κ i 1]) (st := [.int r]) ok dL_law_652 rfl hm1 ⟨lq_1482, lq_1483, lq_1484, lq_90, lq_1485, by decide +kernel, by decide +kernel, by decide +kernel⟩ ⟨rfl, rfl, Nat.le_of_ble_eq_true rfl, Nat.le_of_ble_eq_true rfl⟩ rfl rfl rfl (Nat.le_of_ble_eq_true rfl) ?_
  exact l_eq (q := 1128) ok dL_law_655 (by decide) (K wx' wm' hR hK)
set_option maxHeartbeats 4000000 in
set_option maxRecDepth 100000 in
theorem lc_14 {κ : lC} {i : Int32} {wx wm : gT} {N n : Nat} (ok : lOk κ) (hN : 5000 ≤ N) (h : Rel N wx wm) (hk : Mk n wx) (hn : n + 10 < 2 ^ 30) (hin : ∀ k, k ≤ 5 → vp_in (i + nI k) (lL κ)) (K : ∀ wx' wm', Rel N wx' wm' → Mk (n + 10) wx' → lJ κ 1128 i [] wx' wm') : lJ κ 660 i [] wx wm := by
  obtain ⟨r, wx', wm', e1, e2, hR, hK⟩ := o_once hN h hk hn (la κ i 1) (la κ i 2)
  have hx1 := kX9_once N (la κ i 1) (la κ i 2) wx
  rw [e1] at hx1
  have hm1 := kX10_once N (la κ i 1) (la κ i 2) wm
  rw [e2] at hm1
  refine l_x ok dL_law_660 rfl ?_
  refine l_arg ok 1 dL_law_661 dL_law_662 dL_law_663 dL_law_664 dL_law_665 rfl (by decide) (hin 1 (by decide)) ?_
  refine l_arg ok 2 dL_law_666 dL_law_667 dL_law_668 dL_law_669 dL_law_670 rfl (by decide) (hin 2 (by decide)) ?_
  refine l_callX (n := 2) (is := [la κ i 1, la κ i 2]) (st := []) ok dL_law_671 rfl hx1 ⟨lq_827, lq_828, lq_829, lq_80, lq_830, by decide +kernel, by decide +kernel, by decide +kernel⟩ ⟨rfl, rfl, Nat.le_of_ble_eq_true rfl, Nat.le_of_ble_eq_true rfl⟩ rfl rfl rfl (Nat.le_of_ble_eq_true rfl) ?_
  refine l_m ok dL_law_674 rfl ?_
  refine l_arg ok 1 dL_law_675 dL_law_676 dL_law_677 dL_law_678 dL_law_679 rfl (by decide) (hin 1 (by decide)) ?_
  refine l_arg ok 2 dL_law_680 dL_law_681 dL_law_682 dL_law_683 dL_law_684 rfl (by decide) (hin 2 (by decide)) ?_
  refine l_callM (n := 2) (is := [la κ i 1, la κ i 2]) (st := [.int r]) ok dL_law_685 rfl hm1 ⟨lq_1486, lq_1487, lq_1488, lq_90, lq_1489, by decide +kernel, by decide +kernel, by decide +kernel⟩ ⟨rfl, rfl, Nat.le_of_ble_eq_true rfl, Nat.le_of_ble_eq_true rfl⟩ rfl rfl rfl (Nat.le_of_ble_eq_true rfl) ?_
  exact l_eq (q := 1128) ok dL_law_688 (by decide) (K wx' wm' hR hK)
set_option maxHeartbeats 4000000 in
set_option maxRecDepth 100000 in
theorem lc_15 {κ : lC} {i : Int32} {wx wm : gT} {N n : Nat} (ok : lOk κ) (hN : 5000 ≤ N) (h : Rel N wx wm) (hk : Mk n wx) (hn : n + 10 < 2 ^ 30) (hin : ∀ k, k ≤ 5 → vp_in (i + nI k) (lL κ)) (K : ∀ wx' wm', Rel N wx' wm' → Mk (n + 10) wx' → lJ κ 1128 i [] wx' wm') : lJ κ 693 i [] wx wm := by
  obtain ⟨r, wx', wm', e1, e2, hR, hK0⟩ := (o_bestWalk hN h (la κ i 1) (la κ i 2)).m hk (p_X9_bestWalk N wx (la κ i 1) (la κ i 2) wx ⟨rfl, rfl, rfl⟩)
  have hK := hK0.le (show n ≤ n + 10 by omega)
  have hx1 := kX9_bestWalk N (la κ i 1) (la κ i 2) wx
  rw [e1] at hx1
  have hm1 := kX10_bestWalk N (la κ i 1) (la κ i 2) wm
  rw [e2] at hm1
  refine l_x ok dL_law_693 rfl ?_
  refine l_arg ok 1 dL_law_694 dL_law_695 dL_law_696 dL_law_697 dL_law_698 rfl (by decide) (hin 1 (by decide)) ?_
  refine l_arg ok 2 dL_law_699 dL_law_700 dL_law_701 dL_law_702 dL_law_703 rfl (by decide) (hin 2 (by decide)) ?_
  refine l_callX (n := 2) (is := [la κ i 1, la κ i 2]) (st := []) ok dL_law_704 rfl hx1 ⟨lq_874, lq_875, lq_876, lq_80, lq_877, by decide +kernel, by decide +kernel, by decide +kernel⟩ ⟨rfl, rfl, Nat.le_of_ble_eq_true rfl, Nat.le_of_ble_eq_true rfl⟩ rfl rfl rfl (Nat.le_of_ble_eq_true rfl) ?_
  refine l_m ok dL_law_707 rfl ?_
  refine l_arg ok 1 dL_law_708 dL_law_709 dL_law_710 dL_law_711 dL_law_712 rfl (by decide) (hin 1 (by decide)) ?_
  refine l_arg ok 2 dL_law_713 dL_law_714 dL_law_715 dL_law_716 dL_law_717 rfl (by decide) (hin 2 (by decide)) ?_
  refine l_callM (n := 2) (is := [la κ i 1, la κ i 2]) (st := [.int r]) ok dL_law_718 rfl hm1 ⟨lq_1510, lq_1511, lq_1512, lq_90, lq_1513, by decide +kernel, by decide +kernel, by decide +kernel⟩ ⟨rfl, rfl, Nat.le_of_ble_eq_true rfl, Nat.le_of_ble_eq_true rfl⟩ rfl rfl rfl (Nat.le_of_ble_eq_true rfl) ?_
  exact l_eq (q := 1128) ok dL_law_721 (by decide) (K wx' wm' hR hK)
set_option maxHeartbeats 4000000 in
set_option maxRecDepth 100000 in
theorem lc_16 {κ : lC} {i : Int32} {wx wm : gT} {N n : Nat} (ok : lOk κ) (hN : 5000 ≤ N) (h : Rel N wx wm) (hk : Mk n wx) (hn : n + 10 < 2 ^ 30) (hin : ∀ k, k ≤ 5 → vp_in (i + nI k) (lL κ)) (K : ∀ wx' wm', Rel N wx' wm' → Mk (n + 10) wx' → lJ κ 1128 i [] wx' wm') : lJ κ 726 i [] wx wm := by
  obtain ⟨r, wx', wm', e1, e2, hR, hK0⟩ := (o_candle hN h (la κ i 1) (la κ i 2) (la κ i 3)).m hk (p_X9_candle N wx (la κ i 1) (la κ i 2) (la κ i 3) wx ⟨rfl, rfl, rfl⟩)
  have hK := hK0.le (show n ≤ n + 10 by omega)
  have hx1 := kX9_candle N (la κ i 1) (la κ i 2) (la κ i 3) wx
  rw [e1] at hx1
  have hm1 := kX10_candle N (la κ i 1) (la κ i 2) (la κ i 3) wm
  rw [e2] at hm1
  refine l_x ok dL_law_726 rfl ?_
  refine l_arg ok 1 dL_law_727 dL_law_728 dL_law_729 dL_law_730 dL_law_731 rfl (by decide) (hin 1 (by decide)) ?_
  refine l_arg ok 2 dL_law_732 dL_law_733 dL_law_734 dL_law_735 dL_law_736 rfl (by decide) (hin 2 (by decide)) ?_
  refine l_arg ok 3 dL_law_737 dL_law_738 dL_law_739 dL_law_740 dL_law_741 rfl (by decide) (hin 3 (by decide)) ?_
  refine l_callX (n := 3) (is := [la κ i 1, la κ i 2, la κ i 3]) (st := []) ok dL_law_742 rfl hx1 ⟨lq_888, lq_889, lq_890, lq_80, lq_891, by decide +kernel, by decide +kernel, by decide +kernel⟩ ⟨rfl, rfl, Nat.le_of_ble_eq_true rfl, Nat.le_of_ble_eq_true rfl⟩ rfl rfl rfl (Nat.le_of_ble_eq_true rfl) ?_
  refine l_m ok dL_law_745 rfl ?_
  refine l_arg ok 1 dL_law_746 dL_law_747 dL_law_748 dL_law_749 dL_law_750 rfl (by decide) (hin 1 (by decide)) ?_
  refine l_arg ok 2 dL_law_751 dL_law_752 dL_law_753 dL_law_754 dL_law_755 rfl (by decide) (hin 2 (by decide)) ?_
  refine l_arg ok 3 dL_law_756 dL_law_757 dL_law_758 dL_law_759 dL_law_760 rfl (by decide) (hin 3 (by decide)) ?_
  refine l_callM (n := 3) (is := [la κ i 1, la κ i 2, la κ i 3]) (st := [.int r]) ok dL_law_761 rfl hm1 ⟨lq_1518, lq_1519, lq_1520, lq_90, lq_1521, by decide +kernel, by decide +kernel, by decide +kernel⟩ ⟨rfl, rfl, Nat.le_of_ble_eq_true rfl, Nat.le_of_ble_eq_true rfl⟩ rfl rfl rfl (Nat.le_of_ble_eq_true rfl) ?_
  exact l_eq (q := 1128) ok dL_law_764 (by decide) (K wx' wm' hR hK)
set_option maxHeartbeats 4000000 in
set_option maxRecDepth 100000 in
theorem lc_17 {κ : lC} {i : Int32} {wx wm : gT} {N n : Nat} (ok : lOk κ) (hN : 5000 ≤ N) (h : Rel N wx wm) (hk : Mk n wx) (hn : n + 10 < 2 ^ 30) (hin : ∀ k, k ≤ 5 → vp_in (i + nI k) (lL κ)) (K : ∀ wx' wm', Rel N wx' wm' → Mk (n + 10) wx' → lJ κ 1128 i [] wx' wm') : lJ κ 769 i [] wx wm := by
  obtain ⟨r, wx', wm', e1, e2, hR, hK0⟩ := (o_draughts hN h ).m hk (p_X9_draughts N wx  wx ⟨rfl, rfl, rfl⟩)
  have hK := hK0.le (show n ≤ n + 10 by omega)
  have hx1 := kX9_draughts N  wx
  rw [e1] at hx1
  have hm1 := kX10_draughts N  wm
  rw [e2] at hm1
  refine l_x ok dL_law_769 rfl ?_
  refine l_callX (n := 0) (is := []) (st := []) ok dL_law_770 rfl hx1 ⟨lq_894, lq_895, lq_896, lq_80, lq_897, by decide +kernel, by decide +kernel, by decide +kernel⟩ ⟨rfl, rfl, Nat.le_of_ble_eq_true rfl, Nat.le_of_ble_eq_true rfl⟩ rfl rfl rfl (Nat.le_of_ble_eq_true rfl) ?_
  refine l_m ok dL_law_773 rfl ?_
  refine l_callM (n := 0) (is := []) (st := [.int r]) ok dL_law_774 rfl hm1 ⟨lq_1522, lq_1523, lq_1524, lq_90, lq_1525, by decide +kernel, by decide +kernel, by decide +kernel⟩ ⟨rfl, rfl, Nat.le_of_ble_eq_true rfl, Nat.le_of_ble_eq_true rfl⟩ rfl rfl rfl (Nat.le_of_ble_eq_true rfl) ?_
  exact l_eq (q := 1128) ok dL_law_777 (by decide) (K wx' wm' hR hK)
set_option maxHeartbeats 4000000 in
set_option maxRecDepth 100000 in
theorem lc_18 {κ : lC} {i : Int32} {wx wm : gT} {N n : Nat} (ok : lOk κ) (hN : 5000 ≤ N) (h : Rel N wx wm) (hk : Mk n wx) (hn : n + 10 < 2 ^ 30) (hin : ∀ k, k ≤ 5 → vp_in (i + nI k) (lL κ)) (K : ∀ wx' wm', Rel N wx' wm' → Mk (n + 10) wx' → lJ κ 1128 i [] wx' wm') : lJ κ 782 i [] wx wm := by
  obtain ⟨r, wx', wm', e1, e2, hR, hK0⟩ := (o_mended hN h (la κ i 1) (la κ i 2)).m hk (p_X9_mended N wx (la κ i 1) (la κ i 2) wx ⟨rfl, rfl, rfl⟩)
  have hK := hK0.le (show n ≤ n + 10 by omega)
  have hx1 := kX9_mended N (la κ i 1) (la κ i 2) wx
  rw [e1] at hx1
  have hm1 := kX10_mended N (la κ i 1) (la κ i 2) wm
  rw [e2] at hm1
  refine l_x ok dL_law_782 rfl ?_
  refine l_arg ok 1 dL_law_783 dL_law_784 dL_law_785 dL_law_786 dL_law_787 rfl (by decide) (hin 1 (by decide)) ?_
  refine l_arg ok 2 dL_law_788 dL_law_789 dL_law_790 dL_law_791 dL_law_792 rfl (by decide) (hin 2 (by decide)) ?_
  refine l_callX (n := 2) (is := [la κ i 1, la κ i 2]) (st := []) ok dL_law_793 rfl hx1 ⟨lq_898, lq_899, lq_900, lq_80, lq_901, by decide +kernel, by decide +kernel, by decide +kernel⟩ ⟨rfl, rfl, Nat.le_of_ble_eq_true rfl, Nat.le_of_ble_eq_true rfl⟩ rfl rfl rfl (Nat.le_of_ble_eq_true rfl) ?_
  refine l_m ok dL_law_796 rfl ?_
  refine l_arg ok 1 dL_law_797 dL_law_798 dL_law_799 dL_law_800 dL_law_801 rfl (by decide) (hin 1 (by decide)) ?_
  refine l_arg ok 2 dL_law_802 dL_law_803 dL_law_804 dL_law_805 dL_law_806 rfl (by decide) (hin 2 (by decide)) ?_
  refine l_callM (n := 2) (is := [la κ i 1, la κ i 2]) (st := [.int r]) ok dL_law_807 rfl hm1 ⟨lq_1526, lq_1527, lq_1528, lq_90, lq_1529, by decide +kernel, by decide +kernel, by decide +kernel⟩ ⟨rfl, rfl, Nat.le_of_ble_eq_true rfl, Nat.le_of_ble_eq_true rfl⟩ rfl rfl rfl (Nat.le_of_ble_eq_true rfl) ?_
  exact l_eq (q := 1128) ok dL_law_810 (by decide) (K wx' wm' hR hK)
set_option maxHeartbeats 4000000 in
set_option maxRecDepth 100000 in
theorem lc_19 {κ : lC} {i : Int32} {wx wm : gT} {N n : Nat} (ok : lOk κ) (hN : 5000 ≤ N) (h : Rel N wx wm) (hk : Mk n wx) (hn : n + 10 < 2 ^ 30) (hin : ∀ k, k ≤ 5 → vp_in (i + nI k) (lL κ)) (K : ∀ wx' wm', Rel N wx' wm' → Mk (n + 10) wx' → lJ κ 1128 i [] wx' wm') : lJ κ 815 i [] wx wm := by
  obtain ⟨r, wx', wm', e1, e2, hR, hK0⟩ := (o_mend h (la κ i 1)).m hk (p_X9_mend wx (la κ i 1) wx ⟨rfl, rfl, rfl⟩)
  have hK := hK0.le (show n ≤ n + 10 by omega)
  have hx1 := kX9_mend (la κ i 1) wx
  rw [e1] at hx1
  have hm1 := kX10_mend (la κ i 1) wm
  rw [e2] at hm1
  refine l_x ok dL_law_815 rfl ?_
  refine l_arg ok 1 dL_law_816 dL_law_817 dL_law_818 dL_law_819 dL_law_820 rfl (by decide) (hin 1 (by decide)) ?_
  refine l_callX (n := 1) (is := [la κ i 1]) (st := []) ok dL_law_821 rfl hx1 ⟨lq_907, lq_908, lq_909, lq_80, lq_910, by decide +kernel, by decide +kernel, by decide +kernel⟩ ⟨rfl, rfl, Nat.le_of_ble_eq_true rfl, Nat.le_of_ble_eq_true rfl⟩ rfl rfl rfl (Nat.le_of_ble_eq_true rfl) ?_
  refine l_m ok dL_law_824 rfl ?_
  refine l_arg ok 1 dL_law_825 dL_law_826 dL_law_827 dL_law_828 dL_law_829 rfl (by decide) (hin 1 (by decide)) ?_
  refine l_callM (n := 1) (is := [la κ i 1]) (st := [.int r]) ok dL_law_830 rfl hm1 ⟨lq_1535, lq_1536, lq_1537, lq_90, lq_1538, by decide +kernel, by decide +kernel, by decide +kernel⟩ ⟨rfl, rfl, Nat.le_of_ble_eq_true rfl, Nat.le_of_ble_eq_true rfl⟩ rfl rfl rfl (Nat.le_of_ble_eq_true rfl) ?_
  exact l_eq (q := 1128) ok dL_law_833 (by decide) (K wx' wm' hR hK)
set_option maxHeartbeats 4000000 in
set_option maxRecDepth 100000 in
theorem lc_20 {κ : lC} {i : Int32} {wx wm : gT} {N n : Nat} (ok : lOk κ) (hN : 5000 ≤ N) (h : Rel N wx wm) (hk : Mk n wx) (hn : n + 10 < 2 ^ 30) (hin : ∀ k, k ≤ 5 → vp_in (i + nI k) (lL κ)) (K : ∀ wx' wm', Rel N wx' wm' → Mk (n + 10) wx' → lJ κ 1128 i [] wx' wm') : lJ κ 838 i [] wx wm := by
  obtain ⟨r, wx', wm', e1, e2, hR, hK0⟩ := (o_shared hN h (la κ i 1) (la κ i 2)).m hk (p_X9_shared N wx (la κ i 1) (la κ i 2) wx ⟨rfl, rfl, rfl⟩)
  have hK := hK0.le (show n ≤ n + 10 by omega)
  have hx1 := kX9_shared N (la κ i 1) (la κ i 2) wx
  rw [e1] at hx1
  have hm1 := kX10_shared N (la κ i 1) (la κ i 2) wm
  rw [e2] at hm1
  refine l_x ok dL_law_838 rfl ?_
  refine l_arg ok 1 dL_law_839 dL_law_840 dL_law_841 dL_law_842 dL_law_843 rfl (by decide) (hin 1 (by decide)) ?_
  refine l_arg ok 2 dL_law_844 dL_law_845 dL_law_846 dL_law_847 dL_law_848 rfl (by decide) (hin 2 (by decide)) ?_
  refine l_callX (n := 2) (is := [la κ i 1, la κ i 2]) (st := []) ok dL_law_849 rfl hx1 ⟨lq_911, lq_912, lq_913, lq_80, lq_914, by decide +kernel, by decide +kernel, by decide +kernel⟩ ⟨rfl, rfl, Nat.le_of_ble_eq_true rfl, Nat.le_of_ble_eq_true rfl⟩ rfl rfl rfl (Nat.le_of_ble_eq_true rfl) ?_
  refine l_m ok dL_law_852 rfl ?_
  refine l_arg ok 1 dL_law_853 dL_law_854 dL_law_855 dL_law_856 dL_law_857 rfl (by decide) (hin 1 (by decide)) ?_
  refine l_arg ok 2 dL_law_858 dL_law_859 dL_law_860 dL_law_861 dL_law_862 rfl (by decide) (hin 2 (by decide)) ?_
  refine l_callM (n := 2) (is := [la κ i 1, la κ i 2]) (st := [.int r]) ok dL_law_863 rfl hm1 ⟨lq_1539, lq_1540, lq_1541, lq_90, lq_1542, by decide +kernel, by decide +kernel, by decide +kernel⟩ ⟨rfl, rfl, Nat.le_of_ble_eq_true rfl, Nat.le_of_ble_eq_true rfl⟩ rfl rfl rfl (Nat.le_of_ble_eq_true rfl) ?_
  exact l_eq (q := 1128) ok dL_law_866 (by decide) (K wx' wm' hR hK)
set_option maxHeartbeats 4000000 in
set_option maxRecDepth 100000 in
theorem lc_21 {κ : lC} {i : Int32} {wx wm : gT} {N n : Nat} (ok : lOk κ) (hN : 5000 ≤ N) (h : Rel N wx wm) (hk : Mk n wx) (hn : n + 10 < 2 ^ 30) (hin : ∀ k, k ≤ 5 → vp_in (i + nI k) (lL κ)) (K : ∀ wx' wm', Rel N wx' wm' → Mk (n + 10) wx' → lJ κ 1128 i [] wx' wm') : lJ κ 871 i [] wx wm := by
  obtain ⟨r, wx', wm', e1, e2, hR, hK0⟩ := (o_july hN h (la κ i 1) (la κ i 2)).m hk (p_X9_july N wx (la κ i 1) (la κ i 2) wx ⟨rfl, rfl, rfl⟩)
  have hK := hK0.le (show n ≤ n + 10 by omega)
  have hx1 := kX9_july N (la κ i 1) (la κ i 2) wx
  rw [e1] at hx1
  have hm1 := kX10_july N (la κ i 1) (la κ i 2) wm
  rw [e2] at hm1
  refine l_x ok dL_law_871 rfl ?_
  refine l_arg ok 1 dL_law_872 dL_law_873 dL_law_874 dL_law_875 dL_law_876 rfl (by decide) (hin 1 (by decide)) ?_
  refine l_arg ok 2 dL_law_877 dL_law_878 dL_law_879 dL_law_880 dL_law_881 rfl (by decide) (hin 2 (by decide)) ?_
  refine l_callX (n := 2) (is := [la κ i 1, la κ i 2]) (st := []) ok dL_law_882 rfl hx1 ⟨lq_924, lq_925, lq_926, lq_80, lq_927, by decide +kernel, by decide +kernel, by decide +kernel⟩ ⟨rfl, rfl, Nat.le_of_ble_eq_true rfl, Nat.le_of_ble_eq_true rfl⟩ rfl rfl rfl (Nat.le_of_ble_eq_true rfl) ?_
  refine l_m ok dL_law_885 rfl ?_
  refine l_arg ok 1 dL_law_886 dL_law_887 dL_law_888 dL_law_889 dL_law_890 rfl (by decide) (hin 1 (by decide)) ?_
  refine l_arg ok 2 dL_law_891 dL_law_892 dL_law_893 dL_law_894 dL_law_895 rfl (by decide) (hin 2 (by decide)) ?_
  refine l_callM (n := 2) (is := [la κ i 1, la κ i 2]) (st := [.int r]) ok dL_law_896 rfl hm1 ⟨lq_1546, lq_1547, lq_1548, lq_90, lq_1549, by decide +kernel, by decide +kernel, by decide +kernel⟩ ⟨rfl, rfl, Nat.le_of_ble_eq_true rfl, Nat.le_of_ble_eq_true rfl⟩ rfl rfl rfl (Nat.le_of_ble_eq_true rfl) ?_
  exact l_eq (q := 1128) ok dL_law_899 (by decide) (K wx' wm' hR hK)
set_option maxHeartbeats 4000000 in
set_option maxRecDepth 100000 in
theorem lc_22 {κ : lC} {i : Int32} {wx wm : gT} {N n : Nat} (ok : lOk κ) (hN : 5000 ≤ N) (h : Rel N wx wm) (hk : Mk n wx) (hn : n + 10 < 2 ^ 30) (hin : ∀ k, k ≤ 5 → vp_in (i + nI k) (lL κ)) (K : ∀ wx' wm', Rel N wx' wm' → Mk (n + 10) wx' → lJ κ 1128 i [] wx' wm') : lJ κ 904 i [] wx wm := by
  obtain ⟨r, wx', wm', e1, e2, hR, hK0⟩ := (o_off hN h (la κ i 1) (la κ i 2) (la κ i 3)).m hk (p_X9_off N wx (la κ i 1) (la κ i 2) (la κ i 3) wx ⟨rfl, rfl, rfl⟩)
  have hK := hK0.le (show n ≤ n + 10 by omega)
  have hx1 := kX9_off N (la κ i 1) (la κ i 2) (la κ i 3) wx
  rw [e1] at hx1
  have hm1 := kX10_off N (la κ i 1) (la κ i 2) (la κ i 3) wm
  rw [e2] at hm1
  refine l_x ok dL_law_904 rfl ?_
  refine l_arg ok 1 dL_law_905 dL_law_906 dL_law_907 dL_law_908 dL_law_909 rfl (by decide) (hin 1 (by decide)) ?_
  refine l_arg ok 2 dL_law_910 dL_law_911 dL_law_912 dL_law_913 dL_law_914 rfl (by decide) (hin 2 (by decide)) ?_
  refine l_arg ok 3 dL_law_915 dL_law_916 dL_law_917 dL_law_918 dL_law_919 rfl (by decide) (hin 3 (by decide)) ?_
  refine l_callX (n := 3) (is := [la κ i 1, la κ i 2, la κ i 3]) (st := []) ok dL_law_920 rfl hx1 ⟨lq_958, lq_959, lq_960, lq_80, lq_961, by decide +kernel, by decide +kernel, by decide +kernel⟩ ⟨rfl, rfl, Nat.le_of_ble_eq_true rfl, Nat.le_of_ble_eq_true rfl⟩ rfl rfl rfl (Nat.le_of_ble_eq_true rfl) ?_
  refine l_m ok dL_law_923 rfl ?_
  refine l_arg ok 1 dL_law_924 dL_law_925 dL_law_926 dL_law_927 dL_law_928 rfl (by decide) (hin 1 (by decide)) ?_
  refine l_arg ok 2 dL_law_929 dL_law_930 dL_law_931 dL_law_932 dL_law_933 rfl (by decide) (hin 2 (by decide)) ?_
  refine l_arg ok 3 dL_law_934 dL_law_935 dL_law_936 dL_law_937 dL_law_938 rfl (by decide) (hin 3 (by decide)) ?_
  refine l_callM (n := 3) (is := [la κ i 1, la κ i 2, la κ i 3]) (st := [.int r]) ok dL_law_939 rfl hm1 ⟨lq_1566, lq_1567, lq_1568, lq_90, lq_1569, by decide +kernel, by decide +kernel, by decide +kernel⟩ ⟨rfl, rfl, Nat.le_of_ble_eq_true rfl, Nat.le_of_ble_eq_true rfl⟩ rfl rfl rfl (Nat.le_of_ble_eq_true rfl) ?_
  exact l_eq (q := 1128) ok dL_law_942 (by decide) (K wx' wm' hR hK)
set_option maxHeartbeats 4000000 in
set_option maxRecDepth 100000 in
theorem lc_23 {κ : lC} {i : Int32} {wx wm : gT} {N n : Nat} (ok : lOk κ) (hN : 5000 ≤ N) (h : Rel N wx wm) (hk : Mk n wx) (hn : n + 10 < 2 ^ 30) (hin : ∀ k, k ≤ 5 → vp_in (i + nI k) (lL κ)) (K : ∀ wx' wm', Rel N wx' wm' → Mk (n + 10) wx' → lJ κ 1128 i [] wx' wm') : lJ κ 947 i [] wx wm := by
  obtain ⟨r, wx', wm', e1, e2, hR, hK0⟩ := (o_bids hN h (la κ i 1) (la κ i 2) (la κ i 3)).m hk (p_X9_bids N wx (la κ i 1) (la κ i 2) (la κ i 3) wx ⟨rfl, rfl, rfl⟩)
  have hK := hK0.le (show n ≤ n + 10 by omega)
  have hx1 := kX9_bids N (la κ i 1) (la κ i 2) (la κ i 3) wx
  rw [e1] at hx1
  have hm1 := kX10_bids N (la κ i 1) (la κ i 2) (la κ i 3) wm
  rw [e2] at hm1
  refine l_x ok dL_law_947 rfl ?_
  refine l_arg ok 1 dL_law_948 dL_law_949 dL_law_950 dL_law_951 dL_law_952 rfl (by decide) (hin 1 (by decide)) ?_
  refine l_arg ok 2 dL_law_953 dL_law_954 dL_law_955 dL_law_956 dL_law_957 rfl (by decide) (hin 2 (by decide)) ?_
  refine l_arg ok 3 dL_law_958 dL_law_959 dL_law_960 dL_law_961 dL_law_962 rfl (by decide) (hin 3 (by decide)) ?_
  refine l_callX (n := 3) (is := [la κ i 1, la κ i 2, la κ i 3]) (st := []) ok dL_law_963 rfl hx1 ⟨lq_972, lq_973, lq_974, lq_80, lq_975, by decide +kernel, by decide +kernel, by decide +kernel⟩ ⟨rfl, rfl, Nat.le_of_ble_eq_true rfl, Nat.le_of_ble_eq_true rfl⟩ rfl rfl rfl (Nat.le_of_ble_eq_true rfl) ?_
  refine l_m ok dL_law_966 rfl ?_
  refine l_arg ok 1 dL_law_967 dL_law_968 dL_law_969 dL_law_970 dL_law_971 rfl (by decide) (hin 1 (by decide)) ?_
  refine l_arg ok 2 dL_law_972 dL_law_973 dL_law_974 dL_law_975 dL_law_976 rfl (by decide) (hin 2 (by decide)) ?_
  refine l_arg ok 3 dL_law_977 dL_law_978 dL_law_979 dL_law_980 dL_law_981 rfl (by decide) (hin 3 (by decide)) ?_
  refine l_callM (n := 3) (is := [la κ i 1, la κ i 2, la κ i 3]) (st := [.int r]) ok dL_law_982 rfl hm1 ⟨lq_1570, lq_1571, lq_1572, lq_90, lq_1573, by decide +kernel, by decide +kernel, by decide +kernel⟩ ⟨rfl, rfl, Nat.le_of_ble_eq_true rfl, Nat.le_of_ble_eq_true rfl⟩ rfl rfl rfl (Nat.le_of_ble_eq_true rfl) ?_
  exact l_eq (q := 1128) ok dL_law_985 (by decide) (K wx' wm' hR hK)
set_option maxHeartbeats 4000000 in
set_option maxRecDepth 100000 in
theorem lc_24 {κ : lC} {i : Int32} {wx wm : gT} {N n : Nat} (ok : lOk κ) (hN : 5000 ≤ N) (h : Rel N wx wm) (hk : Mk n wx) (hn : n + 10 < 2 ^ 30) (hin : ∀ k, k ≤ 5 → vp_in (i + nI k) (lL κ)) (K : ∀ wx' wm', Rel N wx' wm' → Mk (n + 10) wx' → lJ κ 1128 i [] wx' wm') : lJ κ 990 i [] wx wm := by
  obtain ⟨r, wx', wm', e1, e2, hR, hK0⟩ := (o_odds hN h (la κ i 1) (la κ i 2) (la κ i 3)).m hk (p_X9_odds N wx (la κ i 1) (la κ i 2) (la κ i 3) wx ⟨rfl, rfl, rfl⟩)
  have hK := hK0.le (show n ≤ n + 10 by omega)
  have hx1 := kX9_odds N (la κ i 1) (la κ i 2) (la κ i 3) wx
  rw [e1] at hx1
  have hm1 := kX10_odds N (la κ i 1) (la κ i 2) (la κ i 3) wm
  rw [e2] at hm1
  refine l_x ok dL_law_990 rfl ?_
  refine l_arg ok 1 dL_law_991 dL_law_992 dL_law_993 dL_law_994 dL_law_995 rfl (by decide) (hin 1 (by decide)) ?_
  refine l_arg ok 2 dL_law_996 dL_law_997 dL_law_998 dL_law_999 dL_law_1000 rfl (by decide) (hin 2 (by decide)) ?_
  refine l_arg ok 3 dL_law_1001 dL_law_1002 dL_law_1003 dL_law_1004 dL_law_1005 rfl (by decide) (hin 3 (by decide)) ?_
  refine l_callX (n := 3) (is := [la κ i 1, la κ i 2, la κ i 3]) (st := []) ok dL_law_1006 rfl hx1 ⟨lq_985, lq_986, lq_987, lq_80, lq_988, by decide +kernel, by decide +kernel, by decide +kernel⟩ ⟨rfl, rfl, Nat.le_of_ble_eq_true rfl, Nat.le_of_ble_eq_true rfl⟩ rfl rfl rfl (Nat.le_of_ble_eq_true rfl) ?_
  refine l_m ok dL_law_1009 rfl ?_
  refine l_arg ok 1 dL_law_1010 dL_law_1011 dL_law_1012 dL_law_1013 dL_law_1014 rfl (by decide) (hin 1 (by decide)) ?_
  refine l_arg ok 2 dL_law_1015 dL_law_1016 dL_law_1017 dL_law_1018 dL_law_1019 rfl (by decide) (hin 2 (by decide)) ?_
  refine l_arg ok 3 dL_law_1020 dL_law_1021 dL_law_1022 dL_law_1023 dL_law_1024 rfl (by decide) (hin 3 (by decide)) ?_
  refine l_callM (n := 3) (is := [la κ i 1, la κ i 2, la κ i 3]) (st := [.int r]) ok dL_law_1025 rfl hm1 ⟨lq_1583, lq_1584, lq_1585, lq_90, lq_1586, by decide +kernel, by decide +kernel, by decide +kernel⟩ ⟨rfl, rfl, Nat.le_of_ble_eq_true rfl, Nat.le_of_ble_eq_true rfl⟩ rfl rfl rfl (Nat.le_of_ble_eq_true rfl) ?_
  exact l_eq (q := 1128) ok dL_law_1028 (by decide) (K wx' wm' hR hK)
set_option maxHeartbeats 4000000 in
set_option maxRecDepth 100000 in
theorem lc_25 {κ : lC} {i : Int32} {wx wm : gT} {N n : Nat} (ok : lOk κ) (hN : 5000 ≤ N) (h : Rel N wx wm) (hk : Mk n wx) (hn : n + 10 < 2 ^ 30) (hin : ∀ k, k ≤ 5 → vp_in (i + nI k) (lL κ)) (K : ∀ wx' wm', Rel N wx' wm' → Mk (n + 10) wx' → lJ κ 1128 i [] wx' wm') : lJ κ 1033 i [] wx wm := by
  obtain ⟨r, wx', wm', e1, e2, hR, hK0⟩ := (o_seed h (la κ i 1)).m hk (p_X9_seed wx (la κ i 1) wx ⟨rfl, rfl, rfl⟩)
  have hK := hK0.le (show n ≤ n + 10 by omega)
  have hx1 := kX9_seed (la κ i 1) wx
  rw [e1] at hx1
  have hm1 := kX10_seed (la κ i 1) wm
  rw [e2] at hm1
  refine l_x ok dL_law_1033 rfl ?_
  refine l_arg ok 1 dL_law_1034 dL_law_1035 dL_law_1036 dL_law_1037 dL_law_1038 rfl (by decide) (hin 1 (by decide)) ?_
  refine l_callX (n := 1) (is := [la κ i 1]) (st := []) ok dL_law_1039 rfl hx1 ⟨lq_996, lq_997, lq_998, lq_80, lq_999, by decide +kernel, by decide +kernel, by decide +kernel⟩ ⟨rfl, rfl, Nat.le_of_ble_eq_true rfl, Nat.le_of_ble_eq_true rfl⟩ rfl rfl rfl (Nat.le_of_ble_eq_true rfl) ?_
  refine l_m ok dL_law_1042 rfl ?_
  refine l_arg ok 1 dL_law_1043 dL_law_1044 dL_law_1045 dL_law_1046 dL_law_1047 rfl (by decide) (hin 1 (by decide)) ?_
  refine l_callM (n := 1) (is := [la κ i 1]) (st := [.int r]) ok dL_law_1048 rfl hm1 ⟨lq_1590, lq_1591, lq_1592, lq_90, lq_1593, by decide +kernel, by decide +kernel, by decide +kernel⟩ ⟨rfl, rfl, Nat.le_of_ble_eq_true rfl, Nat.le_of_ble_eq_true rfl⟩ rfl rfl rfl (Nat.le_of_ble_eq_true rfl) ?_
  exact l_eq (q := 1128) ok dL_law_1051 (by decide) (K wx' wm' hR hK)
set_option maxHeartbeats 4000000 in
set_option maxRecDepth 100000 in
theorem lc_26 {κ : lC} {i : Int32} {wx wm : gT} {N n : Nat} (ok : lOk κ) (hN : 5000 ≤ N) (h : Rel N wx wm) (hk : Mk n wx) (hn : n + 10 < 2 ^ 30) (hin : ∀ k, k ≤ 5 → vp_in (i + nI k) (lL κ)) (K : ∀ wx' wm', Rel N wx' wm' → Mk (n + 10) wx' → lJ κ 1128 i [] wx' wm') : lJ κ 1056 i [] wx wm := by
  obtain ⟨r, wx', wm', e1, e2, hR, hK0⟩ := (o_keep hN h ).m hk (p_X9_keep wx  wx ⟨rfl, rfl, rfl⟩)
  have hK := hK0.le (show n ≤ n + 10 by omega)
  have hx1 := kX9_keep  wx
  rw [e1] at hx1
  have hm1 := kX10_keep N  wm
  rw [e2] at hm1
  refine l_x ok dL_law_1056 rfl ?_
  refine l_callX (n := 0) (is := []) (st := []) ok dL_law_1057 rfl hx1 ⟨lq_1001, lq_1002, lq_1003, lq_80, lq_1004, by decide +kernel, by decide +kernel, by decide +kernel⟩ ⟨rfl, rfl, Nat.le_of_ble_eq_true rfl, Nat.le_of_ble_eq_true rfl⟩ rfl rfl rfl (Nat.le_of_ble_eq_true rfl) ?_
  refine l_m ok dL_law_1060 rfl ?_
  refine l_callM (n := 0) (is := []) (st := [.int r]) ok dL_law_1061 rfl hm1 ⟨lq_1595, lq_1596, lq_1597, lq_90, lq_1598, by decide +kernel, by decide +kernel, by decide +kernel⟩ ⟨rfl, rfl, Nat.le_of_ble_eq_true rfl, Nat.le_of_ble_eq_true rfl⟩ rfl rfl rfl (Nat.le_of_ble_eq_true rfl) ?_
  exact l_eq (q := 1128) ok dL_law_1064 (by decide) (K wx' wm' hR hK)
set_option maxHeartbeats 4000000 in
set_option maxRecDepth 100000 in
theorem lc_27 {κ : lC} {i : Int32} {wx wm : gT} {N n : Nat} (ok : lOk κ) (hN : 5000 ≤ N) (h : Rel N wx wm) (hk : Mk n wx) (hn : n + 10 < 2 ^ 30) (hin : ∀ k, k ≤ 5 → vp_in (i + nI k) (lL κ)) (K : ∀ wx' wm', Rel N wx' wm' → Mk (n + 10) wx' → lJ κ 1128 i [] wx' wm') : lJ κ 1069 i [] wx wm := by
  obtain ⟨r, wx', wm', e1, e2, hR, hK0⟩ := (o_undo hN h ).m hk (p_X9_undo wx  wx ⟨rfl, rfl, rfl⟩)
  have hK := hK0.le (show n ≤ n + 10 by omega)
  have hx1 := kX9_undo  wx
  rw [e1] at hx1
  have hm1 := kX10_undo N  wm
  rw [e2] at hm1
  refine l_x ok dL_law_1069 rfl ?_
  refine l_callX (n := 0) (is := []) (st := []) ok dL_law_1070 rfl hx1 ⟨lq_1010, lq_1011, lq_1012, lq_80, lq_1013, by decide +kernel, by decide +kernel, by decide +kernel⟩ ⟨rfl, rfl, Nat.le_of_ble_eq_true rfl, Nat.le_of_ble_eq_true rfl⟩ rfl rfl rfl (Nat.le_of_ble_eq_true rfl) ?_
  refine l_m ok dL_law_1073 rfl ?_
  refine l_callM (n := 0) (is := []) (st := [.int r]) ok dL_law_1074 rfl hm1 ⟨lq_1602, lq_1603, lq_1604, lq_90, lq_1605, by decide +kernel, by decide +kernel, by decide +kernel⟩ ⟨rfl, rfl, Nat.le_of_ble_eq_true rfl, Nat.le_of_ble_eq_true rfl⟩ rfl rfl rfl (Nat.le_of_ble_eq_true rfl) ?_
  exact l_eq (q := 1128) ok dL_law_1077 (by decide) (K wx' wm' hR hK)
set_option maxHeartbeats 4000000 in
set_option maxRecDepth 100000 in
theorem lc_28 {κ : lC} {i : Int32} {wx wm : gT} {N n : Nat} (ok : lOk κ) (hN : 5000 ≤ N) (h : Rel N wx wm) (hk : Mk n wx) (hn : n + 10 < 2 ^ 30) (hin : ∀ k, k ≤ 5 → vp_in (i + nI k) (lL κ)) (K : ∀ wx' wm', Rel N wx' wm' → Mk (n + 10) wx' → lJ κ 1128 i [] wx' wm') : lJ κ 1082 i [] wx wm := by
  obtain ⟨r, wx', wm', e1, e2, hR, hK0⟩ := (o_check hN h (la κ i 1)).m hk (p_X9_check N wx (la κ i 1) wx ⟨rfl, rfl, rfl⟩)
  have hK := hK0.le (show n ≤ n + 10 by omega)
  have hx1 := kX9_check N (la κ i 1) wx
  rw [e1] at hx1
  have hm1 := kX10_check N (la κ i 1) wm
  rw [e2] at hm1
  refine l_x ok dL_law_1082 rfl ?_
  refine l_arg ok 1 dL_law_1083 dL_law_1084 dL_law_1085 dL_law_1086 dL_law_1087 rfl (by decide) (hin 1 (by decide)) ?_
  refine l_callX (n := 1) (is := [la κ i 1]) (st := []) ok dL_law_1088 rfl hx1 ⟨lq_1014, lq_1015, lq_1016, lq_80, lq_1017, by decide +kernel, by decide +kernel, by decide +kernel⟩ ⟨rfl, rfl, Nat.le_of_ble_eq_true rfl, Nat.le_of_ble_eq_true rfl⟩ rfl rfl rfl (Nat.le_of_ble_eq_true rfl) ?_
  refine l_m ok dL_law_1091 rfl ?_
  refine l_arg ok 1 dL_law_1092 dL_law_1093 dL_law_1094 dL_law_1095 dL_law_1096 rfl (by decide) (hin 1 (by decide)) ?_
  refine l_callM (n := 1) (is := [la κ i 1]) (st := [.int r]) ok dL_law_1097 rfl hm1 ⟨lq_1606, lq_1607, lq_1608, lq_90, lq_1609, by decide +kernel, by decide +kernel, by decide +kernel⟩ ⟨rfl, rfl, Nat.le_of_ble_eq_true rfl, Nat.le_of_ble_eq_true rfl⟩ rfl rfl rfl (Nat.le_of_ble_eq_true rfl) ?_
  exact l_eq (q := 1128) ok dL_law_1100 (by decide) (K wx' wm' hR hK)
set_option maxHeartbeats 4000000 in
set_option maxRecDepth 100000 in
theorem lc_29 {κ : lC} {i : Int32} {wx wm : gT} {N n : Nat} (ok : lOk κ) (hN : 5000 ≤ N) (h : Rel N wx wm) (hk : Mk n wx) (hn : n + 10 < 2 ^ 30) (hin : ∀ k, k ≤ 5 → vp_in (i + nI k) (lL κ)) (K : ∀ wx' wm', Rel N wx' wm' → Mk (n + 10) wx' → lJ κ 1128 i [] wx' wm') : lJ κ 1105 i [] wx wm := by
  obtain ⟨r, wx', wm', e1, e2, hR, hK0⟩ := (o_count h (la κ i 1)).m hk (p_X9_count wx (la κ i 1) wx ⟨rfl, rfl, rfl⟩)
  have hK := hK0.le (show n ≤ n + 10 by omega)
  have hx1 := kX9_count (la κ i 1) wx
  rw [e1] at hx1
  have hm1 := kX10_count (la κ i 1) wm
  rw [e2] at hm1
  refine l_x ok dL_law_1105 rfl ?_
  refine l_arg ok 1 dL_law_1106 dL_law_1107 dL_law_1108 dL_law_1109 dL_law_1110 rfl (by decide) (hin 1 (by decide)) ?_
  refine l_callX (n := 1) (is := [la κ i 1]) (st := []) ok dL_law_1111 rfl hx1 ⟨lq_1022, lq_1023, lq_1024, lq_80, lq_1025, by decide +kernel, by decide +kernel, by decide +kernel⟩ ⟨rfl, rfl, Nat.le_of_ble_eq_true rfl, Nat.le_of_ble_eq_true rfl⟩ rfl rfl rfl (Nat.le_of_ble_eq_true rfl) ?_
  refine l_m ok dL_law_1114 rfl ?_
  refine l_arg ok 1 dL_law_1115 dL_law_1116 dL_law_1117 dL_law_1118 dL_law_1119 rfl (by decide) (hin 1 (by decide)) ?_
  refine l_callM (n := 1) (is := [la κ i 1]) (st := [.int r]) ok dL_law_1120 rfl hm1 ⟨lq_1614, lq_1615, lq_1616, lq_90, lq_1617, by decide +kernel, by decide +kernel, by decide +kernel⟩ ⟨rfl, rfl, Nat.le_of_ble_eq_true rfl, Nat.le_of_ble_eq_true rfl⟩ rfl rfl rfl (Nat.le_of_ble_eq_true rfl) ?_
  exact l_eq (q := 1128) ok dL_law_1123 (by decide) (K wx' wm' hR hK)
