theorem wd_296 : Cond.methodLink RL 13 yX7_roll ∈ zW := zW_in (List.mem_of_getElem? (i := 296) (by decide +kernel)) (by decide +kernel)
theorem wd_297 : Cond.instanceMethod yX7_roll ∈ zW := zW_in (List.mem_of_getElem? (i := 297) (by decide +kernel)) (by decide +kernel)
theorem wd_298 : Cond.selects RX7 yX7_roll yX7_roll ∈ zW := zW_in (List.mem_of_getElem? (i := 298) (by decide +kernel)) (by decide +kernel)
theorem wd_299 : Cond.code yX7_roll cX7_roll 2 (some .int) ∈ zW := zW_in (List.mem_of_getElem? (i := 299) (by decide +kernel)) (by decide +kernel)
theorem wd_312 : Cond.methodLink RL 18 yX7_write ∈ zW := zW_in (List.mem_of_getElem? (i := 312) (by decide +kernel)) (by decide +kernel)
theorem wd_313 : Cond.instanceMethod yX7_write ∈ zW := zW_in (List.mem_of_getElem? (i := 313) (by decide +kernel)) (by decide +kernel)
theorem wd_314 : Cond.selects RX7 yX7_write yX7_write ∈ zW := zW_in (List.mem_of_getElem? (i := 314) (by decide +kernel)) (by decide +kernel)
theorem wd_315 : Cond.code yX7_write cX7_write 5 (some .int) ∈ zW := zW_in (List.mem_of_getElem? (i := 315) (by decide +kernel)) (by decide +kernel)
theorem wd_357 : Cond.methodLink RL 23 yX7_rub ∈ zW := zW_in (List.mem_of_getElem? (i := 357) (by decide +kernel)) (by decide +kernel)
theorem wd_358 : Cond.instanceMethod yX7_rub ∈ zW := zW_in (List.mem_of_getElem? (i := 358) (by decide +kernel)) (by decide +kernel)
theorem wd_359 : Cond.selects RX7 yX7_rub yX7_rub ∈ zW := zW_in (List.mem_of_getElem? (i := 359) (by decide +kernel)) (by decide +kernel)
theorem wd_360 : Cond.code yX7_rub cX7_rub 2 (some .int) ∈ zW := zW_in (List.mem_of_getElem? (i := 360) (by decide +kernel)) (by decide +kernel)
theorem wd_365 : Cond.methodLink RL 28 yX7_years ∈ zW := zW_in (List.mem_of_getElem? (i := 365) (by decide +kernel)) (by decide +kernel)
theorem wd_366 : Cond.instanceMethod yX7_years ∈ zW := zW_in (List.mem_of_getElem? (i := 366) (by decide +kernel)) (by decide +kernel)
theorem wd_367 : Cond.selects RX7 yX7_years yX7_years ∈ zW := zW_in (List.mem_of_getElem? (i := 367) (by decide +kernel)) (by decide +kernel)
theorem wd_368 : Cond.code yX7_years cX7_years 2 (some .int) ∈ zW := zW_in (List.mem_of_getElem? (i := 368) (by decide +kernel)) (by decide +kernel)
theorem wd_376 : Cond.methodLink RL 32 yX7_undo ∈ zW := zW_in (List.mem_of_getElem? (i := 376) (by decide +kernel)) (by decide +kernel)
theorem wd_377 : Cond.instanceMethod yX7_undo ∈ zW := zW_in (List.mem_of_getElem? (i := 377) (by decide +kernel)) (by decide +kernel)
theorem wd_378 : Cond.selects RX7 yX7_undo yX7_undo ∈ zW := zW_in (List.mem_of_getElem? (i := 378) (by decide +kernel)) (by decide +kernel)
theorem wd_379 : Cond.code yX7_undo cX7_undo 2 (some .int) ∈ zW := zW_in (List.mem_of_getElem? (i := 379) (by decide +kernel)) (by decide +kernel)
theorem wd_391 : Cond.methodLink RL 36 yX7_type ∈ zW := zW_in (List.mem_of_getElem? (i := 391) (by decide +kernel)) (by decide +kernel)
theorem wd_392 : Cond.instanceMethod yX7_type ∈ zW := zW_in (List.mem_of_getElem? (i := 392) (by decide +kernel)) (by decide +kernel)
theorem wd_393 : Cond.selects RX7 yX7_type yX7_type ∈ zW := zW_in (List.mem_of_getElem? (i := 393) (by decide +kernel)) (by decide +kernel)
theorem wd_394 : Cond.code yX7_type cX7_type 2 (some .int) ∈ zW := zW_in (List.mem_of_getElem? (i := 394) (by decide +kernel)) (by decide +kernel)
theorem wd_399 : Cond.methodLink RL 40 yX7_clear ∈ zW := zW_in (List.mem_of_getElem? (i := 399) (by decide +kernel)) (by decide +kernel)
theorem wd_400 : Cond.instanceMethod yX7_clear ∈ zW := zW_in (List.mem_of_getElem? (i := 400) (by decide +kernel)) (by decide +kernel)
theorem wd_401 : Cond.selects RX7 yX7_clear yX7_clear ∈ zW := zW_in (List.mem_of_getElem? (i := 401) (by decide +kernel)) (by decide +kernel)
theorem wd_402 : Cond.code yX7_clear cX7_clear 1 (some .int) ∈ zW := zW_in (List.mem_of_getElem? (i := 402) (by decide +kernel)) (by decide +kernel)
theorem wd_407 : Cond.methodLink RL 44 yX7_read ∈ zW := zW_in (List.mem_of_getElem? (i := 407) (by decide +kernel)) (by decide +kernel)
theorem wd_408 : Cond.instanceMethod yX7_read ∈ zW := zW_in (List.mem_of_getElem? (i := 408) (by decide +kernel)) (by decide +kernel)
theorem wd_409 : Cond.selects RX7 yX7_read yX7_read ∈ zW := zW_in (List.mem_of_getElem? (i := 409) (by decide +kernel)) (by decide +kernel)
theorem wd_410 : Cond.code yX7_read cX7_read 2 (some .int) ∈ zW := zW_in (List.mem_of_getElem? (i := 410) (by decide +kernel)) (by decide +kernel)
theorem wd_527 : Cond.methodLink RL 48 yX7_layers ∈ zW := zW_in (List.mem_of_getElem? (i := 527) (by decide +kernel)) (by decide +kernel)
theorem wd_528 : Cond.instanceMethod yX7_layers ∈ zW := zW_in (List.mem_of_getElem? (i := 528) (by decide +kernel)) (by decide +kernel)
theorem wd_529 : Cond.selects RX7 yX7_layers yX7_layers ∈ zW := zW_in (List.mem_of_getElem? (i := 529) (by decide +kernel)) (by decide +kernel)
theorem wd_530 : Cond.code yX7_layers cX7_layers 2 (some .int) ∈ zW := zW_in (List.mem_of_getElem? (i := 530) (by decide +kernel)) (by decide +kernel)
theorem wd_531 : Cond.methodLink RL 52 yX7_of ∈ zW := zW_in (List.mem_of_getElem? (i := 531) (by decide +kernel)) (by decide +kernel)
theorem wd_532 : Cond.instanceMethod yX7_of ∈ zW := zW_in (List.mem_of_getElem? (i := 532) (by decide +kernel)) (by decide +kernel)
theorem wd_533 : Cond.selects RX7 yX7_of yX7_of ∈ zW := zW_in (List.mem_of_getElem? (i := 533) (by decide +kernel)) (by decide +kernel)
theorem wd_534 : Cond.code yX7_of cX7_of 5 (some .int) ∈ zW := zW_in (List.mem_of_getElem? (i := 534) (by decide +kernel)) (by decide +kernel)
theorem wd_540 : Cond.methodLink RL 57 yX7_binds ∈ zW := zW_in (List.mem_of_getElem? (i := 540) (by decide +kernel)) (by decide +kernel)
theorem wd_541 : Cond.instanceMethod yX7_binds ∈ zW := zW_in (List.mem_of_getElem? (i := 541) (by decide +kernel)) (by decide +kernel)
theorem wd_542 : Cond.selects RX7 yX7_binds yX7_binds ∈ zW := zW_in (List.mem_of_getElem? (i := 542) (by decide +kernel)) (by decide +kernel)
theorem wd_543 : Cond.code yX7_binds cX7_binds 4 (some .int) ∈ zW := zW_in (List.mem_of_getElem? (i := 543) (by decide +kernel)) (by decide +kernel)
theorem wd_571 : Cond.methodLink RL 61 yX7_rule ∈ zW := zW_in (List.mem_of_getElem? (i := 571) (by decide +kernel)) (by decide +kernel)
theorem wd_572 : Cond.instanceMethod yX7_rule ∈ zW := zW_in (List.mem_of_getElem? (i := 572) (by decide +kernel)) (by decide +kernel)
theorem wd_573 : Cond.selects RX7 yX7_rule yX7_rule ∈ zW := zW_in (List.mem_of_getElem? (i := 573) (by decide +kernel)) (by decide +kernel)
theorem wd_574 : Cond.code yX7_rule cX7_rule 3 (some .int) ∈ zW := zW_in (List.mem_of_getElem? (i := 574) (by decide +kernel)) (by decide +kernel)
theorem wd_583 : Cond.methodLink RL 66 yX7_ends ∈ zW := zW_in (List.mem_of_getElem? (i := 583) (by decide +kernel)) (by decide +kernel)
theorem wd_584 : Cond.instanceMethod yX7_ends ∈ zW := zW_in (List.mem_of_getElem? (i := 584) (by decide +kernel)) (by decide +kernel)
theorem wd_585 : Cond.selects RX7 yX7_ends yX7_ends ∈ zW := zW_in (List.mem_of_getElem? (i := 585) (by decide +kernel)) (by decide +kernel)
theorem wd_586 : Cond.code yX7_ends cX7_ends 3 (some .int) ∈ zW := zW_in (List.mem_of_getElem? (i := 586) (by decide +kernel)) (by decide +kernel)
theorem wd_595 : Cond.methodLink RL 70 yX7_quarrel ∈ zW := zW_in (List.mem_of_getElem? (i := 595) (by decide +kernel)) (by decide +kernel)
theorem wd_596 : Cond.instanceMethod yX7_quarrel ∈ zW := zW_in (List.mem_of_getElem? (i := 596) (by decide +kernel)) (by decide +kernel)
theorem wd_597 : Cond.selects RX7 yX7_quarrel yX7_quarrel ∈ zW := zW_in (List.mem_of_getElem? (i := 597) (by decide +kernel)) (by decide +kernel)
theorem wd_598 : Cond.code yX7_quarrel cX7_quarrel 2 (some .int) ∈ zW := zW_in (List.mem_of_getElem? (i := 598) (by decide +kernel)) (by decide +kernel)
theorem wd_604 : Cond.methodLink RL 74 yX7_tear ∈ zW := zW_in (List.mem_of_getElem? (i := 604) (by decide +kernel)) (by decide +kernel)
theorem wd_605 : Cond.instanceMethod yX7_tear ∈ zW := zW_in (List.mem_of_getElem? (i := 605) (by decide +kernel)) (by decide +kernel)
theorem wd_606 : Cond.selects RX7 yX7_tear yX7_tear ∈ zW := zW_in (List.mem_of_getElem? (i := 606) (by decide +kernel)) (by decide +kernel)
theorem wd_607 : Cond.code yX7_tear cX7_tear 3 (some .int) ∈ zW := zW_in (List.mem_of_getElem? (i := 607) (by decide +kernel)) (by decide +kernel)
theorem wd_624 : Cond.methodLink RL 78 yX7_hangs ∈ zW := zW_in (List.mem_of_getElem? (i := 624) (by decide +kernel)) (by decide +kernel)
theorem wd_625 : Cond.instanceMethod yX7_hangs ∈ zW := zW_in (List.mem_of_getElem? (i := 625) (by decide +kernel)) (by decide +kernel)
theorem wd_626 : Cond.selects RX7 yX7_hangs yX7_hangs ∈ zW := zW_in (List.mem_of_getElem? (i := 626) (by decide +kernel)) (by decide +kernel)
theorem wd_627 : Cond.code yX7_hangs cX7_hangs 4 (some .int) ∈ zW := zW_in (List.mem_of_getElem? (i := 627) (by decide +kernel)) (by decide +kernel)
theorem wd_632 : Cond.methodLink RL 82 yX7_strokes ∈ zW := zW_in (List.mem_of_getElem? (i := 632) (by decide +kernel)) (by decide +kernel)
theorem wd_633 : Cond.instanceMethod yX7_strokes ∈ zW := zW_in (List.mem_of_getElem? (i := 633) (by decide +kernel)) (by decide +kernel)
theorem wd_634 : Cond.selects RX7 yX7_strokes yX7_strokes ∈ zW := zW_in (List.mem_of_getElem? (i := 634) (by decide +kernel)) (by decide +kernel)
theorem wd_635 : Cond.code yX7_strokes cX7_strokes 7 (some .int) ∈ zW := zW_in (List.mem_of_getElem? (i := 635) (by decide +kernel)) (by decide +kernel)
theorem wd_675 : Cond.methodLink RL 86 yX7_parties ∈ zW := zW_in (List.mem_of_getElem? (i := 675) (by decide +kernel)) (by decide +kernel)
theorem wd_676 : Cond.instanceMethod yX7_parties ∈ zW := zW_in (List.mem_of_getElem? (i := 676) (by decide +kernel)) (by decide +kernel)
theorem wd_677 : Cond.selects RX7 yX7_parties yX7_parties ∈ zW := zW_in (List.mem_of_getElem? (i := 677) (by decide +kernel)) (by decide +kernel)
theorem wd_678 : Cond.code yX7_parties cX7_parties 6 (some .int) ∈ zW := zW_in (List.mem_of_getElem? (i := 678) (by decide +kernel)) (by decide +kernel)
theorem wd_692 : Cond.methodLink RL 90 yX7_seen ∈ zW := zW_in (List.mem_of_getElem? (i := 692) (by decide +kernel)) (by decide +kernel)
theorem wd_693 : Cond.instanceMethod yX7_seen ∈ zW := zW_in (List.mem_of_getElem? (i := 693) (by decide +kernel)) (by decide +kernel)
theorem wd_694 : Cond.selects RX7 yX7_seen yX7_seen ∈ zW := zW_in (List.mem_of_getElem? (i := 694) (by decide +kernel)) (by decide +kernel)
theorem wd_695 : Cond.code yX7_seen cX7_seen 5 (some .int) ∈ zW := zW_in (List.mem_of_getElem? (i := 695) (by decide +kernel)) (by decide +kernel)
theorem wd_700 : Cond.methodLink RL 94 yX7_forget ∈ zW := zW_in (List.mem_of_getElem? (i := 700) (by decide +kernel)) (by decide +kernel)
theorem wd_701 : Cond.instanceMethod yX7_forget ∈ zW := zW_in (List.mem_of_getElem? (i := 701) (by decide +kernel)) (by decide +kernel)
theorem wd_702 : Cond.selects RX7 yX7_forget yX7_forget ∈ zW := zW_in (List.mem_of_getElem? (i := 702) (by decide +kernel)) (by decide +kernel)
theorem wd_703 : Cond.code yX7_forget cX7_forget 1 (some .int) ∈ zW := zW_in (List.mem_of_getElem? (i := 703) (by decide +kernel)) (by decide +kernel)
theorem wd_708 : Cond.methodLink RL 98 yX7_is ∈ zW := zW_in (List.mem_of_getElem? (i := 708) (by decide +kernel)) (by decide +kernel)
theorem wd_709 : Cond.instanceMethod yX7_is ∈ zW := zW_in (List.mem_of_getElem? (i := 709) (by decide +kernel)) (by decide +kernel)
theorem wd_710 : Cond.selects RX7 yX7_is yX7_is ∈ zW := zW_in (List.mem_of_getElem? (i := 710) (by decide +kernel)) (by decide +kernel)
theorem wd_711 : Cond.code yX7_is cX7_is 3 (some .int) ∈ zW := zW_in (List.mem_of_getElem? (i := 711) (by decide +kernel)) (by decide +kernel)
theorem wd_721 : Cond.methodLink RL 102 yX7_look ∈ zW := zW_in (List.mem_of_getElem? (i := 721) (by decide +kernel)) (by decide +kernel)
theorem wd_722 : Cond.instanceMethod yX7_look ∈ zW := zW_in (List.mem_of_getElem? (i := 722) (by decide +kernel)) (by decide +kernel)
theorem wd_723 : Cond.selects RX7 yX7_look yX7_look ∈ zW := zW_in (List.mem_of_getElem? (i := 723) (by decide +kernel)) (by decide +kernel)
theorem wd_724 : Cond.code yX7_look cX7_look 4 (some .int) ∈ zW := zW_in (List.mem_of_getElem? (i := 724) (by decide +kernel)) (by decide +kernel)
theorem wd_735 : Cond.methodLink RL 106 yX7_thumbs ∈ zW := zW_in (List.mem_of_getElem? (i := 735) (by decide +kernel)) (by decide +kernel)
theorem wd_736 : Cond.instanceMethod yX7_thumbs ∈ zW := zW_in (List.mem_of_getElem? (i := 736) (by decide +kernel)) (by decide +kernel)
theorem wd_737 : Cond.selects RX7 yX7_thumbs yX7_thumbs ∈ zW := zW_in (List.mem_of_getElem? (i := 737) (by decide +kernel)) (by decide +kernel)
theorem wd_738 : Cond.code yX7_thumbs cX7_thumbs 9 (some .int) ∈ zW := zW_in (List.mem_of_getElem? (i := 738) (by decide +kernel)) (by decide +kernel)
theorem wd_750 : Cond.methodLink RL 110 yX7_centuries ∈ zW := zW_in (List.mem_of_getElem? (i := 750) (by decide +kernel)) (by decide +kernel)
theorem wd_751 : Cond.instanceMethod yX7_centuries ∈ zW := zW_in (List.mem_of_getElem? (i := 751) (by decide +kernel)) (by decide +kernel)
theorem wd_752 : Cond.selects RX7 yX7_centuries yX7_centuries ∈ zW := zW_in (List.mem_of_getElem? (i := 752) (by decide +kernel)) (by decide +kernel)
theorem wd_753 : Cond.code yX7_centuries cX7_centuries 6 (some .int) ∈ zW := zW_in (List.mem_of_getElem? (i := 753) (by decide +kernel)) (by decide +kernel)
theorem wd_769 : Cond.methodLink RL 114 yX7_part ∈ zW := zW_in (List.mem_of_getElem? (i := 769) (by decide +kernel)) (by decide +kernel)
theorem wd_770 : Cond.instanceMethod yX7_part ∈ zW := zW_in (List.mem_of_getElem? (i := 770) (by decide +kernel)) (by decide +kernel)
theorem wd_771 : Cond.selects RX7 yX7_part yX7_part ∈ zW := zW_in (List.mem_of_getElem? (i := 771) (by decide +kernel)) (by decide +kernel)
theorem wd_772 : Cond.code yX7_part cX7_part 2 (some .long) ∈ zW := zW_in (List.mem_of_getElem? (i := 772) (by decide +kernel)) (by decide +kernel)
theorem wd_794 : Cond.methodLink RL 123 yX7_from ∈ zW := zW_in (List.mem_of_getElem? (i := 794) (by decide +kernel)) (by decide +kernel)
theorem wd_795 : Cond.instanceMethod yX7_from ∈ zW := zW_in (List.mem_of_getElem? (i := 795) (by decide +kernel)) (by decide +kernel)
theorem wd_796 : Cond.selects RX7 yX7_from yX7_from ∈ zW := zW_in (List.mem_of_getElem? (i := 796) (by decide +kernel)) (by decide +kernel)
theorem wd_797 : Cond.code yX7_from cX7_from 3 (some .int) ∈ zW := zW_in (List.mem_of_getElem? (i := 797) (by decide +kernel)) (by decide +kernel)
theorem wd_798 : Cond.methodLink RL 127 yX7_status ∈ zW := zW_in (List.mem_of_getElem? (i := 798) (by decide +kernel)) (by decide +kernel)
theorem wd_799 : Cond.instanceMethod yX7_status ∈ zW := zW_in (List.mem_of_getElem? (i := 799) (by decide +kernel)) (by decide +kernel)
theorem wd_800 : Cond.selects RX7 yX7_status yX7_status ∈ zW := zW_in (List.mem_of_getElem? (i := 800) (by decide +kernel)) (by decide +kernel)
theorem wd_801 : Cond.code yX7_status cX7_status 2 (some .int) ∈ zW := zW_in (List.mem_of_getElem? (i := 801) (by decide +kernel)) (by decide +kernel)
theorem wd_802 : Cond.methodLink RL 131 yX7_count ∈ zW := zW_in (List.mem_of_getElem? (i := 802) (by decide +kernel)) (by decide +kernel)
theorem wd_810 : Cond.methodLink RL 135 yX7_digest ∈ zW := zW_in (List.mem_of_getElem? (i := 810) (by decide +kernel)) (by decide +kernel)
theorem wd_811 : Cond.instanceMethod yX7_digest ∈ zW := zW_in (List.mem_of_getElem? (i := 811) (by decide +kernel)) (by decide +kernel)
theorem wd_812 : Cond.selects RX7 yX7_digest yX7_digest ∈ zW := zW_in (List.mem_of_getElem? (i := 812) (by decide +kernel)) (by decide +kernel)
theorem wd_813 : Cond.code yX7_digest cX7_digest 4 (some .long) ∈ zW := zW_in (List.mem_of_getElem? (i := 813) (by decide +kernel)) (by decide +kernel)
theorem wd_911 : Cond.methodLink RL 17 yX8_roll ∈ zW := zW_in (List.mem_of_getElem? (i := 911) (by decide +kernel)) (by decide +kernel)
theorem wd_912 : Cond.instanceMethod yX8_roll ∈ zW := zW_in (List.mem_of_getElem? (i := 912) (by decide +kernel)) (by decide +kernel)
theorem wd_913 : Cond.selects RX8 yX8_roll yX8_roll ∈ zW := zW_in (List.mem_of_getElem? (i := 913) (by decide +kernel)) (by decide +kernel)
theorem wd_914 : Cond.code yX8_roll cX8_roll 2 (some .int) ∈ zW := zW_in (List.mem_of_getElem? (i := 914) (by decide +kernel)) (by decide +kernel)
theorem wd_918 : Cond.methodLink RL 22 yX8_write ∈ zW := zW_in (List.mem_of_getElem? (i := 918) (by decide +kernel)) (by decide +kernel)
theorem wd_919 : Cond.instanceMethod yX8_write ∈ zW := zW_in (List.mem_of_getElem? (i := 919) (by decide +kernel)) (by decide +kernel)
theorem wd_920 : Cond.selects RX8 yX8_write yX8_write ∈ zW := zW_in (List.mem_of_getElem? (i := 920) (by decide +kernel)) (by decide +kernel)
theorem wd_921 : Cond.code yX8_write cX8_write 5 (some .int) ∈ zW := zW_in (List.mem_of_getElem? (i := 921) (by decide +kernel)) (by decide +kernel)
theorem wd_958 : Cond.methodLink RL 27 yX8_rub ∈ zW := zW_in (List.mem_of_getElem? (i := 958) (by decide +kernel)) (by decide +kernel)
theorem wd_959 : Cond.instanceMethod yX8_rub ∈ zW := zW_in (List.mem_of_getElem? (i := 959) (by decide +kernel)) (by decide +kernel)
theorem wd_960 : Cond.selects RX8 yX8_rub yX8_rub ∈ zW := zW_in (List.mem_of_getElem? (i := 960) (by decide +kernel)) (by decide +kernel)
theorem wd_961 : Cond.code yX8_rub cX8_rub 2 (some .int) ∈ zW := zW_in (List.mem_of_getElem? (i := 961) (by decide +kernel)) (by decide +kernel)
theorem wd_965 : Cond.methodLink RL 31 yX8_years ∈ zW := zW_in (List.mem_of_getElem? (i := 965) (by decide +kernel)) (by decide +kernel)
theorem wd_966 : Cond.instanceMethod yX8_years ∈ zW := zW_in (List.mem_of_getElem? (i := 966) (by decide +kernel)) (by decide +kernel)
theorem wd_967 : Cond.selects RX8 yX8_years yX8_years ∈ zW := zW_in (List.mem_of_getElem? (i := 967) (by decide +kernel)) (by decide +kernel)
theorem wd_968 : Cond.code yX8_years cX8_years 2 (some .int) ∈ zW := zW_in (List.mem_of_getElem? (i := 968) (by decide +kernel)) (by decide +kernel)
theorem wd_973 : Cond.methodLink RL 35 yX8_undo ∈ zW := zW_in (List.mem_of_getElem? (i := 973) (by decide +kernel)) (by decide +kernel)
theorem wd_974 : Cond.instanceMethod yX8_undo ∈ zW := zW_in (List.mem_of_getElem? (i := 974) (by decide +kernel)) (by decide +kernel)
theorem wd_975 : Cond.selects RX8 yX8_undo yX8_undo ∈ zW := zW_in (List.mem_of_getElem? (i := 975) (by decide +kernel)) (by decide +kernel)
theorem wd_976 : Cond.code yX8_undo cX8_undo 2 (some .int) ∈ zW := zW_in (List.mem_of_getElem? (i := 976) (by decide +kernel)) (by decide +kernel)
theorem wd_977 : Cond.methodLink RL 51 yX8_layers ∈ zW := zW_in (List.mem_of_getElem? (i := 977) (by decide +kernel)) (by decide +kernel)
theorem wd_978 : Cond.instanceMethod yX8_layers ∈ zW := zW_in (List.mem_of_getElem? (i := 978) (by decide +kernel)) (by decide +kernel)
theorem wd_979 : Cond.selects RX8 yX8_layers yX8_layers ∈ zW := zW_in (List.mem_of_getElem? (i := 979) (by decide +kernel)) (by decide +kernel)
theorem wd_980 : Cond.code yX8_layers cX8_layers 2 (some .int) ∈ zW := zW_in (List.mem_of_getElem? (i := 980) (by decide +kernel)) (by decide +kernel)
theorem wd_981 : Cond.methodLink RL 56 yX8_of ∈ zW := zW_in (List.mem_of_getElem? (i := 981) (by decide +kernel)) (by decide +kernel)
theorem wd_982 : Cond.instanceMethod yX8_of ∈ zW := zW_in (List.mem_of_getElem? (i := 982) (by decide +kernel)) (by decide +kernel)
theorem wd_983 : Cond.selects RX8 yX8_of yX8_of ∈ zW := zW_in (List.mem_of_getElem? (i := 983) (by decide +kernel)) (by decide +kernel)
theorem wd_984 : Cond.code yX8_of cX8_of 4 (some .int) ∈ zW := zW_in (List.mem_of_getElem? (i := 984) (by decide +kernel)) (by decide +kernel)
theorem wd_989 : Cond.methodLink RL 60 yX8_binds ∈ zW := zW_in (List.mem_of_getElem? (i := 989) (by decide +kernel)) (by decide +kernel)
theorem wd_990 : Cond.instanceMethod yX8_binds ∈ zW := zW_in (List.mem_of_getElem? (i := 990) (by decide +kernel)) (by decide +kernel)
theorem wd_991 : Cond.selects RX8 yX8_binds yX8_binds ∈ zW := zW_in (List.mem_of_getElem? (i := 991) (by decide +kernel)) (by decide +kernel)
theorem wd_992 : Cond.code yX8_binds cX8_binds 4 (some .int) ∈ zW := zW_in (List.mem_of_getElem? (i := 992) (by decide +kernel)) (by decide +kernel)
theorem wd_1017 : Cond.methodLink RL 65 yX8_rule ∈ zW := zW_in (List.mem_of_getElem? (i := 1017) (by decide +kernel)) (by decide +kernel)
theorem wd_1018 : Cond.instanceMethod yX8_rule ∈ zW := zW_in (List.mem_of_getElem? (i := 1018) (by decide +kernel)) (by decide +kernel)
theorem wd_1019 : Cond.selects RX8 yX8_rule yX8_rule ∈ zW := zW_in (List.mem_of_getElem? (i := 1019) (by decide +kernel)) (by decide +kernel)
theorem wd_1020 : Cond.code yX8_rule cX8_rule 3 (some .int) ∈ zW := zW_in (List.mem_of_getElem? (i := 1020) (by decide +kernel)) (by decide +kernel)
theorem wd_1029 : Cond.methodLink RL 69 yX8_ends ∈ zW := zW_in (List.mem_of_getElem? (i := 1029) (by decide +kernel)) (by decide +kernel)
theorem wd_1030 : Cond.instanceMethod yX8_ends ∈ zW := zW_in (List.mem_of_getElem? (i := 1030) (by decide +kernel)) (by decide +kernel)
theorem wd_1031 : Cond.selects RX8 yX8_ends yX8_ends ∈ zW := zW_in (List.mem_of_getElem? (i := 1031) (by decide +kernel)) (by decide +kernel)
theorem wd_1032 : Cond.code yX8_ends cX8_ends 4 (some .int) ∈ zW := zW_in (List.mem_of_getElem? (i := 1032) (by decide +kernel)) (by decide +kernel)
theorem wd_1033 : Cond.methodLink RL 73 yX8_quarrel ∈ zW := zW_in (List.mem_of_getElem? (i := 1033) (by decide +kernel)) (by decide +kernel)
theorem wd_1034 : Cond.instanceMethod yX8_quarrel ∈ zW := zW_in (List.mem_of_getElem? (i := 1034) (by decide +kernel)) (by decide +kernel)
theorem wd_1035 : Cond.selects RX8 yX8_quarrel yX8_quarrel ∈ zW := zW_in (List.mem_of_getElem? (i := 1035) (by decide +kernel)) (by decide +kernel)
theorem wd_1036 : Cond.code yX8_quarrel cX8_quarrel 3 (some .int) ∈ zW := zW_in (List.mem_of_getElem? (i := 1036) (by decide +kernel)) (by decide +kernel)
theorem wd_1037 : Cond.methodLink RL 77 yX8_tear ∈ zW := zW_in (List.mem_of_getElem? (i := 1037) (by decide +kernel)) (by decide +kernel)
theorem wd_1038 : Cond.instanceMethod yX8_tear ∈ zW := zW_in (List.mem_of_getElem? (i := 1038) (by decide +kernel)) (by decide +kernel)
theorem wd_1039 : Cond.selects RX8 yX8_tear yX8_tear ∈ zW := zW_in (List.mem_of_getElem? (i := 1039) (by decide +kernel)) (by decide +kernel)
theorem wd_1040 : Cond.code yX8_tear cX8_tear 7 (some .int) ∈ zW := zW_in (List.mem_of_getElem? (i := 1040) (by decide +kernel)) (by decide +kernel)
theorem wd_1046 : Cond.methodLink RL 81 yX8_hangs ∈ zW := zW_in (List.mem_of_getElem? (i := 1046) (by decide +kernel)) (by decide +kernel)
theorem wd_1047 : Cond.instanceMethod yX8_hangs ∈ zW := zW_in (List.mem_of_getElem? (i := 1047) (by decide +kernel)) (by decide +kernel)
theorem wd_1048 : Cond.selects RX8 yX8_hangs yX8_hangs ∈ zW := zW_in (List.mem_of_getElem? (i := 1048) (by decide +kernel)) (by decide +kernel)
theorem wd_1049 : Cond.code yX8_hangs cX8_hangs 5 (some .int) ∈ zW := zW_in (List.mem_of_getElem? (i := 1049) (by decide +kernel)) (by decide +kernel)
theorem wd_1050 : Cond.methodLink RL 85 yX8_strokes ∈ zW := zW_in (List.mem_of_getElem? (i := 1050) (by decide +kernel)) (by decide +kernel)
theorem wd_1051 : Cond.instanceMethod yX8_strokes ∈ zW := zW_in (List.mem_of_getElem? (i := 1051) (by decide +kernel)) (by decide +kernel)
theorem wd_1052 : Cond.selects RX8 yX8_strokes yX8_strokes ∈ zW := zW_in (List.mem_of_getElem? (i := 1052) (by decide +kernel)) (by decide +kernel)
theorem wd_1053 : Cond.code yX8_strokes cX8_strokes 5 (some .int) ∈ zW := zW_in (List.mem_of_getElem? (i := 1053) (by decide +kernel)) (by decide +kernel)
theorem wd_1082 : Cond.methodLink RL 89 yX8_parties ∈ zW := zW_in (List.mem_of_getElem? (i := 1082) (by decide +kernel)) (by decide +kernel)
theorem wd_1083 : Cond.instanceMethod yX8_parties ∈ zW := zW_in (List.mem_of_getElem? (i := 1083) (by decide +kernel)) (by decide +kernel)
theorem wd_1084 : Cond.selects RX8 yX8_parties yX8_parties ∈ zW := zW_in (List.mem_of_getElem? (i := 1084) (by decide +kernel)) (by decide +kernel)
theorem wd_1085 : Cond.code yX8_parties cX8_parties 6 (some .int) ∈ zW := zW_in (List.mem_of_getElem? (i := 1085) (by decide +kernel)) (by decide +kernel)
theorem wd_1099 : Cond.methodLink RL 93 yX8_seen ∈ zW := zW_in (List.mem_of_getElem? (i := 1099) (by decide +kernel)) (by decide +kernel)
theorem wd_1100 : Cond.instanceMethod yX8_seen ∈ zW := zW_in (List.mem_of_getElem? (i := 1100) (by decide +kernel)) (by decide +kernel)
theorem wd_1101 : Cond.selects RX8 yX8_seen yX8_seen ∈ zW := zW_in (List.mem_of_getElem? (i := 1101) (by decide +kernel)) (by decide +kernel)
theorem wd_1102 : Cond.code yX8_seen cX8_seen 6 (some .int) ∈ zW := zW_in (List.mem_of_getElem? (i := 1102) (by decide +kernel)) (by decide +kernel)
theorem wd_1103 : Cond.methodLink RL 97 yX8_forget ∈ zW := zW_in (List.mem_of_getElem? (i := 1103) (by decide +kernel)) (by decide +kernel)
theorem wd_1104 : Cond.instanceMethod yX8_forget ∈ zW := zW_in (List.mem_of_getElem? (i := 1104) (by decide +kernel)) (by decide +kernel)
theorem wd_1105 : Cond.selects RX8 yX8_forget yX8_forget ∈ zW := zW_in (List.mem_of_getElem? (i := 1105) (by decide +kernel)) (by decide +kernel)
theorem wd_1106 : Cond.code yX8_forget cX8_forget 2 (some .int) ∈ zW := zW_in (List.mem_of_getElem? (i := 1106) (by decide +kernel)) (by decide +kernel)
theorem wd_1107 : Cond.methodLink RL 101 yX8_is ∈ zW := zW_in (List.mem_of_getElem? (i := 1107) (by decide +kernel)) (by decide +kernel)
theorem wd_1108 : Cond.instanceMethod yX8_is ∈ zW := zW_in (List.mem_of_getElem? (i := 1108) (by decide +kernel)) (by decide +kernel)
theorem wd_1109 : Cond.selects RX8 yX8_is yX8_is ∈ zW := zW_in (List.mem_of_getElem? (i := 1109) (by decide +kernel)) (by decide +kernel)
theorem wd_1110 : Cond.code yX8_is cX8_is 3 (some .int) ∈ zW := zW_in (List.mem_of_getElem? (i := 1110) (by decide +kernel)) (by decide +kernel)
theorem wd_1119 : Cond.methodLink RL 105 yX8_look ∈ zW := zW_in (List.mem_of_getElem? (i := 1119) (by decide +kernel)) (by decide +kernel)
theorem wd_1120 : Cond.instanceMethod yX8_look ∈ zW := zW_in (List.mem_of_getElem? (i := 1120) (by decide +kernel)) (by decide +kernel)
theorem wd_1121 : Cond.selects RX8 yX8_look yX8_look ∈ zW := zW_in (List.mem_of_getElem? (i := 1121) (by decide +kernel)) (by decide +kernel)
theorem wd_1122 : Cond.code yX8_look cX8_look 9 (some .int) ∈ zW := zW_in (List.mem_of_getElem? (i := 1122) (by decide +kernel)) (by decide +kernel)
theorem wd_1127 : Cond.methodLink RL 109 yX8_thumbs ∈ zW := zW_in (List.mem_of_getElem? (i := 1127) (by decide +kernel)) (by decide +kernel)
theorem wd_1128 : Cond.instanceMethod yX8_thumbs ∈ zW := zW_in (List.mem_of_getElem? (i := 1128) (by decide +kernel)) (by decide +kernel)
theorem wd_1129 : Cond.selects RX8 yX8_thumbs yX8_thumbs ∈ zW := zW_in (List.mem_of_getElem? (i := 1129) (by decide +kernel)) (by decide +kernel)
theorem wd_1130 : Cond.code yX8_thumbs cX8_thumbs 13 (some .int) ∈ zW := zW_in (List.mem_of_getElem? (i := 1130) (by decide +kernel)) (by decide +kernel)
theorem wd_1138 : Cond.methodLink RL 113 yX8_centuries ∈ zW := zW_in (List.mem_of_getElem? (i := 1138) (by decide +kernel)) (by decide +kernel)
theorem wd_1139 : Cond.instanceMethod yX8_centuries ∈ zW := zW_in (List.mem_of_getElem? (i := 1139) (by decide +kernel)) (by decide +kernel)
theorem wd_1140 : Cond.selects RX8 yX8_centuries yX8_centuries ∈ zW := zW_in (List.mem_of_getElem? (i := 1140) (by decide +kernel)) (by decide +kernel)
theorem wd_1141 : Cond.code yX8_centuries cX8_centuries 10 (some .int) ∈ zW := zW_in (List.mem_of_getElem? (i := 1141) (by decide +kernel)) (by decide +kernel)
theorem wd_1156 : Cond.methodLink RL 39 yX8_type ∈ zW := zW_in (List.mem_of_getElem? (i := 1156) (by decide +kernel)) (by decide +kernel)
theorem wd_1157 : Cond.instanceMethod yX8_type ∈ zW := zW_in (List.mem_of_getElem? (i := 1157) (by decide +kernel)) (by decide +kernel)
theorem wd_1158 : Cond.selects RX8 yX8_type yX8_type ∈ zW := zW_in (List.mem_of_getElem? (i := 1158) (by decide +kernel)) (by decide +kernel)
theorem wd_1159 : Cond.code yX8_type cX8_type 2 (some .int) ∈ zW := zW_in (List.mem_of_getElem? (i := 1159) (by decide +kernel)) (by decide +kernel)
theorem wd_1161 : Cond.methodLink RL 43 yX8_clear ∈ zW := zW_in (List.mem_of_getElem? (i := 1161) (by decide +kernel)) (by decide +kernel)
theorem wd_1162 : Cond.instanceMethod yX8_clear ∈ zW := zW_in (List.mem_of_getElem? (i := 1162) (by decide +kernel)) (by decide +kernel)
theorem wd_1163 : Cond.selects RX8 yX8_clear yX8_clear ∈ zW := zW_in (List.mem_of_getElem? (i := 1163) (by decide +kernel)) (by decide +kernel)
theorem wd_1164 : Cond.code yX8_clear cX8_clear 2 (some .int) ∈ zW := zW_in (List.mem_of_getElem? (i := 1164) (by decide +kernel)) (by decide +kernel)
theorem wd_1165 : Cond.methodLink RL 47 yX8_read ∈ zW := zW_in (List.mem_of_getElem? (i := 1165) (by decide +kernel)) (by decide +kernel)
theorem wd_1166 : Cond.instanceMethod yX8_read ∈ zW := zW_in (List.mem_of_getElem? (i := 1166) (by decide +kernel)) (by decide +kernel)
theorem wd_1167 : Cond.selects RX8 yX8_read yX8_read ∈ zW := zW_in (List.mem_of_getElem? (i := 1167) (by decide +kernel)) (by decide +kernel)
theorem wd_1168 : Cond.code yX8_read cX8_read 3 (some .int) ∈ zW := zW_in (List.mem_of_getElem? (i := 1168) (by decide +kernel)) (by decide +kernel)
theorem wd_1211 : Cond.methodLink RL 118 yX8_part ∈ zW := zW_in (List.mem_of_getElem? (i := 1211) (by decide +kernel)) (by decide +kernel)
theorem wd_1212 : Cond.instanceMethod yX8_part ∈ zW := zW_in (List.mem_of_getElem? (i := 1212) (by decide +kernel)) (by decide +kernel)
theorem wd_1213 : Cond.selects RX8 yX8_part yX8_part ∈ zW := zW_in (List.mem_of_getElem? (i := 1213) (by decide +kernel)) (by decide +kernel)
theorem wd_1214 : Cond.code yX8_part cX8_part 2 (some .long) ∈ zW := zW_in (List.mem_of_getElem? (i := 1214) (by decide +kernel)) (by decide +kernel)
theorem wd_1215 : Cond.methodLink RL 122 yX8_image ∈ zW := zW_in (List.mem_of_getElem? (i := 1215) (by decide +kernel)) (by decide +kernel)
theorem wd_1216 : Cond.instanceMethod yX8_image ∈ zW := zW_in (List.mem_of_getElem? (i := 1216) (by decide +kernel)) (by decide +kernel)
theorem wd_1217 : Cond.selects RX8 yX8_image yX8_image ∈ zW := zW_in (List.mem_of_getElem? (i := 1217) (by decide +kernel)) (by decide +kernel)
theorem wd_1218 : Cond.code yX8_image cX8_image 3 (some .int) ∈ zW := zW_in (List.mem_of_getElem? (i := 1218) (by decide +kernel)) (by decide +kernel)
theorem wd_1219 : Cond.methodLink RL 126 yX8_from ∈ zW := zW_in (List.mem_of_getElem? (i := 1219) (by decide +kernel)) (by decide +kernel)
theorem wd_1220 : Cond.instanceMethod yX8_from ∈ zW := zW_in (List.mem_of_getElem? (i := 1220) (by decide +kernel)) (by decide +kernel)
theorem wd_1221 : Cond.selects RX8 yX8_from yX8_from ∈ zW := zW_in (List.mem_of_getElem? (i := 1221) (by decide +kernel)) (by decide +kernel)
theorem wd_1222 : Cond.code yX8_from cX8_from 3 (some .int) ∈ zW := zW_in (List.mem_of_getElem? (i := 1222) (by decide +kernel)) (by decide +kernel)
theorem wd_1223 : Cond.methodLink RL 130 yX8_status ∈ zW := zW_in (List.mem_of_getElem? (i := 1223) (by decide +kernel)) (by decide +kernel)
theorem wd_1224 : Cond.instanceMethod yX8_status ∈ zW := zW_in (List.mem_of_getElem? (i := 1224) (by decide +kernel)) (by decide +kernel)
theorem wd_1225 : Cond.selects RX8 yX8_status yX8_status ∈ zW := zW_in (List.mem_of_getElem? (i := 1225) (by decide +kernel)) (by decide +kernel)
theorem wd_1226 : Cond.code yX8_status cX8_status 2 (some .int) ∈ zW := zW_in (List.mem_of_getElem? (i := 1226) (by decide +kernel)) (by decide +kernel)
theorem wd_1227 : Cond.methodLink RL 134 yX8_count ∈ zW := zW_in (List.mem_of_getElem? (i := 1227) (by decide +kernel)) (by decide +kernel)
theorem wd_1228 : Cond.instanceMethod yX8_count ∈ zW := zW_in (List.mem_of_getElem? (i := 1228) (by decide +kernel)) (by decide +kernel)
theorem wd_1229 : Cond.selects RX8 yX8_count yX8_count ∈ zW := zW_in (List.mem_of_getElem? (i := 1229) (by decide +kernel)) (by decide +kernel)
theorem wd_1230 : Cond.code yX8_count cX8_count 2 (some .int) ∈ zW := zW_in (List.mem_of_getElem? (i := 1230) (by decide +kernel)) (by decide +kernel)
theorem wd_1239 : Cond.methodLink RL 139 yX8_digest ∈ zW := zW_in (List.mem_of_getElem? (i := 1239) (by decide +kernel)) (by decide +kernel)
theorem wd_1240 : Cond.instanceMethod yX8_digest ∈ zW := zW_in (List.mem_of_getElem? (i := 1240) (by decide +kernel)) (by decide +kernel)
theorem wd_1241 : Cond.selects RX8 yX8_digest yX8_digest ∈ zW := zW_in (List.mem_of_getElem? (i := 1241) (by decide +kernel)) (by decide +kernel)
theorem wd_1242 : Cond.code yX8_digest cX8_digest 4 (some .long) ∈ zW := zW_in (List.mem_of_getElem? (i := 1242) (by decide +kernel)) (by decide +kernel)
/-! the law -/
def zt_scl (L nx : Nat) : zT := fun X ls st M => match st with
  | .inr (.inr (.inl (t, _))) :: r => t = 31 ∧ X nx ls (zI (nI L) :: r) M
  | _ => False
def zt_sld (L : Nat) (xs : Nat → Int32) (nx : Nat) : zT := fun X ls st M => match st with
  | .inl i :: .inr (.inr (.inl (t, _))) :: r => t = 31 ∧ vp_in i L ∧ X nx ls (zI (xs i.toNatClampNeg) :: r) M
  | _ => False
section LAWR
variable {p : Program} {l : Launch} {e : Env} {R : Room} {s : State} {m : MethodId} {args : Array Value} {below : List Frame} {meth : Method} {c : Code} {D : va_G} {cy : Nat → ClassId} {A : Nat → Prop} {ad : Nat × Nat → Nat} {bl : zBl} {nL ce so : Nat} {Qm : State → Prop} {cc : ByteArray} {pc : Nat} {b L : Nat} {xs : Nat → Int32}
theorem ok_scl (hx : p.tables.exec = Jvm.exec) (hb : c.code = cc) (hX9 : va_X b L xs s s.heap) (hbl : b < s.heap.size) (hbA : ¬ A b) (hb31 : ∀ o, ad (31, o) = b) (hdg : decode cc pc = .ok (.arraylength, 1)) : zOk p l e R s m args below meth c D cy A ad bl nL ce so Qm pc (zt_scl L (pc + 1)) := by
  intro X hX ls st M h H locs arr hn hP hS hl
  unfold zt_scl at h
  split at h
  · rename_i t o r
    obtain ⟨rfl, h⟩ := h
    have h9 := hX _ _ _ _ h H locs arr hn hP hS hl
    show W p l e R s m args below meth c H locs ce so Qm (F0 m pc arr (.ref (ad (31, o)) :: r.map (zcv ad)))
    rw [hb31]
    exact va_slen hx hb hX9 hbl hbA hS hdg h9
  · exact h.elim
theorem ok_sld (hx : p.tables.exec = Jvm.exec) (hb : c.code = cc) (hX9 : va_X b L xs s s.heap) (hbl : b < s.heap.size) (hbA : ¬ A b) (hb31 : ∀ o, ad (31, o) = b) (hdg : decode cc pc = .ok (.iaload, 1)) : zOk p l e R s m args below meth c D cy A ad bl nL ce so Qm pc (zt_sld L xs (pc + 1)) := by
  intro X hX ls st M h H locs arr hn hP hS hl
  unfold zt_sld at h
  split at h
  · rename_i i t o r
    obtain ⟨rfl, hi, h⟩ := h
    have h9 := hX _ _ _ _ h H locs arr hn hP hS hl
    show W p l e R s m args below meth c H locs ce so Qm (F0 m pc arr (.int i :: .ref (ad (31, o)) :: r.map (zcv ad)))
    rw [hb31]
    exact va_sld hx hb hX9 hbl hbA hS hi hdg h9
  · exact h.elim
end LAWR
theorem dd_L_law_18 : decode cL_law 18 = .ok (.iload_n 3, 1) := by decide +kernel
theorem dd_L_law_19 : decode cL_law 19 = .ok (.aload_n 0, 1) := by decide +kernel
theorem dd_L_law_20 : decode cL_law 20 = .ok (.arraylength, 1) := by decide +kernel
theorem dd_L_law_21 : decode cL_law 21 = .ok (.iconst 5, 1) := by decide +kernel
theorem dd_L_law_22 : decode cL_law 22 = .ok (.isub, 1) := by decide +kernel
theorem dd_L_law_23 : decode cL_law 23 = .ok (.if_icmp .gt 1053, 3) := by decide +kernel
theorem dd_L_law_26 : decode cL_law 26 = .ok (.aload_n 0, 1) := by decide +kernel
theorem dd_L_law_27 : decode cL_law 27 = .ok (.iload_n 3, 1) := by decide +kernel
theorem dd_L_law_28 : decode cL_law 28 = .ok (.iaload, 1) := by decide +kernel
theorem dd_L_law_29 : decode cL_law 29 = .ok (.bipush 31, 2) := by decide +kernel
theorem dd_L_law_31 : decode cL_law 31 = .ok (.iand, 1) := by decide +kernel
theorem dd_L_law_32 : decode cL_law 32 = .ok (.tableswitch 1038 0 29 #[136, 149, 202, 225, 248, 261, 284, 297, 310, 333, 376, 419, 452, 485, 508, 541, 584, 637, 690, 743, 756, 789, 822, 875, 908, 932, 955, 978, 1001, 1024], 136) := by decide +kernel
def tb_Lh (L : Nat) (xs : Nat → Int32) (kd : Nat → Nat) : zTab := [(18, zt_iload 3 19), (19, zt_aload 0 20), (20, zt_scl L 21), (21, zt_const (zI 5) 22), (22, zt_bin (fun x y => x - y) 23), (23, zt_icmp (fun x y => y < x) (fun x y => ¬ y < x) 1076 26), (26, zt_aload 0 27), (27, zt_iload 3 28), (28, zt_sld L xs 29), (29, zt_const (zI 31) 31), (31, zt_bin (fun x y => x &&& y) 32), (32, zt_sw [(0, 168), (1, 181), (2, 234), (3, 257), (4, 280), (5, 293), (6, 316), (7, 329), (8, 342), (9, 365), (10, 408), (11, 451), (12, 484), (13, 517), (14, 540), (15, 573), (16, 616), (17, 669), (18, 722), (19, 775), (20, 788), (21, 821), (22, 854), (23, 907), (24, 940), (25, 964), (26, 987), (27, 1010), (28, 1033), (29, 1056)] 1070)]
def cu_Lh : zCut := [(168, []), (181, []), (234, []), (257, []), (280, []), (293, []), (316, []), (329, []), (342, []), (365, []), (408, []), (451, []), (484, []), (517, []), (540, []), (573, []), (616, []), (669, []), (722, []), (775, []), (788, []), (821, []), (854, []), (907, []), (940, []), (964, []), (987, []), (1010, []), (1033, []), (1056, []), (1070, []), (1076, [])]
set_option maxRecDepth 20000 in
theorem tk_Lh {p : Program} {l : Launch} {e : Env} {R : Room} {s : State} {m : MethodId} {args : Array Value} {below : List Frame} {meth : Method} {c : Code} {D : va_G} {cy : Nat → ClassId} {A : Nat → Prop} {ad : Nat × Nat → Nat} {bl : zBl} {ce so : Nat} {Qm : State → Prop} {b L : Nat} {xs : Nat → Int32} (C0 : zCtx p l e R s m args below meth c D cy A ad bl 4 ce so Qm RL cL_law (60 + 1)) (hX : va_X b L xs s s.heap) (hbl : b < s.heap.size) (hbA : ¬ A b) (hb31 : ∀ o, ad (31, o) = b) : ∀ q ∈ tb_Lh L xs (zkd bl), zOk p l e R s m args below meth c D cy A ad bl 4 ce so Qm q.1 q.2 := by
  obtain ⟨hx, hb, hml, hown, hts, hK, hD, hA0, hN, hE, ⟨hR1, hR2⟩, hc1, hc2⟩ := id C0
  unfold tb_Lh
  refine List.forall_mem_cons.mpr ⟨ok_iload_n hx hb rfl dd_L_law_18, ?_⟩
  refine List.forall_mem_cons.mpr ⟨ok_aload_n hx hb rfl dd_L_law_19, ?_⟩
  refine List.forall_mem_cons.mpr ⟨ok_scl hx hb hX hbl hbA hb31 dd_L_law_20, ?_⟩
  refine List.forall_mem_cons.mpr ⟨ok_iconst hx hb dd_L_law_21 (by decide), ?_⟩
  refine List.forall_mem_cons.mpr ⟨ok_isub hx hb dd_L_law_22, ?_⟩
  refine List.forall_mem_cons.mpr ⟨ok_icmp_gt hx hb dd_L_law_23 (by decide), ?_⟩
  refine List.forall_mem_cons.mpr ⟨ok_aload_n hx hb rfl dd_L_law_26, ?_⟩
  refine List.forall_mem_cons.mpr ⟨ok_iload_n hx hb rfl dd_L_law_27, ?_⟩
  refine List.forall_mem_cons.mpr ⟨ok_sld hx hb hX hbl hbA hb31 dd_L_law_28, ?_⟩
  refine List.forall_mem_cons.mpr ⟨ok_bipush hx hb dd_L_law_29 (by decide), ?_⟩
  refine List.forall_mem_cons.mpr ⟨ok_iand hx hb dd_L_law_31, ?_⟩
  refine List.forall_mem_cons.mpr ⟨ok_tsw hx hb dd_L_law_32 (by decide) (by decide) (fun k hk => by rcases (show k = 0 ∨ k = 1 ∨ k = 2 ∨ k = 3 ∨ k = 4 ∨ k = 5 ∨ k = 6 ∨ k = 7 ∨ k = 8 ∨ k = 9 ∨ k = 10 ∨ k = 11 ∨ k = 12 ∨ k = 13 ∨ k = 14 ∨ k = 15 ∨ k = 16 ∨ k = 17 ∨ k = 18 ∨ k = 19 ∨ k = 20 ∨ k = 21 ∨ k = 22 ∨ k = 23 ∨ k = 24 ∨ k = 25 ∨ k = 26 ∨ k = 27 ∨ k = 28 ∨ k = 29 by simp at hk; omega) with rfl | rfl | rfl | rfl | rfl | rfl | rfl | rfl | rfl | rfl | rfl | rfl | rfl | rfl | rfl | rfl | rfl | rfl | rfl | rfl | rfl | rfl | rfl | rfl | rfl | rfl | rfl | rfl | rfl | rfl <;> exact ⟨_, _, rfl, by decide, rfl, by decide⟩), ?_⟩
  exact fun _ h => absurd h List.not_mem_nil
set_option maxRecDepth 100000 in
theorem vc_Lh_18 {L : Nat} {xs : Nat → Int32} {kd : Nat → Nat} {X : zX} (hX : ∀ (n pc : Nat) (ls : zLS) (st : List zV) (M : zM), zrun (tb_Lh L xs kd) cu_Lh n X pc ls st M → X pc ls st M) {i : Int32} {M : zM}  (h : ((((nI L) - (5 : Int32)) < i) → X 1076 [some (zR 31 0), some (zR 0 0), some (zR 9 0), some (zI (i))] [] M) ∧ ((¬ ((nI L) - (5 : Int32)) < i) → (vp_in i L) ∧ ((((xs (i).toNatClampNeg) &&& (31 : Int32)) = 0) → X 168 [some (zR 31 0), some (zR 0 0), some (zR 9 0), some (zI (i))] [] M) ∧ ((¬ ((xs (i).toNatClampNeg) &&& (31 : Int32)) = 0) → ((((xs (i).toNatClampNeg) &&& (31 : Int32)) = 1) → X 181 [some (zR 31 0), some (zR 0 0), some (zR 9 0), some (zI (i))] [] M) ∧ ((¬ ((xs (i).toNatClampNeg) &&& (31 : Int32)) = 1) → ((((xs (i).toNatClampNeg) &&& (31 : Int32)) = 2) → X 234 [some (zR 31 0), some (zR 0 0), some (zR 9 0), some (zI (i))] [] M) ∧ ((¬ ((xs (i).toNatClampNeg) &&& (31 : Int32)) = 2) → ((((xs (i).toNatClampNeg) &&& (31 : Int32)) = 3) → X 257 [some (zR 31 0), some (zR 0 0), some (zR 9 0), some (zI (i))] [] M) ∧ ((¬ ((xs (i).toNatClampNeg) &&& (31 : Int32)) = 3) → ((((xs (i).toNatClampNeg) &&& (31 : Int32)) = 4) → X 280 [some (zR 31 0), some (zR 0 0), some (zR 9 0), some (zI (i))] [] M) ∧ ((¬ ((xs (i).toNatClampNeg) &&& (31 : Int32)) = 4) → ((((xs (i).toNatClampNeg) &&& (31 : Int32)) = 5) → X 293 [some (zR 31 0), some (zR 0 0), some (zR 9 0), some (zI (i))] [] M) ∧ ((¬ ((xs (i).toNatClampNeg) &&& (31 : Int32)) = 5) → ((((xs (i).toNatClampNeg) &&& (31 : Int32)) = 6) → X 316 [some (zR 31 0), some (zR 0 0), some (zR 9 0), some (zI (i))] [] M) ∧ ((¬ ((xs (i).toNatClampNeg) &&& (31 : Int32)) = 6) → ((((xs (i).toNatClampNeg) &&& (31 : Int32)) = 7) → X 329 [some (zR 31 0), some (zR 0 0), some (zR 9 0), some (zI (i))] [] M) ∧ ((¬ ((xs (i).toNatClampNeg) &&& (31 : Int32)) = 7) → ((((xs (i).toNatClampNeg) &&& (31 : Int32)) = 8) → X 342 [some (zR 31 0), some (zR 0 0), some (zR 9 0), some (zI (i))] [] M) ∧ ((¬ ((xs (i).toNatClampNeg) &&& (31 : Int32)) = 8) → ((((xs (i).toNatClampNeg) &&& (31 : Int32)) = 9) → X 365 [some (zR 31 0), some (zR 0 0), some (zR 9 0), some (zI (i))] [] M) ∧ ((¬ ((xs (i).toNatClampNeg) &&& (31 : Int32)) = 9) → ((((xs (i).toNatClampNeg) &&& (31 : Int32)) = 10) → X 408 [some (zR 31 0), some (zR 0 0), some (zR 9 0), some (zI (i))] [] M) ∧ ((¬ ((xs (i).toNatClampNeg) &&& (31 : Int32)) = 10) → ((((xs (i).toNatClampNeg) &&& (31 : Int32)) = 11) → X 451 [some (zR 31 0), some (zR 0 0), some (zR 9 0), some (zI (i))] [] M) ∧ ((¬ ((xs (i).toNatClampNeg) &&& (31 : Int32)) = 11) → ((((xs (i).toNatClampNeg) &&& (31 : Int32)) = 12) → X 484 [some (zR 31 0), some (zR 0 0), some (zR 9 0), some (zI (i))] [] M) ∧ ((¬ ((xs (i).toNatClampNeg) &&& (31 : Int32)) = 12) → ((((xs (i).toNatClampNeg) &&& (31 : Int32)) = 13) → X 517 [some (zR 31 0), some (zR 0 0), some (zR 9 0), some (zI (i))] [] M) ∧ ((¬ ((xs (i).toNatClampNeg) &&& (31 : Int32)) = 13) → ((((xs (i).toNatClampNeg) &&& (31 : Int32)) = 14) → X 540 [some (zR 31 0), some (zR 0 0), some (zR 9 0), some (zI (i))] [] M) ∧ ((¬ ((xs (i).toNatClampNeg) &&& (31 : Int32)) = 14) → ((((xs (i).toNatClampNeg) &&& (31 : Int32)) = 15) → X 573 [some (zR 31 0), some (zR 0 0), some (zR 9 0), some (zI (i))] [] M) ∧ ((¬ ((xs (i).toNatClampNeg) &&& (31 : Int32)) = 15) → ((((xs (i).toNatClampNeg) &&& (31 : Int32)) = 16) → X 616 [some (zR 31 0), some (zR 0 0), some (zR 9 0), some (zI (i))] [] M) ∧ ((¬ ((xs (i).toNatClampNeg) &&& (31 : Int32)) = 16) → ((((xs (i).toNatClampNeg) &&& (31 : Int32)) = 17) → X 669 [some (zR 31 0), some (zR 0 0), some (zR 9 0), some (zI (i))] [] M) ∧ ((¬ ((xs (i).toNatClampNeg) &&& (31 : Int32)) = 17) → ((((xs (i).toNatClampNeg) &&& (31 : Int32)) = 18) → X 722 [some (zR 31 0), some (zR 0 0), some (zR 9 0), some (zI (i))] [] M) ∧ ((¬ ((xs (i).toNatClampNeg) &&& (31 : Int32)) = 18) → ((((xs (i).toNatClampNeg) &&& (31 : Int32)) = 19) → X 775 [some (zR 31 0), some (zR 0 0), some (zR 9 0), some (zI (i))] [] M) ∧ ((¬ ((xs (i).toNatClampNeg) &&& (31 : Int32)) = 19) → ((((xs (i).toNatClampNeg) &&& (31 : Int32)) = 20) → X 788 [some (zR 31 0), some (zR 0 0), some (zR 9 0), some (zI (i))] [] M) ∧ ((¬ ((xs (i).toNatClampNeg) &&& (31 : Int32)) = 20) → ((((xs (i).toNatClampNeg) &&& (31 : Int32)) = 21) → X 821 [some (zR 31 0), some (zR 0 0), some (zR 9 0), some (zI (i))] [] M) ∧ ((¬ ((xs (i).toNatClampNeg) &&& (31 : Int32)) = 21) → ((((xs (i).toNatClampNeg) &&& (31 : Int32)) = 22) → X 854 [some (zR 31 0), some (zR 0 0), some (zR 9 0), some (zI (i))] [] M) ∧ ((¬ ((xs (i).toNatClampNeg) &&& (31 : Int32)) = 22) → ((((xs (i).toNatClampNeg) &&& (31 : Int32)) = 23) → X 907 [some (zR 31 0), some (zR 0 0), some (zR 9 0), some (zI (i))] [] M) ∧ ((¬ ((xs (i).toNatClampNeg) &&& (31 : Int32)) = 23) → ((((xs (i).toNatClampNeg) &&& (31 : Int32)) = 24) → X 940 [some (zR 31 0), some (zR 0 0), some (zR 9 0), some (zI (i))] [] M) ∧ ((¬ ((xs (i).toNatClampNeg) &&& (31 : Int32)) = 24) → ((((xs (i).toNatClampNeg) &&& (31 : Int32)) = 25) → X 964 [some (zR 31 0), some (zR 0 0), some (zR 9 0), some (zI (i))] [] M) ∧ ((¬ ((xs (i).toNatClampNeg) &&& (31 : Int32)) = 25) → ((((xs (i).toNatClampNeg) &&& (31 : Int32)) = 26) → X 987 [some (zR 31 0), some (zR 0 0), some (zR 9 0), some (zI (i))] [] M) ∧ ((¬ ((xs (i).toNatClampNeg) &&& (31 : Int32)) = 26) → ((((xs (i).toNatClampNeg) &&& (31 : Int32)) = 27) → X 1010 [some (zR 31 0), some (zR 0 0), some (zR 9 0), some (zI (i))] [] M) ∧ ((¬ ((xs (i).toNatClampNeg) &&& (31 : Int32)) = 27) → ((((xs (i).toNatClampNeg) &&& (31 : Int32)) = 28) → X 1033 [some (zR 31 0), some (zR 0 0), some (zR 9 0), some (zI (i))] [] M) ∧ ((¬ ((xs (i).toNatClampNeg) &&& (31 : Int32)) = 28) → ((((xs (i).toNatClampNeg) &&& (31 : Int32)) = 29) → X 1056 [some (zR 31 0), some (zR 0 0), some (zR 9 0), some (zI (i))] [] M) ∧ ((¬ ((xs (i).toNatClampNeg) &&& (31 : Int32)) = 29) → X 1070 [some (zR 31 0), some (zR 0 0), some (zR 9 0), some (zI (i))] [] M)))))))))))))))))))))))))))))))) : X 18 [some (zR 31 0), some (zR 0 0), some (zR 9 0), some (zI (i))] [] M := hX 14 18 _ [] M (show (31 = 31) ∧ ((((nI L) - (5 : Int32)) < i) → X 1076 [some (zR 31 0), some (zR 0 0), some (zR 9 0), some (zI (i))] [] M) ∧ ((¬ ((nI L) - (5 : Int32)) < i) → (31 = 31) ∧ (vp_in i L) ∧ ((((xs (i).toNatClampNeg) &&& (31 : Int32)) = 0) → X 168 [some (zR 31 0), some (zR 0 0), some (zR 9 0), some (zI (i))] [] M) ∧ ((¬ ((xs (i).toNatClampNeg) &&& (31 : Int32)) = 0) → ((((xs (i).toNatClampNeg) &&& (31 : Int32)) = 1) → X 181 [some (zR 31 0), some (zR 0 0), some (zR 9 0), some (zI (i))] [] M) ∧ ((¬ ((xs (i).toNatClampNeg) &&& (31 : Int32)) = 1) → ((((xs (i).toNatClampNeg) &&& (31 : Int32)) = 2) → X 234 [some (zR 31 0), some (zR 0 0), some (zR 9 0), some (zI (i))] [] M) ∧ ((¬ ((xs (i).toNatClampNeg) &&& (31 : Int32)) = 2) → ((((xs (i).toNatClampNeg) &&& (31 : Int32)) = 3) → X 257 [some (zR 31 0), some (zR 0 0), some (zR 9 0), some (zI (i))] [] M) ∧ ((¬ ((xs (i).toNatClampNeg) &&& (31 : Int32)) = 3) → ((((xs (i).toNatClampNeg) &&& (31 : Int32)) = 4) → X 280 [some (zR 31 0), some (zR 0 0), some (zR 9 0), some (zI (i))] [] M) ∧ ((¬ ((xs (i).toNatClampNeg) &&& (31 : Int32)) = 4) → ((((xs (i).toNatClampNeg) &&& (31 : Int32)) = 5) → X 293 [some (zR 31 0), some (zR 0 0), some (zR 9 0), some (zI (i))] [] M) ∧ ((¬ ((xs (i).toNatClampNeg) &&& (31 : Int32)) = 5) → ((((xs (i).toNatClampNeg) &&& (31 : Int32)) = 6) → X 316 [some (zR 31 0), some (zR 0 0), some (zR 9 0), some (zI (i))] [] M) ∧ ((¬ ((xs (i).toNatClampNeg) &&& (31 : Int32)) = 6) → ((((xs (i).toNatClampNeg) &&& (31 : Int32)) = 7) → X 329 [some (zR 31 0), some (zR 0 0), some (zR 9 0), some (zI (i))] [] M) ∧ ((¬ ((xs (i).toNatClampNeg) &&& (31 : Int32)) = 7) → ((((xs (i).toNatClampNeg) &&& (31 : Int32)) = 8) → X 342 [some (zR 31 0), some (zR 0 0), some (zR 9 0), some (zI (i))] [] M) ∧ ((¬ ((xs (i).toNatClampNeg) &&& (31 : Int32)) = 8) → ((((xs (i).toNatClampNeg) &&& (31 : Int32)) = 9) → X 365 [some (zR 31 0), some (zR 0 0), some (zR 9 0), some (zI (i))] [] M) ∧ ((¬ ((xs (i).toNatClampNeg) &&& (31 : Int32)) = 9) → ((((xs (i).toNatClampNeg) &&& (31 : Int32)) = 10) → X 408 [some (zR 31 0), some (zR 0 0), some (zR 9 0), some (zI (i))] [] M) ∧ ((¬ ((xs (i).toNatClampNeg) &&& (31 : Int32)) = 10) → ((((xs (i).toNatClampNeg) &&& (31 : Int32)) = 11) → X 451 [some (zR 31 0), some (zR 0 0), some (zR 9 0), some (zI (i))] [] M) ∧ ((¬ ((xs (i).toNatClampNeg) &&& (31 : Int32)) = 11) → ((((xs (i).toNatClampNeg) &&& (31 : Int32)) = 12) → X 484 [some (zR 31 0), some (zR 0 0), some (zR 9 0), some (zI (i))] [] M) ∧ ((¬ ((xs (i).toNatClampNeg) &&& (31 : Int32)) = 12) → ((((xs (i).toNatClampNeg) &&& (31 : Int32)) = 13) → X 517 [some (zR 31 0), some (zR 0 0), some (zR 9 0), some (zI (i))] [] M) ∧ ((¬ ((xs (i).toNatClampNeg) &&& (31 : Int32)) = 13) → ((((xs (i).toNatClampNeg) &&& (31 : Int32)) = 14) → X 540 [some (zR 31 0), some (zR 0 0), some (zR 9 0), some (zI (i))] [] M) ∧ ((¬ ((xs (i).toNatClampNeg) &&& (31 : Int32)) = 14) → ((((xs (i).toNatClampNeg) &&& (31 : Int32)) = 15) → X 573 [some (zR 31 0), some (zR 0 0), some (zR 9 0), some (zI (i))] [] M) ∧ ((¬ ((xs (i).toNatClampNeg) &&& (31 : Int32)) = 15) → ((((xs (i).toNatClampNeg) &&& (31 : Int32)) = 16) → X 616 [some (zR 31 0), some (zR 0 0), some (zR 9 0), some (zI (i))] [] M) ∧ ((¬ ((xs (i).toNatClampNeg) &&& (31 : Int32)) = 16) → ((((xs (i).toNatClampNeg) &&& (31 : Int32)) = 17) → X 669 [some (zR 31 0), some (zR 0 0), some (zR 9 0), some (zI (i))] [] M) ∧ ((¬ ((xs (i).toNatClampNeg) &&& (31 : Int32)) = 17) → ((((xs (i).toNatClampNeg) &&& (31 : Int32)) = 18) → X 722 [some (zR 31 0), some (zR 0 0), some (zR 9 0), some (zI (i))] [] M) ∧ ((¬ ((xs (i).toNatClampNeg) &&& (31 : Int32)) = 18) → ((((xs (i).toNatClampNeg) &&& (31 : Int32)) = 19) → X 775 [some (zR 31 0), some (zR 0 0), some (zR 9 0), some (zI (i))] [] M) ∧ ((¬ ((xs (i).toNatClampNeg) &&& (31 : Int32)) = 19) → ((((xs (i).toNatClampNeg) &&& (31 : Int32)) = 20) → X 788 [some (zR 31 0), some (zR 0 0), some (zR 9 0), some (zI (i))] [] M) ∧ ((¬ ((xs (i).toNatClampNeg) &&& (31 : Int32)) = 20) → ((((xs (i).toNatClampNeg) &&& (31 : Int32)) = 21) → X 821 [some (zR 31 0), some (zR 0 0), some (zR 9 0), some (zI (i))] [] M) ∧ ((¬ ((xs (i).toNatClampNeg) &&& (31 : Int32)) = 21) → ((((xs (i).toNatClampNeg) &&& (31 : Int32)) = 22) → X 854 [some (zR 31 0), some (zR 0 0), some (zR 9 0), some (zI (i))] [] M) ∧ ((¬ ((xs (i).toNatClampNeg) &&& (31 : Int32)) = 22) → ((((xs (i).toNatClampNeg) &&& (31 : Int32)) = 23) → X 907 [some (zR 31 0), some (zR 0 0), some (zR 9 0), some (zI (i))] [] M) ∧ ((¬ ((xs (i).toNatClampNeg) &&& (31 : Int32)) = 23) → ((((xs (i).toNatClampNeg) &&& (31 : Int32)) = 24) → X 940 [some (zR 31 0), some (zR 0 0), some (zR 9 0), some (zI (i))] [] M) ∧ ((¬ ((xs (i).toNatClampNeg) &&& (31 : Int32)) = 24) → ((((xs (i).toNatClampNeg) &&& (31 : Int32)) = 25) → X 964 [some (zR 31 0), some (zR 0 0), some (zR 9 0), some (zI (i))] [] M) ∧ ((¬ ((xs (i).toNatClampNeg) &&& (31 : Int32)) = 25) → ((((xs (i).toNatClampNeg) &&& (31 : Int32)) = 26) → X 987 [some (zR 31 0), some (zR 0 0), some (zR 9 0), some (zI (i))] [] M) ∧ ((¬ ((xs (i).toNatClampNeg) &&& (31 : Int32)) = 26) → ((((xs (i).toNatClampNeg) &&& (31 : Int32)) = 27) → X 1010 [some (zR 31 0), some (zR 0 0), some (zR 9 0), some (zI (i))] [] M) ∧ ((¬ ((xs (i).toNatClampNeg) &&& (31 : Int32)) = 27) → ((((xs (i).toNatClampNeg) &&& (31 : Int32)) = 28) → X 1033 [some (zR 31 0), some (zR 0 0), some (zR 9 0), some (zI (i))] [] M) ∧ ((¬ ((xs (i).toNatClampNeg) &&& (31 : Int32)) = 28) → ((((xs (i).toNatClampNeg) &&& (31 : Int32)) = 29) → X 1056 [some (zR 31 0), some (zR 0 0), some (zR 9 0), some (zI (i))] [] M) ∧ ((¬ ((xs (i).toNatClampNeg) &&& (31 : Int32)) = 29) → X 1070 [some (zR 31 0), some (zR 0 0), some (zR 9 0), some (zI (i))] [] M))))))))))))))))))))))))))))))) from ⟨rfl, ⟨fun q => have h := h.1 q; h, fun q => have h := h.2 q; ⟨rfl, ⟨h.1, have h := h.2; ⟨fun q => have h := h.1 q; h, fun q => have h := h.2 q; ⟨fun q => have h := h.1 q; h, fun q => have h := h.2 q; ⟨fun q => have h := h.1 q; h, fun q => have h := h.2 q; ⟨fun q => have h := h.1 q; h, fun q => have h := h.2 q; ⟨fun q => have h := h.1 q; h, fun q => have h := h.2 q; ⟨fun q => have h := h.1 q; h, fun q => have h := h.2 q; ⟨fun q => have h := h.1 q; h, fun q => have h := h.2 q; ⟨fun q => have h := h.1 q; h, fun q => have h := h.2 q; ⟨fun q => have h := h.1 q; h, fun q => have h := h.2 q; ⟨fun q => have h := h.1 q; h, fun q => have h := h.2 q; ⟨fun q => have h := h.1 q; h, fun q => have h := h.2 q; ⟨fun q => have h := h.1 q; h, fun q => have h := h.2 q; ⟨fun q => have h := h.1 q; h, fun q => have h := h.2 q; ⟨fun q => have h := h.1 q; h, fun q => have h := h.2 q; ⟨fun q => have h := h.1 q; h, fun q => have h := h.2 q; ⟨fun q => have h := h.1 q; h, fun q => have h := h.2 q; ⟨fun q => have h := h.1 q; h, fun q => have h := h.2 q; ⟨fun q => have h := h.1 q; h, fun q => have h := h.2 q; ⟨fun q => have h := h.1 q; h, fun q => have h := h.2 q; ⟨fun q => have h := h.1 q; h, fun q => have h := h.2 q; ⟨fun q => have h := h.1 q; h, fun q => have h := h.2 q; ⟨fun q => have h := h.1 q; h, fun q => have h := h.2 q; ⟨fun q => have h := h.1 q; h, fun q => have h := h.2 q; ⟨fun q => have h := h.1 q; h, fun q => have h := h.2 q; ⟨fun q => have h := h.1 q; h, fun q => have h := h.2 q; ⟨fun q => have h := h.1 q; h, fun q => have h := h.2 q; ⟨fun q => have h := h.1 q; h, fun q => have h := h.2 q; ⟨fun q => have h := h.1 q; h, fun q => have h := h.2 q; ⟨fun q => have h := h.1 q; h, fun q => have h := h.2 q; ⟨fun q => have h := h.1 q; h, fun q => have h := h.2 q; h⟩⟩⟩⟩⟩⟩⟩⟩⟩⟩⟩⟩⟩⟩⟩⟩⟩⟩⟩⟩⟩⟩⟩⟩⟩⟩⟩⟩⟩⟩⟩⟩⟩⟩)
theorem dd_L_law_1070 : decode cL_law 1070 = .ok (.iinc 3 5, 3) := by decide +kernel
theorem dd_L_law_1073 : decode cL_law 1073 = .ok (.goto (-1055), 3) := by decide +kernel
def tb_Li (L : Nat) (xs : Nat → Int32) (kd : Nat → Nat) : zTab := [(1070, zt_iinc 3 5 1073), (1073, zt_goto 18)]
def cu_Li : zCut := [(18, [])]
set_option maxRecDepth 20000 in
theorem tk_Li {p : Program} {l : Launch} {e : Env} {R : Room} {s : State} {m : MethodId} {args : Array Value} {below : List Frame} {meth : Method} {c : Code} {D : va_G} {cy : Nat → ClassId} {A : Nat → Prop} {ad : Nat × Nat → Nat} {bl : zBl} {ce so : Nat} {Qm : State → Prop} {b L : Nat} {xs : Nat → Int32} (C0 : zCtx p l e R s m args below meth c D cy A ad bl 4 ce so Qm RL cL_law (60 + 1)) (hX : va_X b L xs s s.heap) (hbl : b < s.heap.size) (hbA : ¬ A b) (hb31 : ∀ o, ad (31, o) = b) : ∀ q ∈ tb_Li L xs (zkd bl), zOk p l e R s m args below meth c D cy A ad bl 4 ce so Qm q.1 q.2 := by
  obtain ⟨hx, hb, hml, hown, hts, hK, hD, hA0, hN, hE, ⟨hR1, hR2⟩, hc1, hc2⟩ := id C0
  unfold tb_Li
  refine List.forall_mem_cons.mpr ⟨ok_iinc hx hb dd_L_law_1070 (by decide), ?_⟩
  refine List.forall_mem_cons.mpr ⟨ok_goto hx hb dd_L_law_1073 (by decide), ?_⟩
  exact fun _ h => absurd h List.not_mem_nil
set_option maxRecDepth 100000 in
theorem vc_Li_1070 {L : Nat} {xs : Nat → Int32} {kd : Nat → Nat} {X : zX} (hX : ∀ (n pc : Nat) (ls : zLS) (st : List zV) (M : zM), zrun (tb_Li L xs kd) cu_Li n X pc ls st M → X pc ls st M) {i : Int32} {M : zM}  (h : X 18 [some (zR 31 0), some (zR 0 0), some (zR 9 0), some (zI (i + 5))] [] M) : X 1070 [some (zR 31 0), some (zR 0 0), some (zR 9 0), some (zI (i))] [] M := hX 4 1070 _ [] M (show X 18 [some (zR 31 0), some (zR 0 0), some (zR 9 0), some (zI (i + 5))] [] M from h)
theorem dd_L_law_168 : decode cL_law 168 = .ok (.aload_n 1, 1) := by decide +kernel
theorem dd_L_law_169 : decode cL_law 169 = .ok (.invokevirtual 13, 3) := by decide +kernel
theorem dd_L_law_172 : decode cL_law 172 = .ok (.aload_n 2, 1) := by decide +kernel
theorem dd_L_law_173 : decode cL_law 173 = .ok (.invokevirtual 17, 3) := by decide +kernel
theorem dd_L_law_176 : decode cL_law 176 = .ok (.if_icmp .eq 894, 3) := by decide +kernel
theorem dd_L_law_179 : decode cL_law 179 = .ok (.iconst 0, 1) := by decide +kernel
theorem dd_L_law_180 : decode cL_law 180 = .ok (.ireturn, 1) := by decide +kernel
def tb_L0 (L : Nat) (xs : Nat → Int32) (kd : Nat → Nat) : zTab := [(168, zt_aload 1 169), (169, zt_call kd sp_X7_roll 1 172), (172, zt_aload 2 173), (173, zt_call kd sp_X8_roll 1 176), (176, zt_icmp (fun x y => x = y) (fun x y => ¬ x = y) 1070 179), (179, zt_const (zI 0) 180), (180, (fun _ _ _ _ => False))]
def cu_L0 : zCut := [(1070, [])]
set_option maxRecDepth 20000 in
theorem tk_L0 {p : Program} {l : Launch} {e : Env} {R : Room} {s : State} {m : MethodId} {args : Array Value} {below : List Frame} {meth : Method} {c : Code} {D : va_G} {cy : Nat → ClassId} {A : Nat → Prop} {ad : Nat × Nat → Nat} {bl : zBl} {ce so : Nat} {Qm : State → Prop} {b L : Nat} {xs : Nat → Int32} (C0 : zCtx p l e R s m args below meth c D cy A ad bl 4 ce so Qm RL cL_law (60 + 1)) (hX : va_X b L xs s s.heap) (hbl : b < s.heap.size) (hbA : ¬ A b) (hb31 : ∀ o, ad (31, o) = b) : ∀ q ∈ tb_L0 L xs (zkd bl), zOk p l e R s m args below meth c D cy A ad bl 4 ce so Qm q.1 q.2 := by
  obtain ⟨hx, hb, hml, hown, hts, hK, hD, hA0, hN, hE, ⟨hR1, hR2⟩, hc1, hc2⟩ := id C0
  unfold tb_L0
  refine List.forall_mem_cons.mpr ⟨ok_aload_n hx hb rfl dd_L_law_168, ?_⟩
  refine List.forall_mem_cons.mpr ⟨ok_callV (n := 0) zc_X7 rv_X7_roll C0 (ms_X7_roll 60 (by decide)) (by decide) wd_299 wd_296 wd_297 wd_298 wd_100 ⟨rfl, by decide +kernel, by decide +kernel, by decide +kernel⟩ dd_L_law_169, ?_⟩
  refine List.forall_mem_cons.mpr ⟨ok_aload_n hx hb rfl dd_L_law_172, ?_⟩
  refine List.forall_mem_cons.mpr ⟨ok_callV (n := 0) zc_X8 rv_X8_roll C0 (ms_X8_roll 60 (by decide)) (by decide) wd_914 wd_911 wd_912 wd_913 wd_107 ⟨rfl, by decide +kernel, by decide +kernel, by decide +kernel⟩ dd_L_law_173, ?_⟩
  refine List.forall_mem_cons.mpr ⟨ok_icmp_eq hx hb dd_L_law_176 (by decide), ?_⟩
  refine List.forall_mem_cons.mpr ⟨ok_iconst hx hb dd_L_law_179 (by decide), ?_⟩
  refine List.forall_mem_cons.mpr ⟨ok_dead, ?_⟩
  exact fun _ h => absurd h List.not_mem_nil
set_option maxRecDepth 100000 in
theorem vc_L0_168 {L : Nat} {xs : Nat → Int32} {kd : Nat → Nat} {X : zX} (hX : ∀ (n pc : Nat) (ls : zLS) (st : List zV) (M : zM), zrun (tb_L0 L xs kd) cu_L0 n X pc ls st M → X pc ls st M) {i : Int32} {M : zM} (hk0 : kd 9 = 8) (hk1 : kd 0 = 1) (h : (KdX kd) ∧ ∃ s1 : St, (RpX kd M s1) ∧ ∀ v1 : Int32, (v1.toInt = (ev_roll s1).1) → ∀ M1 : zM, (RpX kd M1 (ev_roll s1).2) → (fr9 M M1) → ∃ s2 : St, (RpM M1 s2) ∧ ∀ v2 : Int32, (v2.toInt = (ev_roll s2).1) → ∀ M2 : zM, (RpM M2 (ev_roll s2).2) → (fr0 M1 M2) → ((v1 = v2) → X 1070 [some (zR 31 0), some (zR 0 0), some (zR 9 0), some (zI (i))] [] M2) ∧ ((¬ v1 = v2) → False)) : X 168 [some (zR 31 0), some (zR 0 0), some (zR 9 0), some (zI (i))] [] M := hX 8 168 _ [] M (show (kd 0 = 1) ∧ (KdX kd) ∧ ∃ s1 : St, (RpX kd M s1) ∧ ∀ v1 : Int32, (v1.toInt = (ev_roll s1).1) → ∀ M1 : zM, (RpX kd M1 (ev_roll s1).2) → (fr9 M M1) → (kd 9 = 8) ∧ ∃ s2 : St, (RpM M1 s2) ∧ ∀ v2 : Int32, (v2.toInt = (ev_roll s2).1) → ∀ M2 : zM, (RpM M2 (ev_roll s2).2) → (fr0 M1 M2) → ((v1 = v2) → X 1070 [some (zR 31 0), some (zR 0 0), some (zR 9 0), some (zI (i))] [] M2) ∧ ((¬ v1 = v2) → False) from ⟨hk1, ⟨h.1, have h := h.2; h.elim (fun s1 h => ⟨s1, ⟨h.1, have h := h.2; fun v1 => have h := h v1; fun q => have h := h q; fun M1 => have h := h M1; fun q => have h := h q; fun q => have h := h q; ⟨hk0, h.elim (fun s2 h => ⟨s2, ⟨h.1, have h := h.2; fun v2 => have h := h v2; fun q => have h := h q; fun M2 => have h := h M2; fun q => have h := h q; fun q => have h := h q; ⟨fun q => have h := h.1 q; h, fun q => have h := h.2 q; h⟩⟩⟩)⟩⟩⟩)⟩⟩)
theorem dd_L_law_181 : decode cL_law 181 = .ok (.aload_n 1, 1) := by decide +kernel
theorem dd_L_law_182 : decode cL_law 182 = .ok (.aload_n 0, 1) := by decide +kernel
theorem dd_L_law_183 : decode cL_law 183 = .ok (.iload_n 3, 1) := by decide +kernel
theorem dd_L_law_184 : decode cL_law 184 = .ok (.iconst 1, 1) := by decide +kernel
theorem dd_L_law_185 : decode cL_law 185 = .ok (.iadd, 1) := by decide +kernel
theorem dd_L_law_186 : decode cL_law 186 = .ok (.iaload, 1) := by decide +kernel
theorem dd_L_law_187 : decode cL_law 187 = .ok (.aload_n 0, 1) := by decide +kernel
theorem dd_L_law_188 : decode cL_law 188 = .ok (.iload_n 3, 1) := by decide +kernel
theorem dd_L_law_189 : decode cL_law 189 = .ok (.iconst 2, 1) := by decide +kernel
theorem dd_L_law_190 : decode cL_law 190 = .ok (.iadd, 1) := by decide +kernel
theorem dd_L_law_191 : decode cL_law 191 = .ok (.iaload, 1) := by decide +kernel
theorem dd_L_law_192 : decode cL_law 192 = .ok (.aload_n 0, 1) := by decide +kernel
theorem dd_L_law_193 : decode cL_law 193 = .ok (.iload_n 3, 1) := by decide +kernel
theorem dd_L_law_194 : decode cL_law 194 = .ok (.iconst 3, 1) := by decide +kernel
theorem dd_L_law_195 : decode cL_law 195 = .ok (.iadd, 1) := by decide +kernel
theorem dd_L_law_196 : decode cL_law 196 = .ok (.iaload, 1) := by decide +kernel
theorem dd_L_law_197 : decode cL_law 197 = .ok (.aload_n 0, 1) := by decide +kernel
theorem dd_L_law_198 : decode cL_law 198 = .ok (.iload_n 3, 1) := by decide +kernel
theorem dd_L_law_199 : decode cL_law 199 = .ok (.iconst 4, 1) := by decide +kernel
theorem dd_L_law_200 : decode cL_law 200 = .ok (.iadd, 1) := by decide +kernel
theorem dd_L_law_201 : decode cL_law 201 = .ok (.iaload, 1) := by decide +kernel
theorem dd_L_law_202 : decode cL_law 202 = .ok (.invokevirtual 18, 3) := by decide +kernel
theorem dd_L_law_205 : decode cL_law 205 = .ok (.aload_n 2, 1) := by decide +kernel
theorem dd_L_law_206 : decode cL_law 206 = .ok (.aload_n 0, 1) := by decide +kernel
theorem dd_L_law_207 : decode cL_law 207 = .ok (.iload_n 3, 1) := by decide +kernel
theorem dd_L_law_208 : decode cL_law 208 = .ok (.iconst 1, 1) := by decide +kernel
theorem dd_L_law_209 : decode cL_law 209 = .ok (.iadd, 1) := by decide +kernel
theorem dd_L_law_210 : decode cL_law 210 = .ok (.iaload, 1) := by decide +kernel
theorem dd_L_law_211 : decode cL_law 211 = .ok (.aload_n 0, 1) := by decide +kernel
theorem dd_L_law_212 : decode cL_law 212 = .ok (.iload_n 3, 1) := by decide +kernel
theorem dd_L_law_213 : decode cL_law 213 = .ok (.iconst 2, 1) := by decide +kernel
theorem dd_L_law_214 : decode cL_law 214 = .ok (.iadd, 1) := by decide +kernel
theorem dd_L_law_215 : decode cL_law 215 = .ok (.iaload, 1) := by decide +kernel
theorem dd_L_law_216 : decode cL_law 216 = .ok (.aload_n 0, 1) := by decide +kernel
theorem dd_L_law_217 : decode cL_law 217 = .ok (.iload_n 3, 1) := by decide +kernel
theorem dd_L_law_218 : decode cL_law 218 = .ok (.iconst 3, 1) := by decide +kernel
theorem dd_L_law_219 : decode cL_law 219 = .ok (.iadd, 1) := by decide +kernel
theorem dd_L_law_220 : decode cL_law 220 = .ok (.iaload, 1) := by decide +kernel
theorem dd_L_law_221 : decode cL_law 221 = .ok (.aload_n 0, 1) := by decide +kernel
theorem dd_L_law_222 : decode cL_law 222 = .ok (.iload_n 3, 1) := by decide +kernel
theorem dd_L_law_223 : decode cL_law 223 = .ok (.iconst 4, 1) := by decide +kernel
theorem dd_L_law_224 : decode cL_law 224 = .ok (.iadd, 1) := by decide +kernel
theorem dd_L_law_225 : decode cL_law 225 = .ok (.iaload, 1) := by decide +kernel
theorem dd_L_law_226 : decode cL_law 226 = .ok (.invokevirtual 22, 3) := by decide +kernel
theorem dd_L_law_229 : decode cL_law 229 = .ok (.if_icmp .eq 841, 3) := by decide +kernel
theorem dd_L_law_232 : decode cL_law 232 = .ok (.iconst 0, 1) := by decide +kernel
theorem dd_L_law_233 : decode cL_law 233 = .ok (.ireturn, 1) := by decide +kernel
def tb_L1 (L : Nat) (xs : Nat → Int32) (kd : Nat → Nat) : zTab := [(181, zt_aload 1 182), (182, zt_aload 0 183), (183, zt_iload 3 184), (184, zt_const (zI 1) 185), (185, zt_bin (fun x y => x + y) 186), (186, zt_sld L xs 187), (187, zt_aload 0 188), (188, zt_iload 3 189), (189, zt_const (zI 2) 190), (190, zt_bin (fun x y => x + y) 191), (191, zt_sld L xs 192), (192, zt_aload 0 193), (193, zt_iload 3 194), (194, zt_const (zI 3) 195), (195, zt_bin (fun x y => x + y) 196), (196, zt_sld L xs 197), (197, zt_aload 0 198), (198, zt_iload 3 199), (199, zt_const (zI 4) 200), (200, zt_bin (fun x y => x + y) 201), (201, zt_sld L xs 202), (202, zt_call kd sp_X7_write 5 205), (205, zt_aload 2 206), (206, zt_aload 0 207), (207, zt_iload 3 208), (208, zt_const (zI 1) 209), (209, zt_bin (fun x y => x + y) 210), (210, zt_sld L xs 211), (211, zt_aload 0 212), (212, zt_iload 3 213), (213, zt_const (zI 2) 214), (214, zt_bin (fun x y => x + y) 215), (215, zt_sld L xs 216), (216, zt_aload 0 217), (217, zt_iload 3 218), (218, zt_const (zI 3) 219), (219, zt_bin (fun x y => x + y) 220), (220, zt_sld L xs 221), (221, zt_aload 0 222), (222, zt_iload 3 223), (223, zt_const (zI 4) 224), (224, zt_bin (fun x y => x + y) 225), (225, zt_sld L xs 226), (226, zt_call kd sp_X8_write 5 229), (229, zt_icmp (fun x y => x = y) (fun x y => ¬ x = y) 1070 232), (232, zt_const (zI 0) 233), (233, (fun _ _ _ _ => False))]
def cu_L1 : zCut := [(1070, [])]
set_option maxRecDepth 20000 in
theorem tk_L1 {p : Program} {l : Launch} {e : Env} {R : Room} {s : State} {m : MethodId} {args : Array Value} {below : List Frame} {meth : Method} {c : Code} {D : va_G} {cy : Nat → ClassId} {A : Nat → Prop} {ad : Nat × Nat → Nat} {bl : zBl} {ce so : Nat} {Qm : State → Prop} {b L : Nat} {xs : Nat → Int32} (C0 : zCtx p l e R s m args below meth c D cy A ad bl 4 ce so Qm RL cL_law (60 + 1)) (hX : va_X b L xs s s.heap) (hbl : b < s.heap.size) (hbA : ¬ A b) (hb31 : ∀ o, ad (31, o) = b) : ∀ q ∈ tb_L1 L xs (zkd bl), zOk p l e R s m args below meth c D cy A ad bl 4 ce so Qm q.1 q.2 := by
  obtain ⟨hx, hb, hml, hown, hts, hK, hD, hA0, hN, hE, ⟨hR1, hR2⟩, hc1, hc2⟩ := id C0
  unfold tb_L1
  refine List.forall_mem_cons.mpr ⟨ok_aload_n hx hb rfl dd_L_law_181, ?_⟩
  refine List.forall_mem_cons.mpr ⟨ok_aload_n hx hb rfl dd_L_law_182, ?_⟩
  refine List.forall_mem_cons.mpr ⟨ok_iload_n hx hb rfl dd_L_law_183, ?_⟩
  refine List.forall_mem_cons.mpr ⟨ok_iconst hx hb dd_L_law_184 (by decide), ?_⟩
  refine List.forall_mem_cons.mpr ⟨ok_iadd hx hb dd_L_law_185, ?_⟩
  refine List.forall_mem_cons.mpr ⟨ok_sld hx hb hX hbl hbA hb31 dd_L_law_186, ?_⟩
  refine List.forall_mem_cons.mpr ⟨ok_aload_n hx hb rfl dd_L_law_187, ?_⟩
  refine List.forall_mem_cons.mpr ⟨ok_iload_n hx hb rfl dd_L_law_188, ?_⟩
  refine List.forall_mem_cons.mpr ⟨ok_iconst hx hb dd_L_law_189 (by decide), ?_⟩
  refine List.forall_mem_cons.mpr ⟨ok_iadd hx hb dd_L_law_190, ?_⟩
  refine List.forall_mem_cons.mpr ⟨ok_sld hx hb hX hbl hbA hb31 dd_L_law_191, ?_⟩
  refine List.forall_mem_cons.mpr ⟨ok_aload_n hx hb rfl dd_L_law_192, ?_⟩
  refine List.forall_mem_cons.mpr ⟨ok_iload_n hx hb rfl dd_L_law_193, ?_⟩
  refine List.forall_mem_cons.mpr ⟨ok_iconst hx hb dd_L_law_194 (by decide), ?_⟩
  refine List.forall_mem_cons.mpr ⟨ok_iadd hx hb dd_L_law_195, ?_⟩
  refine List.forall_mem_cons.mpr ⟨ok_sld hx hb hX hbl hbA hb31 dd_L_law_196, ?_⟩
  refine List.forall_mem_cons.mpr ⟨ok_aload_n hx hb rfl dd_L_law_197, ?_⟩
  refine List.forall_mem_cons.mpr ⟨ok_iload_n hx hb rfl dd_L_law_198, ?_⟩
  refine List.forall_mem_cons.mpr ⟨ok_iconst hx hb dd_L_law_199 (by decide), ?_⟩
  refine List.forall_mem_cons.mpr ⟨ok_iadd hx hb dd_L_law_200, ?_⟩
  refine List.forall_mem_cons.mpr ⟨ok_sld hx hb hX hbl hbA hb31 dd_L_law_201, ?_⟩
  refine List.forall_mem_cons.mpr ⟨ok_callV (n := 4) zc_X7 rv_X7_write C0 (ms_X7_write 60 (by decide)) (by decide) wd_315 wd_312 wd_313 wd_314 wd_100 ⟨rfl, by decide +kernel, by decide +kernel, by decide +kernel⟩ dd_L_law_202, ?_⟩
  refine List.forall_mem_cons.mpr ⟨ok_aload_n hx hb rfl dd_L_law_205, ?_⟩
  refine List.forall_mem_cons.mpr ⟨ok_aload_n hx hb rfl dd_L_law_206, ?_⟩
  refine List.forall_mem_cons.mpr ⟨ok_iload_n hx hb rfl dd_L_law_207, ?_⟩
  refine List.forall_mem_cons.mpr ⟨ok_iconst hx hb dd_L_law_208 (by decide), ?_⟩
  refine List.forall_mem_cons.mpr ⟨ok_iadd hx hb dd_L_law_209, ?_⟩
  refine List.forall_mem_cons.mpr ⟨ok_sld hx hb hX hbl hbA hb31 dd_L_law_210, ?_⟩
  refine List.forall_mem_cons.mpr ⟨ok_aload_n hx hb rfl dd_L_law_211, ?_⟩
  refine List.forall_mem_cons.mpr ⟨ok_iload_n hx hb rfl dd_L_law_212, ?_⟩
  refine List.forall_mem_cons.mpr ⟨ok_iconst hx hb dd_L_law_213 (by decide), ?_⟩
  refine List.forall_mem_cons.mpr ⟨ok_iadd hx hb dd_L_law_214, ?_⟩
  refine List.forall_mem_cons.mpr ⟨ok_sld hx hb hX hbl hbA hb31 dd_L_law_215, ?_⟩
  refine List.forall_mem_cons.mpr ⟨ok_aload_n hx hb rfl dd_L_law_216, ?_⟩
  refine List.forall_mem_cons.mpr ⟨ok_iload_n hx hb rfl dd_L_law_217, ?_⟩
  refine List.forall_mem_cons.mpr ⟨ok_iconst hx hb dd_L_law_218 (by decide), ?_⟩
  refine List.forall_mem_cons.mpr ⟨ok_iadd hx hb dd_L_law_219, ?_⟩
  refine List.forall_mem_cons.mpr ⟨ok_sld hx hb hX hbl hbA hb31 dd_L_law_220, ?_⟩
  refine List.forall_mem_cons.mpr ⟨ok_aload_n hx hb rfl dd_L_law_221, ?_⟩
  refine List.forall_mem_cons.mpr ⟨ok_iload_n hx hb rfl dd_L_law_222, ?_⟩
  refine List.forall_mem_cons.mpr ⟨ok_iconst hx hb dd_L_law_223 (by decide), ?_⟩
  refine List.forall_mem_cons.mpr ⟨ok_iadd hx hb dd_L_law_224, ?_⟩
  refine List.forall_mem_cons.mpr ⟨ok_sld hx hb hX hbl hbA hb31 dd_L_law_225, ?_⟩
  refine List.forall_mem_cons.mpr ⟨ok_callV (n := 4) zc_X8 rv_X8_write C0 (ms_X8_write 60 (by decide)) (by decide) wd_921 wd_918 wd_919 wd_920 wd_107 ⟨rfl, by decide +kernel, by decide +kernel, by decide +kernel⟩ dd_L_law_226, ?_⟩
  refine List.forall_mem_cons.mpr ⟨ok_icmp_eq hx hb dd_L_law_229 (by decide), ?_⟩
  refine List.forall_mem_cons.mpr ⟨ok_iconst hx hb dd_L_law_232 (by decide), ?_⟩
  refine List.forall_mem_cons.mpr ⟨ok_dead, ?_⟩
  exact fun _ h => absurd h List.not_mem_nil
set_option maxRecDepth 100000 in
theorem vc_L1_181 {L : Nat} {xs : Nat → Int32} {kd : Nat → Nat} {X : zX} (hX : ∀ (n pc : Nat) (ls : zLS) (st : List zV) (M : zM), zrun (tb_L1 L xs kd) cu_L1 n X pc ls st M → X pc ls st M) {i : Int32} {M : zM} (hk0 : kd 9 = 8) (hk1 : kd 0 = 1) (h : (vp_in (i + (1 : Int32)) L) ∧ (vp_in (i + (2 : Int32)) L) ∧ (vp_in (i + (3 : Int32)) L) ∧ (vp_in (i + (4 : Int32)) L) ∧ (KdX kd) ∧ ∃ s1 : St, (RpX kd M s1) ∧ ∀ v1 : Int32, (v1.toInt = (ev_write s1 (xs (i + (1 : Int32)).toNatClampNeg).toInt (xs (i + (2 : Int32)).toNatClampNeg).toInt (xs (i + (3 : Int32)).toNatClampNeg).toInt (xs (i + (4 : Int32)).toNatClampNeg).toInt).1) → ∀ M1 : zM, (RpX kd M1 (ev_write s1 (xs (i + (1 : Int32)).toNatClampNeg).toInt (xs (i + (2 : Int32)).toNatClampNeg).toInt (xs (i + (3 : Int32)).toNatClampNeg).toInt (xs (i + (4 : Int32)).toNatClampNeg).toInt).2) → (fr9 M M1) → (vp_in (i + (1 : Int32)) L) ∧ (vp_in (i + (2 : Int32)) L) ∧ (vp_in (i + (3 : Int32)) L) ∧ (vp_in (i + (4 : Int32)) L) ∧ ∃ s2 : St, (RpM M1 s2) ∧ ∀ v2 : Int32, (v2.toInt = (ev_write s2 (xs (i + (1 : Int32)).toNatClampNeg).toInt (xs (i + (2 : Int32)).toNatClampNeg).toInt (xs (i + (3 : Int32)).toNatClampNeg).toInt (xs (i + (4 : Int32)).toNatClampNeg).toInt).1) → ∀ M2 : zM, (RpM M2 (ev_write s2 (xs (i + (1 : Int32)).toNatClampNeg).toInt (xs (i + (2 : Int32)).toNatClampNeg).toInt (xs (i + (3 : Int32)).toNatClampNeg).toInt (xs (i + (4 : Int32)).toNatClampNeg).toInt).2) → (fr0 M1 M2) → ((v1 = v2) → X 1070 [some (zR 31 0), some (zR 0 0), some (zR 9 0), some (zI (i))] [] M2) ∧ ((¬ v1 = v2) → False)) : X 181 [some (zR 31 0), some (zR 0 0), some (zR 9 0), some (zI (i))] [] M := hX 48 181 _ [] M (show (31 = 31) ∧ (vp_in (i + (1 : Int32)) L) ∧ (31 = 31) ∧ (vp_in (i + (2 : Int32)) L) ∧ (31 = 31) ∧ (vp_in (i + (3 : Int32)) L) ∧ (31 = 31) ∧ (vp_in (i + (4 : Int32)) L) ∧ (kd 0 = 1) ∧ (KdX kd) ∧ ∃ s1 : St, (RpX kd M s1) ∧ ∀ v1 : Int32, (v1.toInt = (ev_write s1 (xs (i + (1 : Int32)).toNatClampNeg).toInt (xs (i + (2 : Int32)).toNatClampNeg).toInt (xs (i + (3 : Int32)).toNatClampNeg).toInt (xs (i + (4 : Int32)).toNatClampNeg).toInt).1) → ∀ M1 : zM, (RpX kd M1 (ev_write s1 (xs (i + (1 : Int32)).toNatClampNeg).toInt (xs (i + (2 : Int32)).toNatClampNeg).toInt (xs (i + (3 : Int32)).toNatClampNeg).toInt (xs (i + (4 : Int32)).toNatClampNeg).toInt).2) → (fr9 M M1) → (31 = 31) ∧ (vp_in (i + (1 : Int32)) L) ∧ (31 = 31) ∧ (vp_in (i + (2 : Int32)) L) ∧ (31 = 31) ∧ (vp_in (i + (3 : Int32)) L) ∧ (31 = 31) ∧ (vp_in (i + (4 : Int32)) L) ∧ (kd 9 = 8) ∧ ∃ s2 : St, (RpM M1 s2) ∧ ∀ v2 : Int32, (v2.toInt = (ev_write s2 (xs (i + (1 : Int32)).toNatClampNeg).toInt (xs (i + (2 : Int32)).toNatClampNeg).toInt (xs (i + (3 : Int32)).toNatClampNeg).toInt (xs (i + (4 : Int32)).toNatClampNeg).toInt).1) → ∀ M2 : zM, (RpM M2 (ev_write s2 (xs (i + (1 : Int32)).toNatClampNeg).toInt (xs (i + (2 : Int32)).toNatClampNeg).toInt (xs (i + (3 : Int32)).toNatClampNeg).toInt (xs (i + (4 : Int32)).toNatClampNeg).toInt).2) → (fr0 M1 M2) → ((v1 = v2) → X 1070 [some (zR 31 0), some (zR 0 0), some (zR 9 0), some (zI (i))] [] M2) ∧ ((¬ v1 = v2) → False) from ⟨rfl, ⟨h.1, have h := h.2; ⟨rfl, ⟨h.1, have h := h.2; ⟨rfl, ⟨h.1, have h := h.2; ⟨rfl, ⟨h.1, have h := h.2; ⟨hk1, ⟨h.1, have h := h.2; h.elim (fun s1 h => ⟨s1, ⟨h.1, have h := h.2; fun v1 => have h := h v1; fun q => have h := h q; fun M1 => have h := h M1; fun q => have h := h q; fun q => have h := h q; ⟨rfl, ⟨h.1, have h := h.2; ⟨rfl, ⟨h.1, have h := h.2; ⟨rfl, ⟨h.1, have h := h.2; ⟨rfl, ⟨h.1, have h := h.2; ⟨hk0, h.elim (fun s2 h => ⟨s2, ⟨h.1, have h := h.2; fun v2 => have h := h v2; fun q => have h := h q; fun M2 => have h := h M2; fun q => have h := h q; fun q => have h := h q; ⟨fun q => have h := h.1 q; h, fun q => have h := h.2 q; h⟩⟩⟩)⟩⟩⟩⟩⟩⟩⟩⟩⟩⟩⟩)⟩⟩⟩⟩⟩⟩⟩⟩⟩⟩)
theorem dd_L_law_234 : decode cL_law 234 = .ok (.aload_n 1, 1) := by decide +kernel
theorem dd_L_law_235 : decode cL_law 235 = .ok (.aload_n 0, 1) := by decide +kernel
theorem dd_L_law_236 : decode cL_law 236 = .ok (.iload_n 3, 1) := by decide +kernel
theorem dd_L_law_237 : decode cL_law 237 = .ok (.iconst 1, 1) := by decide +kernel
theorem dd_L_law_238 : decode cL_law 238 = .ok (.iadd, 1) := by decide +kernel
theorem dd_L_law_239 : decode cL_law 239 = .ok (.iaload, 1) := by decide +kernel
theorem dd_L_law_240 : decode cL_law 240 = .ok (.invokevirtual 23, 3) := by decide +kernel
theorem dd_L_law_243 : decode cL_law 243 = .ok (.aload_n 2, 1) := by decide +kernel
theorem dd_L_law_244 : decode cL_law 244 = .ok (.aload_n 0, 1) := by decide +kernel
theorem dd_L_law_245 : decode cL_law 245 = .ok (.iload_n 3, 1) := by decide +kernel
theorem dd_L_law_246 : decode cL_law 246 = .ok (.iconst 1, 1) := by decide +kernel
theorem dd_L_law_247 : decode cL_law 247 = .ok (.iadd, 1) := by decide +kernel
theorem dd_L_law_248 : decode cL_law 248 = .ok (.iaload, 1) := by decide +kernel
theorem dd_L_law_249 : decode cL_law 249 = .ok (.invokevirtual 27, 3) := by decide +kernel
theorem dd_L_law_252 : decode cL_law 252 = .ok (.if_icmp .eq 818, 3) := by decide +kernel
theorem dd_L_law_255 : decode cL_law 255 = .ok (.iconst 0, 1) := by decide +kernel
theorem dd_L_law_256 : decode cL_law 256 = .ok (.ireturn, 1) := by decide +kernel
def tb_L2 (L : Nat) (xs : Nat → Int32) (kd : Nat → Nat) : zTab := [(234, zt_aload 1 235), (235, zt_aload 0 236), (236, zt_iload 3 237), (237, zt_const (zI 1) 238), (238, zt_bin (fun x y => x + y) 239), (239, zt_sld L xs 240), (240, zt_call kd sp_X7_rub 2 243), (243, zt_aload 2 244), (244, zt_aload 0 245), (245, zt_iload 3 246), (246, zt_const (zI 1) 247), (247, zt_bin (fun x y => x + y) 248), (248, zt_sld L xs 249), (249, zt_call kd sp_X8_rub 2 252), (252, zt_icmp (fun x y => x = y) (fun x y => ¬ x = y) 1070 255), (255, zt_const (zI 0) 256), (256, (fun _ _ _ _ => False))]
def cu_L2 : zCut := [(1070, [])]
set_option maxRecDepth 20000 in
theorem tk_L2 {p : Program} {l : Launch} {e : Env} {R : Room} {s : State} {m : MethodId} {args : Array Value} {below : List Frame} {meth : Method} {c : Code} {D : va_G} {cy : Nat → ClassId} {A : Nat → Prop} {ad : Nat × Nat → Nat} {bl : zBl} {ce so : Nat} {Qm : State → Prop} {b L : Nat} {xs : Nat → Int32} (C0 : zCtx p l e R s m args below meth c D cy A ad bl 4 ce so Qm RL cL_law (60 + 1)) (hX : va_X b L xs s s.heap) (hbl : b < s.heap.size) (hbA : ¬ A b) (hb31 : ∀ o, ad (31, o) = b) : ∀ q ∈ tb_L2 L xs (zkd bl), zOk p l e R s m args below meth c D cy A ad bl 4 ce so Qm q.1 q.2 := by
  obtain ⟨hx, hb, hml, hown, hts, hK, hD, hA0, hN, hE, ⟨hR1, hR2⟩, hc1, hc2⟩ := id C0
  unfold tb_L2
  refine List.forall_mem_cons.mpr ⟨ok_aload_n hx hb rfl dd_L_law_234, ?_⟩
  refine List.forall_mem_cons.mpr ⟨ok_aload_n hx hb rfl dd_L_law_235, ?_⟩
  refine List.forall_mem_cons.mpr ⟨ok_iload_n hx hb rfl dd_L_law_236, ?_⟩
  refine List.forall_mem_cons.mpr ⟨ok_iconst hx hb dd_L_law_237 (by decide), ?_⟩
  refine List.forall_mem_cons.mpr ⟨ok_iadd hx hb dd_L_law_238, ?_⟩
  refine List.forall_mem_cons.mpr ⟨ok_sld hx hb hX hbl hbA hb31 dd_L_law_239, ?_⟩
  refine List.forall_mem_cons.mpr ⟨ok_callV (n := 1) zc_X7 rv_X7_rub C0 (ms_X7_rub 60 (by decide)) (by decide) wd_360 wd_357 wd_358 wd_359 wd_100 ⟨rfl, by decide +kernel, by decide +kernel, by decide +kernel⟩ dd_L_law_240, ?_⟩
  refine List.forall_mem_cons.mpr ⟨ok_aload_n hx hb rfl dd_L_law_243, ?_⟩
  refine List.forall_mem_cons.mpr ⟨ok_aload_n hx hb rfl dd_L_law_244, ?_⟩
  refine List.forall_mem_cons.mpr ⟨ok_iload_n hx hb rfl dd_L_law_245, ?_⟩
  refine List.forall_mem_cons.mpr ⟨ok_iconst hx hb dd_L_law_246 (by decide), ?_⟩
  refine List.forall_mem_cons.mpr ⟨ok_iadd hx hb dd_L_law_247, ?_⟩
  refine List.forall_mem_cons.mpr ⟨ok_sld hx hb hX hbl hbA hb31 dd_L_law_248, ?_⟩
  refine List.forall_mem_cons.mpr ⟨ok_callV (n := 1) zc_X8 rv_X8_rub C0 (ms_X8_rub 60 (by decide)) (by decide) wd_961 wd_958 wd_959 wd_960 wd_107 ⟨rfl, by decide +kernel, by decide +kernel, by decide +kernel⟩ dd_L_law_249, ?_⟩
  refine List.forall_mem_cons.mpr ⟨ok_icmp_eq hx hb dd_L_law_252 (by decide), ?_⟩
  refine List.forall_mem_cons.mpr ⟨ok_iconst hx hb dd_L_law_255 (by decide), ?_⟩
  refine List.forall_mem_cons.mpr ⟨ok_dead, ?_⟩
  exact fun _ h => absurd h List.not_mem_nil
set_option maxRecDepth 100000 in
theorem vc_L2_234 {L : Nat} {xs : Nat → Int32} {kd : Nat → Nat} {X : zX} (hX : ∀ (n pc : Nat) (ls : zLS) (st : List zV) (M : zM), zrun (tb_L2 L xs kd) cu_L2 n X pc ls st M → X pc ls st M) {i : Int32} {M : zM} (hk0 : kd 9 = 8) (hk1 : kd 0 = 1) (h : (vp_in (i + (1 : Int32)) L) ∧ (KdX kd) ∧ ∃ s1 : St, (RpX kd M s1) ∧ ∀ v1 : Int32, (v1.toInt = (ev_rub s1 (xs (i + (1 : Int32)).toNatClampNeg).toInt).1) → ∀ M1 : zM, (RpX kd M1 (ev_rub s1 (xs (i + (1 : Int32)).toNatClampNeg).toInt).2) → (fr9 M M1) → (vp_in (i + (1 : Int32)) L) ∧ ∃ s2 : St, (RpM M1 s2) ∧ ∀ v2 : Int32, (v2.toInt = (ev_rub s2 (xs (i + (1 : Int32)).toNatClampNeg).toInt).1) → ∀ M2 : zM, (RpM M2 (ev_rub s2 (xs (i + (1 : Int32)).toNatClampNeg).toInt).2) → (fr0 M1 M2) → ((v1 = v2) → X 1070 [some (zR 31 0), some (zR 0 0), some (zR 9 0), some (zI (i))] [] M2) ∧ ((¬ v1 = v2) → False)) : X 234 [some (zR 31 0), some (zR 0 0), some (zR 9 0), some (zI (i))] [] M := hX 18 234 _ [] M (show (31 = 31) ∧ (vp_in (i + (1 : Int32)) L) ∧ (kd 0 = 1) ∧ (KdX kd) ∧ ∃ s1 : St, (RpX kd M s1) ∧ ∀ v1 : Int32, (v1.toInt = (ev_rub s1 (xs (i + (1 : Int32)).toNatClampNeg).toInt).1) → ∀ M1 : zM, (RpX kd M1 (ev_rub s1 (xs (i + (1 : Int32)).toNatClampNeg).toInt).2) → (fr9 M M1) → (31 = 31) ∧ (vp_in (i + (1 : Int32)) L) ∧ (kd 9 = 8) ∧ ∃ s2 : St, (RpM M1 s2) ∧ ∀ v2 : Int32, (v2.toInt = (ev_rub s2 (xs (i + (1 : Int32)).toNatClampNeg).toInt).1) → ∀ M2 : zM, (RpM M2 (ev_rub s2 (xs (i + (1 : Int32)).toNatClampNeg).toInt).2) → (fr0 M1 M2) → ((v1 = v2) → X 1070 [some (zR 31 0), some (zR 0 0), some (zR 9 0), some (zI (i))] [] M2) ∧ ((¬ v1 = v2) → False) from ⟨rfl, ⟨h.1, have h := h.2; ⟨hk1, ⟨h.1, have h := h.2; h.elim (fun s1 h => ⟨s1, ⟨h.1, have h := h.2; fun v1 => have h := h v1; fun q => have h := h q; fun M1 => have h := h M1; fun q => have h := h q; fun q => have h := h q; ⟨rfl, ⟨h.1, have h := h.2; ⟨hk0, h.elim (fun s2 h => ⟨s2, ⟨h.1, have h := h.2; fun v2 => have h := h v2; fun q => have h := h q; fun M2 => have h := h M2; fun q => have h := h q; fun q => have h := h q; ⟨fun q => have h := h.1 q; h, fun q => have h := h.2 q; h⟩⟩⟩)⟩⟩⟩⟩⟩)⟩⟩⟩⟩)
theorem dd_L_law_257 : decode cL_law 257 = .ok (.aload_n 1, 1) := by decide +kernel
theorem dd_L_law_258 : decode cL_law 258 = .ok (.aload_n 0, 1) := by decide +kernel
theorem dd_L_law_259 : decode cL_law 259 = .ok (.iload_n 3, 1) := by decide +kernel
theorem dd_L_law_260 : decode cL_law 260 = .ok (.iconst 1, 1) := by decide +kernel
theorem dd_L_law_261 : decode cL_law 261 = .ok (.iadd, 1) := by decide +kernel
theorem dd_L_law_262 : decode cL_law 262 = .ok (.iaload, 1) := by decide +kernel
theorem dd_L_law_263 : decode cL_law 263 = .ok (.invokevirtual 28, 3) := by decide +kernel
theorem dd_L_law_266 : decode cL_law 266 = .ok (.aload_n 2, 1) := by decide +kernel
theorem dd_L_law_267 : decode cL_law 267 = .ok (.aload_n 0, 1) := by decide +kernel
theorem dd_L_law_268 : decode cL_law 268 = .ok (.iload_n 3, 1) := by decide +kernel
theorem dd_L_law_269 : decode cL_law 269 = .ok (.iconst 1, 1) := by decide +kernel
theorem dd_L_law_270 : decode cL_law 270 = .ok (.iadd, 1) := by decide +kernel
theorem dd_L_law_271 : decode cL_law 271 = .ok (.iaload, 1) := by decide +kernel
theorem dd_L_law_272 : decode cL_law 272 = .ok (.invokevirtual 31, 3) := by decide +kernel
theorem dd_L_law_275 : decode cL_law 275 = .ok (.if_icmp .eq 795, 3) := by decide +kernel
theorem dd_L_law_278 : decode cL_law 278 = .ok (.iconst 0, 1) := by decide +kernel
theorem dd_L_law_279 : decode cL_law 279 = .ok (.ireturn, 1) := by decide +kernel
def tb_L3 (L : Nat) (xs : Nat → Int32) (kd : Nat → Nat) : zTab := [(257, zt_aload 1 258), (258, zt_aload 0 259), (259, zt_iload 3 260), (260, zt_const (zI 1) 261), (261, zt_bin (fun x y => x + y) 262), (262, zt_sld L xs 263), (263, zt_call kd sp_X7_years 2 266), (266, zt_aload 2 267), (267, zt_aload 0 268), (268, zt_iload 3 269), (269, zt_const (zI 1) 270), (270, zt_bin (fun x y => x + y) 271), (271, zt_sld L xs 272), (272, zt_call kd sp_X8_years 2 275), (275, zt_icmp (fun x y => x = y) (fun x y => ¬ x = y) 1070 278), (278, zt_const (zI 0) 279), (279, (fun _ _ _ _ => False))]
def cu_L3 : zCut := [(1070, [])]
set_option maxRecDepth 20000 in
theorem tk_L3 {p : Program} {l : Launch} {e : Env} {R : Room} {s : State} {m : MethodId} {args : Array Value} {below : List Frame} {meth : Method} {c : Code} {D : va_G} {cy : Nat → ClassId} {A : Nat → Prop} {ad : Nat × Nat → Nat} {bl : zBl} {ce so : Nat} {Qm : State → Prop} {b L : Nat} {xs : Nat → Int32} (C0 : zCtx p l e R s m args below meth c D cy A ad bl 4 ce so Qm RL cL_law (60 + 1)) (hX : va_X b L xs s s.heap) (hbl : b < s.heap.size) (hbA : ¬ A b) (hb31 : ∀ o, ad (31, o) = b) : ∀ q ∈ tb_L3 L xs (zkd bl), zOk p l e R s m args below meth c D cy A ad bl 4 ce so Qm q.1 q.2 := by
  obtain ⟨hx, hb, hml, hown, hts, hK, hD, hA0, hN, hE, ⟨hR1, hR2⟩, hc1, hc2⟩ := id C0
  unfold tb_L3
  refine List.forall_mem_cons.mpr ⟨ok_aload_n hx hb rfl dd_L_law_257, ?_⟩
  refine List.forall_mem_cons.mpr ⟨ok_aload_n hx hb rfl dd_L_law_258, ?_⟩
  refine List.forall_mem_cons.mpr ⟨ok_iload_n hx hb rfl dd_L_law_259, ?_⟩
  refine List.forall_mem_cons.mpr ⟨ok_iconst hx hb dd_L_law_260 (by decide), ?_⟩
  refine List.forall_mem_cons.mpr ⟨ok_iadd hx hb dd_L_law_261, ?_⟩
  refine List.forall_mem_cons.mpr ⟨ok_sld hx hb hX hbl hbA hb31 dd_L_law_262, ?_⟩
  refine List.forall_mem_cons.mpr ⟨ok_callV (n := 1) zc_X7 rv_X7_years C0 (ms_X7_years 60 (by decide)) (by decide) wd_368 wd_365 wd_366 wd_367 wd_100 ⟨rfl, by decide +kernel, by decide +kernel, by decide +kernel⟩ dd_L_law_263, ?_⟩
  refine List.forall_mem_cons.mpr ⟨ok_aload_n hx hb rfl dd_L_law_266, ?_⟩
  refine List.forall_mem_cons.mpr ⟨ok_aload_n hx hb rfl dd_L_law_267, ?_⟩
  refine List.forall_mem_cons.mpr ⟨ok_iload_n hx hb rfl dd_L_law_268, ?_⟩
  refine List.forall_mem_cons.mpr ⟨ok_iconst hx hb dd_L_law_269 (by decide), ?_⟩
  refine List.forall_mem_cons.mpr ⟨ok_iadd hx hb dd_L_law_270, ?_⟩
  refine List.forall_mem_cons.mpr ⟨ok_sld hx hb hX hbl hbA hb31 dd_L_law_271, ?_⟩
  refine List.forall_mem_cons.mpr ⟨ok_callV (n := 1) zc_X8 rv_X8_years C0 (ms_X8_years 60 (by decide)) (by decide) wd_968 wd_965 wd_966 wd_967 wd_107 ⟨rfl, by decide +kernel, by decide +kernel, by decide +kernel⟩ dd_L_law_272, ?_⟩
  refine List.forall_mem_cons.mpr ⟨ok_icmp_eq hx hb dd_L_law_275 (by decide), ?_⟩
  refine List.forall_mem_cons.mpr ⟨ok_iconst hx hb dd_L_law_278 (by decide), ?_⟩
  refine List.forall_mem_cons.mpr ⟨ok_dead, ?_⟩
  exact fun _ h => absurd h List.not_mem_nil
set_option maxRecDepth 100000 in
theorem vc_L3_257 {L : Nat} {xs : Nat → Int32} {kd : Nat → Nat} {X : zX} (hX : ∀ (n pc : Nat) (ls : zLS) (st : List zV) (M : zM), zrun (tb_L3 L xs kd) cu_L3 n X pc ls st M → X pc ls st M) {i : Int32} {M : zM} (hk0 : kd 9 = 8) (hk1 : kd 0 = 1) (h : (vp_in (i + (1 : Int32)) L) ∧ (KdX kd) ∧ ∃ s1 : St, (RpX kd M s1) ∧ ∀ v1 : Int32, (v1.toInt = (ev_years s1 (xs (i + (1 : Int32)).toNatClampNeg).toInt).1) → ∀ M1 : zM, (RpX kd M1 (ev_years s1 (xs (i + (1 : Int32)).toNatClampNeg).toInt).2) → (fr9 M M1) → (vp_in (i + (1 : Int32)) L) ∧ ∃ s2 : St, (RpM M1 s2) ∧ ∀ v2 : Int32, (v2.toInt = (ev_years s2 (xs (i + (1 : Int32)).toNatClampNeg).toInt).1) → ∀ M2 : zM, (RpM M2 (ev_years s2 (xs (i + (1 : Int32)).toNatClampNeg).toInt).2) → (fr0 M1 M2) → ((v1 = v2) → X 1070 [some (zR 31 0), some (zR 0 0), some (zR 9 0), some (zI (i))] [] M2) ∧ ((¬ v1 = v2) → False)) : X 257 [some (zR 31 0), some (zR 0 0), some (zR 9 0), some (zI (i))] [] M := hX 18 257 _ [] M (show (31 = 31) ∧ (vp_in (i + (1 : Int32)) L) ∧ (kd 0 = 1) ∧ (KdX kd) ∧ ∃ s1 : St, (RpX kd M s1) ∧ ∀ v1 : Int32, (v1.toInt = (ev_years s1 (xs (i + (1 : Int32)).toNatClampNeg).toInt).1) → ∀ M1 : zM, (RpX kd M1 (ev_years s1 (xs (i + (1 : Int32)).toNatClampNeg).toInt).2) → (fr9 M M1) → (31 = 31) ∧ (vp_in (i + (1 : Int32)) L) ∧ (kd 9 = 8) ∧ ∃ s2 : St, (RpM M1 s2) ∧ ∀ v2 : Int32, (v2.toInt = (ev_years s2 (xs (i + (1 : Int32)).toNatClampNeg).toInt).1) → ∀ M2 : zM, (RpM M2 (ev_years s2 (xs (i + (1 : Int32)).toNatClampNeg).toInt).2) → (fr0 M1 M2) → ((v1 = v2) → X 1070 [some (zR 31 0), some (zR 0 0), some (zR 9 0), some (zI (i))] [] M2) ∧ ((¬ v1 = v2) → False) from ⟨rfl, ⟨h.1, have h := h.2; ⟨hk1, ⟨h.1, have h := h.2; h.elim (fun s1 h => ⟨s1, ⟨h.1, have h := h.2; fun v1 => have h := h v1; fun q => have h := h q; fun M1 => have h := h M1; fun q => have h := h q; fun q => have h := h q; ⟨rfl, ⟨h.1, have h := h.2; ⟨hk0, h.elim (fun s2 h => ⟨s2, ⟨h.1, have h := h.2; fun v2 => have h := h v2; fun q => have h := h q; fun M2 => have h := h M2; fun q => have h := h q; fun q => have h := h q; ⟨fun q => have h := h.1 q; h, fun q => have h := h.2 q; h⟩⟩⟩)⟩⟩⟩⟩⟩)⟩⟩⟩⟩)
theorem dd_L_law_280 : decode cL_law 280 = .ok (.aload_n 1, 1) := by decide +kernel
theorem dd_L_law_281 : decode cL_law 281 = .ok (.invokevirtual 32, 3) := by decide +kernel
theorem dd_L_law_284 : decode cL_law 284 = .ok (.aload_n 2, 1) := by decide +kernel
theorem dd_L_law_285 : decode cL_law 285 = .ok (.invokevirtual 35, 3) := by decide +kernel
theorem dd_L_law_288 : decode cL_law 288 = .ok (.if_icmp .eq 782, 3) := by decide +kernel
theorem dd_L_law_291 : decode cL_law 291 = .ok (.iconst 0, 1) := by decide +kernel
theorem dd_L_law_292 : decode cL_law 292 = .ok (.ireturn, 1) := by decide +kernel
def tb_L4 (L : Nat) (xs : Nat → Int32) (kd : Nat → Nat) : zTab := [(280, zt_aload 1 281), (281, zt_call kd sp_X7_undo 1 284), (284, zt_aload 2 285), (285, zt_call kd sp_X8_undo 1 288), (288, zt_icmp (fun x y => x = y) (fun x y => ¬ x = y) 1070 291), (291, zt_const (zI 0) 292), (292, (fun _ _ _ _ => False))]
def cu_L4 : zCut := [(1070, [])]
set_option maxRecDepth 20000 in
theorem tk_L4 {p : Program} {l : Launch} {e : Env} {R : Room} {s : State} {m : MethodId} {args : Array Value} {below : List Frame} {meth : Method} {c : Code} {D : va_G} {cy : Nat → ClassId} {A : Nat → Prop} {ad : Nat × Nat → Nat} {bl : zBl} {ce so : Nat} {Qm : State → Prop} {b L : Nat} {xs : Nat → Int32} (C0 : zCtx p l e R s m args below meth c D cy A ad bl 4 ce so Qm RL cL_law (60 + 1)) (hX : va_X b L xs s s.heap) (hbl : b < s.heap.size) (hbA : ¬ A b) (hb31 : ∀ o, ad (31, o) = b) : ∀ q ∈ tb_L4 L xs (zkd bl), zOk p l e R s m args below meth c D cy A ad bl 4 ce so Qm q.1 q.2 := by
  obtain ⟨hx, hb, hml, hown, hts, hK, hD, hA0, hN, hE, ⟨hR1, hR2⟩, hc1, hc2⟩ := id C0
  unfold tb_L4
  refine List.forall_mem_cons.mpr ⟨ok_aload_n hx hb rfl dd_L_law_280, ?_⟩
  refine List.forall_mem_cons.mpr ⟨ok_callV (n := 0) zc_X7 rv_X7_undo C0 (ms_X7_undo 60 (by decide)) (by decide) wd_379 wd_376 wd_377 wd_378 wd_100 ⟨rfl, by decide +kernel, by decide +kernel, by decide +kernel⟩ dd_L_law_281, ?_⟩
  refine List.forall_mem_cons.mpr ⟨ok_aload_n hx hb rfl dd_L_law_284, ?_⟩
  refine List.forall_mem_cons.mpr ⟨ok_callV (n := 0) zc_X8 rv_X8_undo C0 (ms_X8_undo 60 (by decide)) (by decide) wd_976 wd_973 wd_974 wd_975 wd_107 ⟨rfl, by decide +kernel, by decide +kernel, by decide +kernel⟩ dd_L_law_285, ?_⟩
  refine List.forall_mem_cons.mpr ⟨ok_icmp_eq hx hb dd_L_law_288 (by decide), ?_⟩
  refine List.forall_mem_cons.mpr ⟨ok_iconst hx hb dd_L_law_291 (by decide), ?_⟩
  refine List.forall_mem_cons.mpr ⟨ok_dead, ?_⟩
  exact fun _ h => absurd h List.not_mem_nil
set_option maxRecDepth 100000 in
theorem vc_L4_280 {L : Nat} {xs : Nat → Int32} {kd : Nat → Nat} {X : zX} (hX : ∀ (n pc : Nat) (ls : zLS) (st : List zV) (M : zM), zrun (tb_L4 L xs kd) cu_L4 n X pc ls st M → X pc ls st M) {i : Int32} {M : zM} (hk0 : kd 9 = 8) (hk1 : kd 0 = 1) (h : (KdX kd) ∧ ∃ s1 : St, (RpX kd M s1) ∧ ∀ v1 : Int32, (v1.toInt = (ev_undo s1).1) → ∀ M1 : zM, (RpX kd M1 (ev_undo s1).2) → (fr9 M M1) → ∃ s2 : St, (RpM M1 s2) ∧ ∀ v2 : Int32, (v2.toInt = (ev_undo s2).1) → ∀ M2 : zM, (RpM M2 (ev_undo s2).2) → (fr0 M1 M2) → ((v1 = v2) → X 1070 [some (zR 31 0), some (zR 0 0), some (zR 9 0), some (zI (i))] [] M2) ∧ ((¬ v1 = v2) → False)) : X 280 [some (zR 31 0), some (zR 0 0), some (zR 9 0), some (zI (i))] [] M := hX 8 280 _ [] M (show (kd 0 = 1) ∧ (KdX kd) ∧ ∃ s1 : St, (RpX kd M s1) ∧ ∀ v1 : Int32, (v1.toInt = (ev_undo s1).1) → ∀ M1 : zM, (RpX kd M1 (ev_undo s1).2) → (fr9 M M1) → (kd 9 = 8) ∧ ∃ s2 : St, (RpM M1 s2) ∧ ∀ v2 : Int32, (v2.toInt = (ev_undo s2).1) → ∀ M2 : zM, (RpM M2 (ev_undo s2).2) → (fr0 M1 M2) → ((v1 = v2) → X 1070 [some (zR 31 0), some (zR 0 0), some (zR 9 0), some (zI (i))] [] M2) ∧ ((¬ v1 = v2) → False) from ⟨hk1, ⟨h.1, have h := h.2; h.elim (fun s1 h => ⟨s1, ⟨h.1, have h := h.2; fun v1 => have h := h v1; fun q => have h := h q; fun M1 => have h := h M1; fun q => have h := h q; fun q => have h := h q; ⟨hk0, h.elim (fun s2 h => ⟨s2, ⟨h.1, have h := h.2; fun v2 => have h := h v2; fun q => have h := h q; fun M2 => have h := h M2; fun q => have h := h q; fun q => have h := h q; ⟨fun q => have h := h.1 q; h, fun q => have h := h.2 q; h⟩⟩⟩)⟩⟩⟩)⟩⟩)
theorem dd_L_law_293 : decode cL_law 293 = .ok (.aload_n 1, 1) := by decide +kernel
theorem dd_L_law_294 : decode cL_law 294 = .ok (.aload_n 0, 1) := by decide +kernel
theorem dd_L_law_295 : decode cL_law 295 = .ok (.iload_n 3, 1) := by decide +kernel
theorem dd_L_law_296 : decode cL_law 296 = .ok (.iconst 1, 1) := by decide +kernel
theorem dd_L_law_297 : decode cL_law 297 = .ok (.iadd, 1) := by decide +kernel
theorem dd_L_law_298 : decode cL_law 298 = .ok (.iaload, 1) := by decide +kernel
theorem dd_L_law_299 : decode cL_law 299 = .ok (.invokevirtual 36, 3) := by decide +kernel
theorem dd_L_law_302 : decode cL_law 302 = .ok (.aload_n 2, 1) := by decide +kernel
theorem dd_L_law_303 : decode cL_law 303 = .ok (.aload_n 0, 1) := by decide +kernel
theorem dd_L_law_304 : decode cL_law 304 = .ok (.iload_n 3, 1) := by decide +kernel
theorem dd_L_law_305 : decode cL_law 305 = .ok (.iconst 1, 1) := by decide +kernel
theorem dd_L_law_306 : decode cL_law 306 = .ok (.iadd, 1) := by decide +kernel
theorem dd_L_law_307 : decode cL_law 307 = .ok (.iaload, 1) := by decide +kernel
theorem dd_L_law_308 : decode cL_law 308 = .ok (.invokevirtual 39, 3) := by decide +kernel
theorem dd_L_law_311 : decode cL_law 311 = .ok (.if_icmp .eq 759, 3) := by decide +kernel
theorem dd_L_law_314 : decode cL_law 314 = .ok (.iconst 0, 1) := by decide +kernel
theorem dd_L_law_315 : decode cL_law 315 = .ok (.ireturn, 1) := by decide +kernel
def tb_L5 (L : Nat) (xs : Nat → Int32) (kd : Nat → Nat) : zTab := [(293, zt_aload 1 294), (294, zt_aload 0 295), (295, zt_iload 3 296), (296, zt_const (zI 1) 297), (297, zt_bin (fun x y => x + y) 298), (298, zt_sld L xs 299), (299, zt_call kd sp_X7_type 2 302), (302, zt_aload 2 303), (303, zt_aload 0 304), (304, zt_iload 3 305), (305, zt_const (zI 1) 306), (306, zt_bin (fun x y => x + y) 307), (307, zt_sld L xs 308), (308, zt_call kd sp_X8_type 2 311), (311, zt_icmp (fun x y => x = y) (fun x y => ¬ x = y) 1070 314), (314, zt_const (zI 0) 315), (315, (fun _ _ _ _ => False))]
def cu_L5 : zCut := [(1070, [])]
set_option maxRecDepth 20000 in
theorem tk_L5 {p : Program} {l : Launch} {e : Env} {R : Room} {s : State} {m : MethodId} {args : Array Value} {below : List Frame} {meth : Method} {c : Code} {D : va_G} {cy : Nat → ClassId} {A : Nat → Prop} {ad : Nat × Nat → Nat} {bl : zBl} {ce so : Nat} {Qm : State → Prop} {b L : Nat} {xs : Nat → Int32} (C0 : zCtx p l e R s m args below meth c D cy A ad bl 4 ce so Qm RL cL_law (60 + 1)) (hX : va_X b L xs s s.heap) (hbl : b < s.heap.size) (hbA : ¬ A b) (hb31 : ∀ o, ad (31, o) = b) : ∀ q ∈ tb_L5 L xs (zkd bl), zOk p l e R s m args below meth c D cy A ad bl 4 ce so Qm q.1 q.2 := by
  obtain ⟨hx, hb, hml, hown, hts, hK, hD, hA0, hN, hE, ⟨hR1, hR2⟩, hc1, hc2⟩ := id C0
  unfold tb_L5
  refine List.forall_mem_cons.mpr ⟨ok_aload_n hx hb rfl dd_L_law_293, ?_⟩
  refine List.forall_mem_cons.mpr ⟨ok_aload_n hx hb rfl dd_L_law_294, ?_⟩
  refine List.forall_mem_cons.mpr ⟨ok_iload_n hx hb rfl dd_L_law_295, ?_⟩
  refine List.forall_mem_cons.mpr ⟨ok_iconst hx hb dd_L_law_296 (by decide), ?_⟩
  refine List.forall_mem_cons.mpr ⟨ok_iadd hx hb dd_L_law_297, ?_⟩
  refine List.forall_mem_cons.mpr ⟨ok_sld hx hb hX hbl hbA hb31 dd_L_law_298, ?_⟩
  refine List.forall_mem_cons.mpr ⟨ok_callV (n := 1) zc_X7 rv_X7_type C0 (ms_X7_type 60 (by decide)) (by decide) wd_394 wd_391 wd_392 wd_393 wd_100 ⟨rfl, by decide +kernel, by decide +kernel, by decide +kernel⟩ dd_L_law_299, ?_⟩
  refine List.forall_mem_cons.mpr ⟨ok_aload_n hx hb rfl dd_L_law_302, ?_⟩
  refine List.forall_mem_cons.mpr ⟨ok_aload_n hx hb rfl dd_L_law_303, ?_⟩
  refine List.forall_mem_cons.mpr ⟨ok_iload_n hx hb rfl dd_L_law_304, ?_⟩
  refine List.forall_mem_cons.mpr ⟨ok_iconst hx hb dd_L_law_305 (by decide), ?_⟩
  refine List.forall_mem_cons.mpr ⟨ok_iadd hx hb dd_L_law_306, ?_⟩
  refine List.forall_mem_cons.mpr ⟨ok_sld hx hb hX hbl hbA hb31 dd_L_law_307, ?_⟩
  refine List.forall_mem_cons.mpr ⟨ok_callV (n := 1) zc_X8 rv_X8_type C0 (ms_X8_type 60 (by decide)) (by decide) wd_1159 wd_1156 wd_1157 wd_1158 wd_107 ⟨rfl, by decide +kernel, by decide +kernel, by decide +kernel⟩ dd_L_law_308, ?_⟩
  refine List.forall_mem_cons.mpr ⟨ok_icmp_eq hx hb dd_L_law_311 (by decide), ?_⟩
  refine List.forall_mem_cons.mpr ⟨ok_iconst hx hb dd_L_law_314 (by decide), ?_⟩
  refine List.forall_mem_cons.mpr ⟨ok_dead, ?_⟩
  exact fun _ h => absurd h List.not_mem_nil
set_option maxRecDepth 100000 in
theorem vc_L5_293 {L : Nat} {xs : Nat → Int32} {kd : Nat → Nat} {X : zX} (hX : ∀ (n pc : Nat) (ls : zLS) (st : List zV) (M : zM), zrun (tb_L5 L xs kd) cu_L5 n X pc ls st M → X pc ls st M) {i : Int32} {M : zM} (hk0 : kd 9 = 8) (hk1 : kd 0 = 1) (h : (vp_in (i + (1 : Int32)) L) ∧ (KdX kd) ∧ ∃ s1 : St, (RpX kd M s1) ∧ ∀ v1 : Int32, (v1.toInt = (ev_type s1 (xs (i + (1 : Int32)).toNatClampNeg).toInt).1) → ∀ M1 : zM, (RpX kd M1 (ev_type s1 (xs (i + (1 : Int32)).toNatClampNeg).toInt).2) → (fr9 M M1) → (vp_in (i + (1 : Int32)) L) ∧ ∃ s2 : St, (RpM M1 s2) ∧ ∀ v2 : Int32, (v2.toInt = (ev_type s2 (xs (i + (1 : Int32)).toNatClampNeg).toInt).1) → ∀ M2 : zM, (RpM M2 (ev_type s2 (xs (i + (1 : Int32)).toNatClampNeg).toInt).2) → (fr0 M1 M2) → ((v1 = v2) → X 1070 [some (zR 31 0), some (zR 0 0), some (zR 9 0), some (zI (i))] [] M2) ∧ ((¬ v1 = v2) → False)) : X 293 [some (zR 31 0), some (zR 0 0), some (zR 9 0), some (zI (i))] [] M := hX 18 293 _ [] M (show (31 = 31) ∧ (vp_in (i + (1 : Int32)) L) ∧ (kd 0 = 1) ∧ (KdX kd) ∧ ∃ s1 : St, (RpX kd M s1) ∧ ∀ v1 : Int32, (v1.toInt = (ev_type s1 (xs (i + (1 : Int32)).toNatClampNeg).toInt).1) → ∀ M1 : zM, (RpX kd M1 (ev_type s1 (xs (i + (1 : Int32)).toNatClampNeg).toInt).2) → (fr9 M M1) → (31 = 31) ∧ (vp_in (i + (1 : Int32)) L) ∧ (kd 9 = 8) ∧ ∃ s2 : St, (RpM M1 s2) ∧ ∀ v2 : Int32, (v2.toInt = (ev_type s2 (xs (i + (1 : Int32)).toNatClampNeg).toInt).1) → ∀ M2 : zM, (RpM M2 (ev_type s2 (xs (i + (1 : Int32)).toNatClampNeg).toInt).2) → (fr0 M1 M2) → ((v1 = v2) → X 1070 [some (zR 31 0), some (zR 0 0), some (zR 9 0), some (zI (i))] [] M2) ∧ ((¬ v1 = v2) → False) from ⟨rfl, ⟨h.1, have h := h.2; ⟨hk1, ⟨h.1, have h := h.2; h.elim (fun s1 h => ⟨s1, ⟨h.1, have h := h.2; fun v1 => have h := h v1; fun q => have h := h q; fun M1 => have h := h M1; fun q => have h := h q; fun q => have h := h q; ⟨rfl, ⟨h.1, have h := h.2; ⟨hk0, h.elim (fun s2 h => ⟨s2, ⟨h.1, have h := h.2; fun v2 => have h := h v2; fun q => have h := h q; fun M2 => have h := h M2; fun q => have h := h q; fun q => have h := h q; ⟨fun q => have h := h.1 q; h, fun q => have h := h.2 q; h⟩⟩⟩)⟩⟩⟩⟩⟩)⟩⟩⟩⟩)
theorem dd_L_law_316 : decode cL_law 316 = .ok (.aload_n 1, 1) := by decide +kernel
theorem dd_L_law_317 : decode cL_law 317 = .ok (.invokevirtual 40, 3) := by decide +kernel
theorem dd_L_law_320 : decode cL_law 320 = .ok (.aload_n 2, 1) := by decide +kernel
theorem dd_L_law_321 : decode cL_law 321 = .ok (.invokevirtual 43, 3) := by decide +kernel
theorem dd_L_law_324 : decode cL_law 324 = .ok (.if_icmp .eq 746, 3) := by decide +kernel
theorem dd_L_law_327 : decode cL_law 327 = .ok (.iconst 0, 1) := by decide +kernel
theorem dd_L_law_328 : decode cL_law 328 = .ok (.ireturn, 1) := by decide +kernel
def tb_L6 (L : Nat) (xs : Nat → Int32) (kd : Nat → Nat) : zTab := [(316, zt_aload 1 317), (317, zt_call kd sp_X7_clear 1 320), (320, zt_aload 2 321), (321, zt_call kd sp_X8_clear 1 324), (324, zt_icmp (fun x y => x = y) (fun x y => ¬ x = y) 1070 327), (327, zt_const (zI 0) 328), (328, (fun _ _ _ _ => False))]
def cu_L6 : zCut := [(1070, [])]
set_option maxRecDepth 20000 in
theorem tk_L6 {p : Program} {l : Launch} {e : Env} {R : Room} {s : State} {m : MethodId} {args : Array Value} {below : List Frame} {meth : Method} {c : Code} {D : va_G} {cy : Nat → ClassId} {A : Nat → Prop} {ad : Nat × Nat → Nat} {bl : zBl} {ce so : Nat} {Qm : State → Prop} {b L : Nat} {xs : Nat → Int32} (C0 : zCtx p l e R s m args below meth c D cy A ad bl 4 ce so Qm RL cL_law (60 + 1)) (hX : va_X b L xs s s.heap) (hbl : b < s.heap.size) (hbA : ¬ A b) (hb31 : ∀ o, ad (31, o) = b) : ∀ q ∈ tb_L6 L xs (zkd bl), zOk p l e R s m args below meth c D cy A ad bl 4 ce so Qm q.1 q.2 := by
  obtain ⟨hx, hb, hml, hown, hts, hK, hD, hA0, hN, hE, ⟨hR1, hR2⟩, hc1, hc2⟩ := id C0
  unfold tb_L6
  refine List.forall_mem_cons.mpr ⟨ok_aload_n hx hb rfl dd_L_law_316, ?_⟩
  refine List.forall_mem_cons.mpr ⟨ok_callV (n := 0) zc_X7 rv_X7_clear C0 (ms_X7_clear 60 (by decide)) (by decide) wd_402 wd_399 wd_400 wd_401 wd_100 ⟨rfl, by decide +kernel, by decide +kernel, by decide +kernel⟩ dd_L_law_317, ?_⟩
  refine List.forall_mem_cons.mpr ⟨ok_aload_n hx hb rfl dd_L_law_320, ?_⟩
  refine List.forall_mem_cons.mpr ⟨ok_callV (n := 0) zc_X8 rv_X8_clear C0 (ms_X8_clear 60 (by decide)) (by decide) wd_1164 wd_1161 wd_1162 wd_1163 wd_107 ⟨rfl, by decide +kernel, by decide +kernel, by decide +kernel⟩ dd_L_law_321, ?_⟩
  refine List.forall_mem_cons.mpr ⟨ok_icmp_eq hx hb dd_L_law_324 (by decide), ?_⟩
  refine List.forall_mem_cons.mpr ⟨ok_iconst hx hb dd_L_law_327 (by decide), ?_⟩
  refine List.forall_mem_cons.mpr ⟨ok_dead, ?_⟩
  exact fun _ h => absurd h List.not_mem_nil
set_option maxRecDepth 100000 in
theorem vc_L6_316 {L : Nat} {xs : Nat → Int32} {kd : Nat → Nat} {X : zX} (hX : ∀ (n pc : Nat) (ls : zLS) (st : List zV) (M : zM), zrun (tb_L6 L xs kd) cu_L6 n X pc ls st M → X pc ls st M) {i : Int32} {M : zM} (hk0 : kd 9 = 8) (hk1 : kd 0 = 1) (h : (KdX kd) ∧ ∃ s1 : St, (RpX kd M s1) ∧ ∀ v1 : Int32, (v1.toInt = (ev_clear s1).1) → ∀ M1 : zM, (RpX kd M1 (ev_clear s1).2) → (fr9 M M1) → ∃ s2 : St, (RpM M1 s2) ∧ ∀ v2 : Int32, (v2.toInt = (ev_clear s2).1) → ∀ M2 : zM, (RpM M2 (ev_clear s2).2) → (fr0 M1 M2) → ((v1 = v2) → X 1070 [some (zR 31 0), some (zR 0 0), some (zR 9 0), some (zI (i))] [] M2) ∧ ((¬ v1 = v2) → False)) : X 316 [some (zR 31 0), some (zR 0 0), some (zR 9 0), some (zI (i))] [] M := hX 8 316 _ [] M (show (kd 0 = 1) ∧ (KdX kd) ∧ ∃ s1 : St, (RpX kd M s1) ∧ ∀ v1 : Int32, (v1.toInt = (ev_clear s1).1) → ∀ M1 : zM, (RpX kd M1 (ev_clear s1).2) → (fr9 M M1) → (kd 9 = 8) ∧ ∃ s2 : St, (RpM M1 s2) ∧ ∀ v2 : Int32, (v2.toInt = (ev_clear s2).1) → ∀ M2 : zM, (RpM M2 (ev_clear s2).2) → (fr0 M1 M2) → ((v1 = v2) → X 1070 [some (zR 31 0), some (zR 0 0), some (zR 9 0), some (zI (i))] [] M2) ∧ ((¬ v1 = v2) → False) from ⟨hk1, ⟨h.1, have h := h.2; h.elim (fun s1 h => ⟨s1, ⟨h.1, have h := h.2; fun v1 => have h := h v1; fun q => have h := h q; fun M1 => have h := h M1; fun q => have h := h q; fun q => have h := h q; ⟨hk0, h.elim (fun s2 h => ⟨s2, ⟨h.1, have h := h.2; fun v2 => have h := h v2; fun q => have h := h q; fun M2 => have h := h M2; fun q => have h := h q; fun q => have h := h q; ⟨fun q => have h := h.1 q; h, fun q => have h := h.2 q; h⟩⟩⟩)⟩⟩⟩)⟩⟩)
