/-! THE LAW: its arms, by program -/
theorem my_43 : Cond.initialized RX8 ∈ lw_tg := tgm 43 (by decide +kernel) (by decide +kernel)
theorem my_52 : Cond.initialized RX9 ∈ lw_tg := tgm 52 (by decide +kernel) (by decide +kernel)
theorem my_373 : Cond.methodLink RL 13 yX8_status ∈ lw_tg := tgm 373 (by decide +kernel) (by decide +kernel)
theorem my_374 : Cond.instanceMethod yX8_status ∈ lw_tg := tgm 374 (by decide +kernel) (by decide +kernel)
theorem my_375 : Cond.selects RX8 yX8_status yX8_status ∈ lw_tg := tgm 375 (by decide +kernel) (by decide +kernel)
theorem my_376 : Cond.code yX8_status cX8_status 1 (some .int) ∈ lw_tg := tgm 376 (by decide +kernel) (by decide +kernel)
theorem my_377 : Cond.methodLink RL 18 yX8_top ∈ lw_tg := tgm 377 (by decide +kernel) (by decide +kernel)
theorem my_378 : Cond.instanceMethod yX8_top ∈ lw_tg := tgm 378 (by decide +kernel) (by decide +kernel)
theorem my_379 : Cond.selects RX8 yX8_top yX8_top ∈ lw_tg := tgm 379 (by decide +kernel) (by decide +kernel)
theorem my_380 : Cond.code yX8_top cX8_top 1 (some .long) ∈ lw_tg := tgm 380 (by decide +kernel) (by decide +kernel)
theorem my_381 : Cond.methodLink RL 23 yX8_bottom ∈ lw_tg := tgm 381 (by decide +kernel) (by decide +kernel)
theorem my_382 : Cond.instanceMethod yX8_bottom ∈ lw_tg := tgm 382 (by decide +kernel) (by decide +kernel)
theorem my_383 : Cond.selects RX8 yX8_bottom yX8_bottom ∈ lw_tg := tgm 383 (by decide +kernel) (by decide +kernel)
theorem my_384 : Cond.code yX8_bottom cX8_bottom 1 (some .long) ∈ lw_tg := tgm 384 (by decide +kernel) (by decide +kernel)
theorem my_385 : Cond.methodLink RL 27 yX8_sheet ∈ lw_tg := tgm 385 (by decide +kernel) (by decide +kernel)
theorem my_386 : Cond.instanceMethod yX8_sheet ∈ lw_tg := tgm 386 (by decide +kernel) (by decide +kernel)
theorem my_387 : Cond.selects RX8 yX8_sheet yX8_sheet ∈ lw_tg := tgm 387 (by decide +kernel) (by decide +kernel)
theorem my_388 : Cond.code yX8_sheet cX8_sheet 5 (some .boolean) ∈ lw_tg := tgm 388 (by decide +kernel) (by decide +kernel)
theorem my_402 : Cond.methodLink RL 34 yX8_write ∈ lw_tg := tgm 402 (by decide +kernel) (by decide +kernel)
theorem my_403 : Cond.instanceMethod yX8_write ∈ lw_tg := tgm 403 (by decide +kernel) (by decide +kernel)
theorem my_404 : Cond.selects RX8 yX8_write yX8_write ∈ lw_tg := tgm 404 (by decide +kernel) (by decide +kernel)
theorem my_405 : Cond.code yX8_write cX8_write 5 (some .boolean) ∈ lw_tg := tgm 405 (by decide +kernel) (by decide +kernel)
theorem my_419 : Cond.methodLink RL 39 yX8_read ∈ lw_tg := tgm 419 (by decide +kernel) (by decide +kernel)
theorem my_420 : Cond.instanceMethod yX8_read ∈ lw_tg := tgm 420 (by decide +kernel) (by decide +kernel)
theorem my_421 : Cond.selects RX8 yX8_read yX8_read ∈ lw_tg := tgm 421 (by decide +kernel) (by decide +kernel)
theorem my_422 : Cond.code yX8_read cX8_read 3 (some .long) ∈ lw_tg := tgm 422 (by decide +kernel) (by decide +kernel)
theorem my_429 : Cond.methodLink RL 44 yX8_copy ∈ lw_tg := tgm 429 (by decide +kernel) (by decide +kernel)
theorem my_430 : Cond.instanceMethod yX8_copy ∈ lw_tg := tgm 430 (by decide +kernel) (by decide +kernel)
theorem my_431 : Cond.selects RX8 yX8_copy yX8_copy ∈ lw_tg := tgm 431 (by decide +kernel) (by decide +kernel)
theorem my_432 : Cond.code yX8_copy cX8_copy 7 (some .boolean) ∈ lw_tg := tgm 432 (by decide +kernel) (by decide +kernel)
theorem my_446 : Cond.methodLink RL 49 yX8_drop ∈ lw_tg := tgm 446 (by decide +kernel) (by decide +kernel)
theorem my_447 : Cond.instanceMethod yX8_drop ∈ lw_tg := tgm 447 (by decide +kernel) (by decide +kernel)
theorem my_448 : Cond.selects RX8 yX8_drop yX8_drop ∈ lw_tg := tgm 448 (by decide +kernel) (by decide +kernel)
theorem my_449 : Cond.code yX8_drop cX8_drop 2 (some .boolean) ∈ lw_tg := tgm 449 (by decide +kernel) (by decide +kernel)
theorem my_454 : Cond.methodLink RL 54 yX8_none ∈ lw_tg := tgm 454 (by decide +kernel) (by decide +kernel)
theorem my_455 : Cond.instanceMethod yX8_none ∈ lw_tg := tgm 455 (by decide +kernel) (by decide +kernel)
theorem my_456 : Cond.selects RX8 yX8_none yX8_none ∈ lw_tg := tgm 456 (by decide +kernel) (by decide +kernel)
theorem my_457 : Cond.code yX8_none cX8_none 1 (some .boolean) ∈ lw_tg := tgm 457 (by decide +kernel) (by decide +kernel)
theorem my_458 : Cond.methodLink RL 59 yX8_numbers ∈ lw_tg := tgm 458 (by decide +kernel) (by decide +kernel)
theorem my_459 : Cond.instanceMethod yX8_numbers ∈ lw_tg := tgm 459 (by decide +kernel) (by decide +kernel)
theorem my_460 : Cond.selects RX8 yX8_numbers yX8_numbers ∈ lw_tg := tgm 460 (by decide +kernel) (by decide +kernel)
theorem my_461 : Cond.code yX8_numbers cX8_numbers 5 (some .boolean) ∈ lw_tg := tgm 461 (by decide +kernel) (by decide +kernel)
theorem my_463 : Cond.methodLink RL 63 yX8_gap ∈ lw_tg := tgm 463 (by decide +kernel) (by decide +kernel)
theorem my_464 : Cond.instanceMethod yX8_gap ∈ lw_tg := tgm 464 (by decide +kernel) (by decide +kernel)
theorem my_465 : Cond.selects RX8 yX8_gap yX8_gap ∈ lw_tg := tgm 465 (by decide +kernel) (by decide +kernel)
theorem my_466 : Cond.code yX8_gap cX8_gap 2 (some .boolean) ∈ lw_tg := tgm 466 (by decide +kernel) (by decide +kernel)
theorem my_468 : Cond.methodLink RL 67 yX8_table ∈ lw_tg := tgm 468 (by decide +kernel) (by decide +kernel)
theorem my_469 : Cond.instanceMethod yX8_table ∈ lw_tg := tgm 469 (by decide +kernel) (by decide +kernel)
theorem my_470 : Cond.selects RX8 yX8_table yX8_table ∈ lw_tg := tgm 470 (by decide +kernel) (by decide +kernel)
theorem my_471 : Cond.code yX8_table cX8_table 7 (some .boolean) ∈ lw_tg := tgm 471 (by decide +kernel) (by decide +kernel)
theorem my_478 : Cond.methodLink RL 71 yX8_takes ∈ lw_tg := tgm 478 (by decide +kernel) (by decide +kernel)
theorem my_479 : Cond.instanceMethod yX8_takes ∈ lw_tg := tgm 479 (by decide +kernel) (by decide +kernel)
theorem my_480 : Cond.selects RX8 yX8_takes yX8_takes ∈ lw_tg := tgm 480 (by decide +kernel) (by decide +kernel)
theorem my_481 : Cond.code yX8_takes cX8_takes 3 (some .int) ∈ lw_tg := tgm 481 (by decide +kernel) (by decide +kernel)
theorem my_521 : Cond.methodLink RL 76 yX8_odds ∈ lw_tg := tgm 521 (by decide +kernel) (by decide +kernel)
theorem my_522 : Cond.instanceMethod yX8_odds ∈ lw_tg := tgm 522 (by decide +kernel) (by decide +kernel)
theorem my_523 : Cond.selects RX8 yX8_odds yX8_odds ∈ lw_tg := tgm 523 (by decide +kernel) (by decide +kernel)
theorem my_524 : Cond.code yX8_odds cX8_odds 5 (some .int) ∈ lw_tg := tgm 524 (by decide +kernel) (by decide +kernel)
theorem my_578 : Cond.methodLink RL 81 yX8_choose ∈ lw_tg := tgm 578 (by decide +kernel) (by decide +kernel)
theorem my_579 : Cond.instanceMethod yX8_choose ∈ lw_tg := tgm 579 (by decide +kernel) (by decide +kernel)
theorem my_580 : Cond.selects RX8 yX8_choose yX8_choose ∈ lw_tg := tgm 580 (by decide +kernel) (by decide +kernel)
theorem my_581 : Cond.code yX8_choose cX8_choose 12 (some .int) ∈ lw_tg := tgm 581 (by decide +kernel) (by decide +kernel)
theorem my_592 : Cond.methodLink RL 86 yX8_begin ∈ lw_tg := tgm 592 (by decide +kernel) (by decide +kernel)
theorem my_593 : Cond.instanceMethod yX8_begin ∈ lw_tg := tgm 593 (by decide +kernel) (by decide +kernel)
theorem my_594 : Cond.selects RX8 yX8_begin yX8_begin ∈ lw_tg := tgm 594 (by decide +kernel) (by decide +kernel)
theorem my_595 : Cond.code yX8_begin cX8_begin 1 (some .boolean) ∈ lw_tg := tgm 595 (by decide +kernel) (by decide +kernel)
theorem my_613 : Cond.methodLink RL 90 yX8_mending ∈ lw_tg := tgm 613 (by decide +kernel) (by decide +kernel)
theorem my_614 : Cond.instanceMethod yX8_mending ∈ lw_tg := tgm 614 (by decide +kernel) (by decide +kernel)
theorem my_615 : Cond.selects RX8 yX8_mending yX8_mending ∈ lw_tg := tgm 615 (by decide +kernel) (by decide +kernel)
theorem my_616 : Cond.code yX8_mending cX8_mending 2 (some .boolean) ∈ lw_tg := tgm 616 (by decide +kernel) (by decide +kernel)
theorem my_621 : Cond.methodLink RL 95 yX8_keep ∈ lw_tg := tgm 621 (by decide +kernel) (by decide +kernel)
theorem my_622 : Cond.instanceMethod yX8_keep ∈ lw_tg := tgm 622 (by decide +kernel) (by decide +kernel)
theorem my_623 : Cond.selects RX8 yX8_keep yX8_keep ∈ lw_tg := tgm 623 (by decide +kernel) (by decide +kernel)
theorem my_624 : Cond.code yX8_keep cX8_keep 3 (some .boolean) ∈ lw_tg := tgm 624 (by decide +kernel) (by decide +kernel)
theorem my_625 : Cond.methodLink RL 100 yX8_writes ∈ lw_tg := tgm 625 (by decide +kernel) (by decide +kernel)
theorem my_626 : Cond.instanceMethod yX8_writes ∈ lw_tg := tgm 626 (by decide +kernel) (by decide +kernel)
theorem my_627 : Cond.selects RX8 yX8_writes yX8_writes ∈ lw_tg := tgm 627 (by decide +kernel) (by decide +kernel)
theorem my_628 : Cond.code yX8_writes cX8_writes 3 (some .int) ∈ lw_tg := tgm 628 (by decide +kernel) (by decide +kernel)
theorem my_722 : Cond.methodLink RL 105 yX8_reads ∈ lw_tg := tgm 722 (by decide +kernel) (by decide +kernel)
theorem my_723 : Cond.instanceMethod yX8_reads ∈ lw_tg := tgm 723 (by decide +kernel) (by decide +kernel)
theorem my_724 : Cond.selects RX8 yX8_reads yX8_reads ∈ lw_tg := tgm 724 (by decide +kernel) (by decide +kernel)
theorem my_725 : Cond.code yX8_reads cX8_reads 4 (some .int) ∈ lw_tg := tgm 725 (by decide +kernel) (by decide +kernel)
theorem my_730 : Cond.methodLink RL 110 yX8_go ∈ lw_tg := tgm 730 (by decide +kernel) (by decide +kernel)
theorem my_731 : Cond.instanceMethod yX8_go ∈ lw_tg := tgm 731 (by decide +kernel) (by decide +kernel)
theorem my_732 : Cond.selects RX8 yX8_go yX8_go ∈ lw_tg := tgm 732 (by decide +kernel) (by decide +kernel)
theorem my_733 : Cond.code yX8_go cX8_go 2 (some .int) ∈ lw_tg := tgm 733 (by decide +kernel) (by decide +kernel)
theorem my_735 : Cond.methodLink RL 114 yX8_down ∈ lw_tg := tgm 735 (by decide +kernel) (by decide +kernel)
theorem my_736 : Cond.instanceMethod yX8_down ∈ lw_tg := tgm 736 (by decide +kernel) (by decide +kernel)
theorem my_737 : Cond.selects RX8 yX8_down yX8_down ∈ lw_tg := tgm 737 (by decide +kernel) (by decide +kernel)
theorem my_738 : Cond.code yX8_down cX8_down 3 (some .boolean) ∈ lw_tg := tgm 738 (by decide +kernel) (by decide +kernel)
theorem my_757 : Cond.methodLink RL 118 yX8_up ∈ lw_tg := tgm 757 (by decide +kernel) (by decide +kernel)
theorem my_758 : Cond.instanceMethod yX8_up ∈ lw_tg := tgm 758 (by decide +kernel) (by decide +kernel)
theorem my_759 : Cond.selects RX8 yX8_up yX8_up ∈ lw_tg := tgm 759 (by decide +kernel) (by decide +kernel)
theorem my_760 : Cond.code yX8_up cX8_up 2 (some .int) ∈ lw_tg := tgm 760 (by decide +kernel) (by decide +kernel)
theorem my_769 : Cond.methodLink RL 122 yX8_sweep ∈ lw_tg := tgm 769 (by decide +kernel) (by decide +kernel)
theorem my_770 : Cond.instanceMethod yX8_sweep ∈ lw_tg := tgm 770 (by decide +kernel) (by decide +kernel)
theorem my_771 : Cond.selects RX8 yX8_sweep yX8_sweep ∈ lw_tg := tgm 771 (by decide +kernel) (by decide +kernel)
theorem my_772 : Cond.code yX8_sweep cX8_sweep 4 (some .int) ∈ lw_tg := tgm 772 (by decide +kernel) (by decide +kernel)
theorem my_777 : Cond.methodLink RL 126 yX8_of ∈ lw_tg := tgm 777 (by decide +kernel) (by decide +kernel)
theorem my_778 : Cond.instanceMethod yX8_of ∈ lw_tg := tgm 778 (by decide +kernel) (by decide +kernel)
theorem my_779 : Cond.selects RX8 yX8_of yX8_of ∈ lw_tg := tgm 779 (by decide +kernel) (by decide +kernel)
theorem my_780 : Cond.code yX8_of cX8_of 3 (some .int) ∈ lw_tg := tgm 780 (by decide +kernel) (by decide +kernel)
theorem my_783 : Cond.methodLink RL 130 yX8_done ∈ lw_tg := tgm 783 (by decide +kernel) (by decide +kernel)
theorem my_784 : Cond.instanceMethod yX8_done ∈ lw_tg := tgm 784 (by decide +kernel) (by decide +kernel)
theorem my_785 : Cond.selects RX8 yX8_done yX8_done ∈ lw_tg := tgm 785 (by decide +kernel) (by decide +kernel)
theorem my_786 : Cond.code yX8_done cX8_done 3 (some .int) ∈ lw_tg := tgm 786 (by decide +kernel) (by decide +kernel)
theorem my_789 : Cond.methodLink RL 134 yX8_got ∈ lw_tg := tgm 789 (by decide +kernel) (by decide +kernel)
theorem my_790 : Cond.instanceMethod yX8_got ∈ lw_tg := tgm 790 (by decide +kernel) (by decide +kernel)
theorem my_791 : Cond.selects RX8 yX8_got yX8_got ∈ lw_tg := tgm 791 (by decide +kernel) (by decide +kernel)
theorem my_792 : Cond.code yX8_got cX8_got 4 (some .int) ∈ lw_tg := tgm 792 (by decide +kernel) (by decide +kernel)
theorem my_798 : Cond.methodLink RL 138 yX8_tell ∈ lw_tg := tgm 798 (by decide +kernel) (by decide +kernel)
theorem my_799 : Cond.instanceMethod yX8_tell ∈ lw_tg := tgm 799 (by decide +kernel) (by decide +kernel)
theorem my_800 : Cond.selects RX8 yX8_tell yX8_tell ∈ lw_tg := tgm 800 (by decide +kernel) (by decide +kernel)
theorem my_801 : Cond.code yX8_tell cX8_tell 2 (some .int) ∈ lw_tg := tgm 801 (by decide +kernel) (by decide +kernel)
theorem my_803 : Cond.methodLink RL 17 yX9_status ∈ lw_tg := tgm 803 (by decide +kernel) (by decide +kernel)
theorem my_804 : Cond.instanceMethod yX9_status ∈ lw_tg := tgm 804 (by decide +kernel) (by decide +kernel)
theorem my_805 : Cond.selects RX9 yX9_status yX9_status ∈ lw_tg := tgm 805 (by decide +kernel) (by decide +kernel)
theorem my_806 : Cond.code yX9_status cX9_status 1 (some .int) ∈ lw_tg := tgm 806 (by decide +kernel) (by decide +kernel)
theorem my_807 : Cond.methodLink RL 22 yX9_top ∈ lw_tg := tgm 807 (by decide +kernel) (by decide +kernel)
theorem my_808 : Cond.instanceMethod yX9_top ∈ lw_tg := tgm 808 (by decide +kernel) (by decide +kernel)
theorem my_809 : Cond.selects RX9 yX9_top yX9_top ∈ lw_tg := tgm 809 (by decide +kernel) (by decide +kernel)
theorem my_810 : Cond.code yX9_top cX9_top 1 (some .long) ∈ lw_tg := tgm 810 (by decide +kernel) (by decide +kernel)
theorem my_811 : Cond.methodLink RL 26 yX9_bottom ∈ lw_tg := tgm 811 (by decide +kernel) (by decide +kernel)
theorem my_812 : Cond.instanceMethod yX9_bottom ∈ lw_tg := tgm 812 (by decide +kernel) (by decide +kernel)
theorem my_813 : Cond.selects RX9 yX9_bottom yX9_bottom ∈ lw_tg := tgm 813 (by decide +kernel) (by decide +kernel)
theorem my_814 : Cond.code yX9_bottom cX9_bottom 1 (some .long) ∈ lw_tg := tgm 814 (by decide +kernel) (by decide +kernel)
theorem my_815 : Cond.methodLink RL 31 yX9_sheet ∈ lw_tg := tgm 815 (by decide +kernel) (by decide +kernel)
theorem my_816 : Cond.instanceMethod yX9_sheet ∈ lw_tg := tgm 816 (by decide +kernel) (by decide +kernel)
theorem my_817 : Cond.selects RX9 yX9_sheet yX9_sheet ∈ lw_tg := tgm 817 (by decide +kernel) (by decide +kernel)
theorem my_818 : Cond.code yX9_sheet cX9_sheet 5 (some .boolean) ∈ lw_tg := tgm 818 (by decide +kernel) (by decide +kernel)
theorem my_827 : Cond.methodLink RL 38 yX9_write ∈ lw_tg := tgm 827 (by decide +kernel) (by decide +kernel)
theorem my_828 : Cond.instanceMethod yX9_write ∈ lw_tg := tgm 828 (by decide +kernel) (by decide +kernel)
theorem my_829 : Cond.selects RX9 yX9_write yX9_write ∈ lw_tg := tgm 829 (by decide +kernel) (by decide +kernel)
theorem my_830 : Cond.code yX9_write cX9_write 6 (some .boolean) ∈ lw_tg := tgm 830 (by decide +kernel) (by decide +kernel)
theorem my_838 : Cond.methodLink RL 43 yX9_read ∈ lw_tg := tgm 838 (by decide +kernel) (by decide +kernel)
theorem my_839 : Cond.instanceMethod yX9_read ∈ lw_tg := tgm 839 (by decide +kernel) (by decide +kernel)
theorem my_840 : Cond.selects RX9 yX9_read yX9_read ∈ lw_tg := tgm 840 (by decide +kernel) (by decide +kernel)
theorem my_841 : Cond.code yX9_read cX9_read 3 (some .long) ∈ lw_tg := tgm 841 (by decide +kernel) (by decide +kernel)
theorem my_843 : Cond.methodLink RL 48 yX9_copy ∈ lw_tg := tgm 843 (by decide +kernel) (by decide +kernel)
theorem my_844 : Cond.instanceMethod yX9_copy ∈ lw_tg := tgm 844 (by decide +kernel) (by decide +kernel)
theorem my_845 : Cond.selects RX9 yX9_copy yX9_copy ∈ lw_tg := tgm 845 (by decide +kernel) (by decide +kernel)
theorem my_846 : Cond.code yX9_copy cX9_copy 8 (some .boolean) ∈ lw_tg := tgm 846 (by decide +kernel) (by decide +kernel)
theorem my_847 : Cond.methodLink RL 53 yX9_drop ∈ lw_tg := tgm 847 (by decide +kernel) (by decide +kernel)
theorem my_848 : Cond.instanceMethod yX9_drop ∈ lw_tg := tgm 848 (by decide +kernel) (by decide +kernel)
theorem my_849 : Cond.selects RX9 yX9_drop yX9_drop ∈ lw_tg := tgm 849 (by decide +kernel) (by decide +kernel)
theorem my_850 : Cond.code yX9_drop cX9_drop 2 (some .boolean) ∈ lw_tg := tgm 850 (by decide +kernel) (by decide +kernel)
theorem my_851 : Cond.methodLink RL 58 yX9_none ∈ lw_tg := tgm 851 (by decide +kernel) (by decide +kernel)
theorem my_852 : Cond.instanceMethod yX9_none ∈ lw_tg := tgm 852 (by decide +kernel) (by decide +kernel)
theorem my_853 : Cond.selects RX9 yX9_none yX9_none ∈ lw_tg := tgm 853 (by decide +kernel) (by decide +kernel)
theorem my_854 : Cond.code yX9_none cX9_none 1 (some .boolean) ∈ lw_tg := tgm 854 (by decide +kernel) (by decide +kernel)
theorem my_1011 : Cond.methodLink RL 62 yX9_numbers ∈ lw_tg := tgm 1011 (by decide +kernel) (by decide +kernel)
theorem my_1012 : Cond.instanceMethod yX9_numbers ∈ lw_tg := tgm 1012 (by decide +kernel) (by decide +kernel)
theorem my_1013 : Cond.selects RX9 yX9_numbers yX9_numbers ∈ lw_tg := tgm 1013 (by decide +kernel) (by decide +kernel)
theorem my_1014 : Cond.code yX9_numbers cX9_numbers 4 (some .boolean) ∈ lw_tg := tgm 1014 (by decide +kernel) (by decide +kernel)
theorem my_1015 : Cond.methodLink RL 66 yX9_gap ∈ lw_tg := tgm 1015 (by decide +kernel) (by decide +kernel)
theorem my_1016 : Cond.instanceMethod yX9_gap ∈ lw_tg := tgm 1016 (by decide +kernel) (by decide +kernel)
theorem my_1017 : Cond.selects RX9 yX9_gap yX9_gap ∈ lw_tg := tgm 1017 (by decide +kernel) (by decide +kernel)
theorem my_1018 : Cond.code yX9_gap cX9_gap 2 (some .boolean) ∈ lw_tg := tgm 1018 (by decide +kernel) (by decide +kernel)
theorem my_1019 : Cond.methodLink RL 70 yX9_table ∈ lw_tg := tgm 1019 (by decide +kernel) (by decide +kernel)
theorem my_1020 : Cond.instanceMethod yX9_table ∈ lw_tg := tgm 1020 (by decide +kernel) (by decide +kernel)
theorem my_1021 : Cond.selects RX9 yX9_table yX9_table ∈ lw_tg := tgm 1021 (by decide +kernel) (by decide +kernel)
theorem my_1022 : Cond.code yX9_table cX9_table 9 (some .boolean) ∈ lw_tg := tgm 1022 (by decide +kernel) (by decide +kernel)
theorem my_1024 : Cond.methodLink RL 75 yX9_takes ∈ lw_tg := tgm 1024 (by decide +kernel) (by decide +kernel)
theorem my_1025 : Cond.instanceMethod yX9_takes ∈ lw_tg := tgm 1025 (by decide +kernel) (by decide +kernel)
theorem my_1026 : Cond.selects RX9 yX9_takes yX9_takes ∈ lw_tg := tgm 1026 (by decide +kernel) (by decide +kernel)
theorem my_1027 : Cond.code yX9_takes cX9_takes 10 (some .int) ∈ lw_tg := tgm 1027 (by decide +kernel) (by decide +kernel)
theorem my_1049 : Cond.methodLink RL 80 yX9_odds ∈ lw_tg := tgm 1049 (by decide +kernel) (by decide +kernel)
theorem my_1050 : Cond.instanceMethod yX9_odds ∈ lw_tg := tgm 1050 (by decide +kernel) (by decide +kernel)
theorem my_1051 : Cond.selects RX9 yX9_odds yX9_odds ∈ lw_tg := tgm 1051 (by decide +kernel) (by decide +kernel)
theorem my_1052 : Cond.code yX9_odds cX9_odds 6 (some .int) ∈ lw_tg := tgm 1052 (by decide +kernel) (by decide +kernel)
theorem my_1084 : Cond.methodLink RL 85 yX9_choose ∈ lw_tg := tgm 1084 (by decide +kernel) (by decide +kernel)
theorem my_1085 : Cond.instanceMethod yX9_choose ∈ lw_tg := tgm 1085 (by decide +kernel) (by decide +kernel)
theorem my_1086 : Cond.selects RX9 yX9_choose yX9_choose ∈ lw_tg := tgm 1086 (by decide +kernel) (by decide +kernel)
theorem my_1087 : Cond.code yX9_choose cX9_choose 19 (some .int) ∈ lw_tg := tgm 1087 (by decide +kernel) (by decide +kernel)
theorem my_1092 : Cond.methodLink RL 89 yX9_begin ∈ lw_tg := tgm 1092 (by decide +kernel) (by decide +kernel)
theorem my_1093 : Cond.instanceMethod yX9_begin ∈ lw_tg := tgm 1093 (by decide +kernel) (by decide +kernel)
theorem my_1094 : Cond.selects RX9 yX9_begin yX9_begin ∈ lw_tg := tgm 1094 (by decide +kernel) (by decide +kernel)
theorem my_1095 : Cond.code yX9_begin cX9_begin 2 (some .boolean) ∈ lw_tg := tgm 1095 (by decide +kernel) (by decide +kernel)
theorem my_1096 : Cond.methodLink RL 94 yX9_mending ∈ lw_tg := tgm 1096 (by decide +kernel) (by decide +kernel)
theorem my_1097 : Cond.instanceMethod yX9_mending ∈ lw_tg := tgm 1097 (by decide +kernel) (by decide +kernel)
theorem my_1098 : Cond.selects RX9 yX9_mending yX9_mending ∈ lw_tg := tgm 1098 (by decide +kernel) (by decide +kernel)
theorem my_1099 : Cond.code yX9_mending cX9_mending 2 (some .boolean) ∈ lw_tg := tgm 1099 (by decide +kernel) (by decide +kernel)
theorem my_1100 : Cond.methodLink RL 99 yX9_keep ∈ lw_tg := tgm 1100 (by decide +kernel) (by decide +kernel)
theorem my_1101 : Cond.instanceMethod yX9_keep ∈ lw_tg := tgm 1101 (by decide +kernel) (by decide +kernel)
theorem my_1102 : Cond.selects RX9 yX9_keep yX9_keep ∈ lw_tg := tgm 1102 (by decide +kernel) (by decide +kernel)
theorem my_1103 : Cond.code yX9_keep cX9_keep 3 (some .boolean) ∈ lw_tg := tgm 1103 (by decide +kernel) (by decide +kernel)
theorem my_1107 : Cond.methodLink RL 104 yX9_writes ∈ lw_tg := tgm 1107 (by decide +kernel) (by decide +kernel)
theorem my_1108 : Cond.instanceMethod yX9_writes ∈ lw_tg := tgm 1108 (by decide +kernel) (by decide +kernel)
theorem my_1109 : Cond.selects RX9 yX9_writes yX9_writes ∈ lw_tg := tgm 1109 (by decide +kernel) (by decide +kernel)
theorem my_1110 : Cond.code yX9_writes cX9_writes 4 (some .int) ∈ lw_tg := tgm 1110 (by decide +kernel) (by decide +kernel)
theorem my_1145 : Cond.methodLink RL 109 yX9_reads ∈ lw_tg := tgm 1145 (by decide +kernel) (by decide +kernel)
theorem my_1146 : Cond.instanceMethod yX9_reads ∈ lw_tg := tgm 1146 (by decide +kernel) (by decide +kernel)
theorem my_1147 : Cond.selects RX9 yX9_reads yX9_reads ∈ lw_tg := tgm 1147 (by decide +kernel) (by decide +kernel)
theorem my_1148 : Cond.code yX9_reads cX9_reads 6 (some .int) ∈ lw_tg := tgm 1148 (by decide +kernel) (by decide +kernel)
theorem my_1149 : Cond.methodLink RL 113 yX9_go ∈ lw_tg := tgm 1149 (by decide +kernel) (by decide +kernel)
theorem my_1150 : Cond.instanceMethod yX9_go ∈ lw_tg := tgm 1150 (by decide +kernel) (by decide +kernel)
theorem my_1151 : Cond.selects RX9 yX9_go yX9_go ∈ lw_tg := tgm 1151 (by decide +kernel) (by decide +kernel)
theorem my_1152 : Cond.code yX9_go cX9_go 3 (some .int) ∈ lw_tg := tgm 1152 (by decide +kernel) (by decide +kernel)
theorem my_1153 : Cond.methodLink RL 117 yX9_down ∈ lw_tg := tgm 1153 (by decide +kernel) (by decide +kernel)
theorem my_1154 : Cond.instanceMethod yX9_down ∈ lw_tg := tgm 1154 (by decide +kernel) (by decide +kernel)
theorem my_1155 : Cond.selects RX9 yX9_down yX9_down ∈ lw_tg := tgm 1155 (by decide +kernel) (by decide +kernel)
theorem my_1156 : Cond.code yX9_down cX9_down 5 (some .boolean) ∈ lw_tg := tgm 1156 (by decide +kernel) (by decide +kernel)
theorem my_1161 : Cond.methodLink RL 121 yX9_up ∈ lw_tg := tgm 1161 (by decide +kernel) (by decide +kernel)
theorem my_1162 : Cond.instanceMethod yX9_up ∈ lw_tg := tgm 1162 (by decide +kernel) (by decide +kernel)
theorem my_1163 : Cond.selects RX9 yX9_up yX9_up ∈ lw_tg := tgm 1163 (by decide +kernel) (by decide +kernel)
theorem my_1164 : Cond.code yX9_up cX9_up 5 (some .int) ∈ lw_tg := tgm 1164 (by decide +kernel) (by decide +kernel)
theorem my_1169 : Cond.methodLink RL 125 yX9_sweep ∈ lw_tg := tgm 1169 (by decide +kernel) (by decide +kernel)
theorem my_1170 : Cond.instanceMethod yX9_sweep ∈ lw_tg := tgm 1170 (by decide +kernel) (by decide +kernel)
theorem my_1171 : Cond.selects RX9 yX9_sweep yX9_sweep ∈ lw_tg := tgm 1171 (by decide +kernel) (by decide +kernel)
theorem my_1172 : Cond.code yX9_sweep cX9_sweep 7 (some .int) ∈ lw_tg := tgm 1172 (by decide +kernel) (by decide +kernel)
theorem my_1173 : Cond.methodLink RL 129 yX9_of ∈ lw_tg := tgm 1173 (by decide +kernel) (by decide +kernel)
theorem my_1174 : Cond.instanceMethod yX9_of ∈ lw_tg := tgm 1174 (by decide +kernel) (by decide +kernel)
theorem my_1175 : Cond.selects RX9 yX9_of yX9_of ∈ lw_tg := tgm 1175 (by decide +kernel) (by decide +kernel)
theorem my_1176 : Cond.code yX9_of cX9_of 6 (some .int) ∈ lw_tg := tgm 1176 (by decide +kernel) (by decide +kernel)
theorem my_1177 : Cond.methodLink RL 133 yX9_done ∈ lw_tg := tgm 1177 (by decide +kernel) (by decide +kernel)
theorem my_1178 : Cond.instanceMethod yX9_done ∈ lw_tg := tgm 1178 (by decide +kernel) (by decide +kernel)
theorem my_1179 : Cond.selects RX9 yX9_done yX9_done ∈ lw_tg := tgm 1179 (by decide +kernel) (by decide +kernel)
theorem my_1180 : Cond.code yX9_done cX9_done 3 (some .int) ∈ lw_tg := tgm 1180 (by decide +kernel) (by decide +kernel)
theorem my_1181 : Cond.methodLink RL 137 yX9_got ∈ lw_tg := tgm 1181 (by decide +kernel) (by decide +kernel)
theorem my_1182 : Cond.instanceMethod yX9_got ∈ lw_tg := tgm 1182 (by decide +kernel) (by decide +kernel)
theorem my_1183 : Cond.selects RX9 yX9_got yX9_got ∈ lw_tg := tgm 1183 (by decide +kernel) (by decide +kernel)
theorem my_1184 : Cond.code yX9_got cX9_got 4 (some .int) ∈ lw_tg := tgm 1184 (by decide +kernel) (by decide +kernel)
theorem my_1189 : Cond.methodLink RL 141 yX9_tell ∈ lw_tg := tgm 1189 (by decide +kernel) (by decide +kernel)
theorem my_1190 : Cond.instanceMethod yX9_tell ∈ lw_tg := tgm 1190 (by decide +kernel) (by decide +kernel)
theorem my_1191 : Cond.selects RX9 yX9_tell yX9_tell ∈ lw_tg := tgm 1191 (by decide +kernel) (by decide +kernel)
theorem my_1192 : Cond.code yX9_tell cX9_tell 4 (some .int) ∈ lw_tg := tgm 1192 (by decide +kernel) (by decide +kernel)
theorem my_1193 : Cond.constantLong RL 32 4294967295 ∈ lw_tg := tgm 1193 (by decide +kernel) (by decide +kernel)
theorem hVL_13 : zCV RL 13 8 yX8_status cX8_status 1 (some .int) 0 := ⟨⟨_, _, rfl⟩, z_gV my_373 my_374 my_375 my_43 my_376, ⟨rfl, by decide +kernel, by decide +kernel, by decide +kernel⟩⟩
theorem hVL_17 : zCV RL 17 9 yX9_status cX9_status 1 (some .int) 0 := ⟨⟨_, _, rfl⟩, z_gV my_803 my_804 my_805 my_52 my_806, ⟨rfl, by decide +kernel, by decide +kernel, by decide +kernel⟩⟩
theorem hVL_18 : zCV RL 18 8 yX8_top cX8_top 1 (some .long) 0 := ⟨⟨_, _, rfl⟩, z_gV my_377 my_378 my_379 my_43 my_380, ⟨rfl, by decide +kernel, by decide +kernel, by decide +kernel⟩⟩
theorem hVL_22 : zCV RL 22 9 yX9_top cX9_top 1 (some .long) 0 := ⟨⟨_, _, rfl⟩, z_gV my_807 my_808 my_809 my_52 my_810, ⟨rfl, by decide +kernel, by decide +kernel, by decide +kernel⟩⟩
theorem hVL_23 : zCV RL 23 8 yX8_bottom cX8_bottom 1 (some .long) 0 := ⟨⟨_, _, rfl⟩, z_gV my_381 my_382 my_383 my_43 my_384, ⟨rfl, by decide +kernel, by decide +kernel, by decide +kernel⟩⟩
theorem hVL_26 : zCV RL 26 9 yX9_bottom cX9_bottom 1 (some .long) 0 := ⟨⟨_, _, rfl⟩, z_gV my_811 my_812 my_813 my_52 my_814, ⟨rfl, by decide +kernel, by decide +kernel, by decide +kernel⟩⟩
theorem hVL_27 : zCV RL 27 8 yX8_sheet cX8_sheet 5 (some .boolean) 3 := ⟨⟨_, _, rfl⟩, z_gV my_385 my_386 my_387 my_43 my_388, ⟨rfl, by decide +kernel, by decide +kernel, by decide +kernel⟩⟩
theorem hVL_31 : zCV RL 31 9 yX9_sheet cX9_sheet 5 (some .boolean) 3 := ⟨⟨_, _, rfl⟩, z_gV my_815 my_816 my_817 my_52 my_818, ⟨rfl, by decide +kernel, by decide +kernel, by decide +kernel⟩⟩
theorem hVL_34 : zCV RL 34 8 yX8_write cX8_write 5 (some .boolean) 3 := ⟨⟨_, _, rfl⟩, z_gV my_402 my_403 my_404 my_43 my_405, ⟨rfl, by decide +kernel, by decide +kernel, by decide +kernel⟩⟩
theorem hVL_38 : zCV RL 38 9 yX9_write cX9_write 6 (some .boolean) 3 := ⟨⟨_, _, rfl⟩, z_gV my_827 my_828 my_829 my_52 my_830, ⟨rfl, by decide +kernel, by decide +kernel, by decide +kernel⟩⟩
theorem hVL_39 : zCV RL 39 8 yX8_read cX8_read 3 (some .long) 2 := ⟨⟨_, _, rfl⟩, z_gV my_419 my_420 my_421 my_43 my_422, ⟨rfl, by decide +kernel, by decide +kernel, by decide +kernel⟩⟩
theorem hVL_43 : zCV RL 43 9 yX9_read cX9_read 3 (some .long) 2 := ⟨⟨_, _, rfl⟩, z_gV my_838 my_839 my_840 my_52 my_841, ⟨rfl, by decide +kernel, by decide +kernel, by decide +kernel⟩⟩
theorem hVL_44 : zCV RL 44 8 yX8_copy cX8_copy 7 (some .boolean) 5 := ⟨⟨_, _, rfl⟩, z_gV my_429 my_430 my_431 my_43 my_432, ⟨rfl, by decide +kernel, by decide +kernel, by decide +kernel⟩⟩
theorem hVL_48 : zCV RL 48 9 yX9_copy cX9_copy 8 (some .boolean) 5 := ⟨⟨_, _, rfl⟩, z_gV my_843 my_844 my_845 my_52 my_846, ⟨rfl, by decide +kernel, by decide +kernel, by decide +kernel⟩⟩
theorem hVL_49 : zCV RL 49 8 yX8_drop cX8_drop 2 (some .boolean) 1 := ⟨⟨_, _, rfl⟩, z_gV my_446 my_447 my_448 my_43 my_449, ⟨rfl, by decide +kernel, by decide +kernel, by decide +kernel⟩⟩
theorem hVL_53 : zCV RL 53 9 yX9_drop cX9_drop 2 (some .boolean) 1 := ⟨⟨_, _, rfl⟩, z_gV my_847 my_848 my_849 my_52 my_850, ⟨rfl, by decide +kernel, by decide +kernel, by decide +kernel⟩⟩
theorem hVL_54 : zCV RL 54 8 yX8_none cX8_none 1 (some .boolean) 0 := ⟨⟨_, _, rfl⟩, z_gV my_454 my_455 my_456 my_43 my_457, ⟨rfl, by decide +kernel, by decide +kernel, by decide +kernel⟩⟩
theorem hVL_58 : zCV RL 58 9 yX9_none cX9_none 1 (some .boolean) 0 := ⟨⟨_, _, rfl⟩, z_gV my_851 my_852 my_853 my_52 my_854, ⟨rfl, by decide +kernel, by decide +kernel, by decide +kernel⟩⟩
theorem hVL_59 : zCV RL 59 8 yX8_numbers cX8_numbers 5 (some .boolean) 3 := ⟨⟨_, _, rfl⟩, z_gV my_458 my_459 my_460 my_43 my_461, ⟨rfl, by decide +kernel, by decide +kernel, by decide +kernel⟩⟩
theorem hVL_62 : zCV RL 62 9 yX9_numbers cX9_numbers 4 (some .boolean) 3 := ⟨⟨_, _, rfl⟩, z_gV my_1011 my_1012 my_1013 my_52 my_1014, ⟨rfl, by decide +kernel, by decide +kernel, by decide +kernel⟩⟩
theorem hVL_63 : zCV RL 63 8 yX8_gap cX8_gap 2 (some .boolean) 1 := ⟨⟨_, _, rfl⟩, z_gV my_463 my_464 my_465 my_43 my_466, ⟨rfl, by decide +kernel, by decide +kernel, by decide +kernel⟩⟩
theorem hVL_66 : zCV RL 66 9 yX9_gap cX9_gap 2 (some .boolean) 1 := ⟨⟨_, _, rfl⟩, z_gV my_1015 my_1016 my_1017 my_52 my_1018, ⟨rfl, by decide +kernel, by decide +kernel, by decide +kernel⟩⟩
theorem hVL_67 : zCV RL 67 8 yX8_table cX8_table 7 (some .boolean) 3 := ⟨⟨_, _, rfl⟩, z_gV my_468 my_469 my_470 my_43 my_471, ⟨rfl, by decide +kernel, by decide +kernel, by decide +kernel⟩⟩
theorem hVL_70 : zCV RL 70 9 yX9_table cX9_table 9 (some .boolean) 3 := ⟨⟨_, _, rfl⟩, z_gV my_1019 my_1020 my_1021 my_52 my_1022, ⟨rfl, by decide +kernel, by decide +kernel, by decide +kernel⟩⟩
theorem hVL_71 : zCV RL 71 8 yX8_takes cX8_takes 3 (some .int) 2 := ⟨⟨_, _, rfl⟩, z_gV my_478 my_479 my_480 my_43 my_481, ⟨rfl, by decide +kernel, by decide +kernel, by decide +kernel⟩⟩
theorem hVL_75 : zCV RL 75 9 yX9_takes cX9_takes 10 (some .int) 2 := ⟨⟨_, _, rfl⟩, z_gV my_1024 my_1025 my_1026 my_52 my_1027, ⟨rfl, by decide +kernel, by decide +kernel, by decide +kernel⟩⟩
theorem hVL_76 : zCV RL 76 8 yX8_odds cX8_odds 5 (some .int) 3 := ⟨⟨_, _, rfl⟩, z_gV my_521 my_522 my_523 my_43 my_524, ⟨rfl, by decide +kernel, by decide +kernel, by decide +kernel⟩⟩
theorem hVL_80 : zCV RL 80 9 yX9_odds cX9_odds 6 (some .int) 3 := ⟨⟨_, _, rfl⟩, z_gV my_1049 my_1050 my_1051 my_52 my_1052, ⟨rfl, by decide +kernel, by decide +kernel, by decide +kernel⟩⟩
theorem hVL_81 : zCV RL 81 8 yX8_choose cX8_choose 12 (some .int) 9 := ⟨⟨_, _, rfl⟩, z_gV my_578 my_579 my_580 my_43 my_581, ⟨rfl, by decide +kernel, by decide +kernel, by decide +kernel⟩⟩
theorem hVL_85 : zCV RL 85 9 yX9_choose cX9_choose 19 (some .int) 9 := ⟨⟨_, _, rfl⟩, z_gV my_1084 my_1085 my_1086 my_52 my_1087, ⟨rfl, by decide +kernel, by decide +kernel, by decide +kernel⟩⟩
theorem hVL_86 : zCV RL 86 8 yX8_begin cX8_begin 1 (some .boolean) 0 := ⟨⟨_, _, rfl⟩, z_gV my_592 my_593 my_594 my_43 my_595, ⟨rfl, by decide +kernel, by decide +kernel, by decide +kernel⟩⟩
theorem hVL_89 : zCV RL 89 9 yX9_begin cX9_begin 2 (some .boolean) 0 := ⟨⟨_, _, rfl⟩, z_gV my_1092 my_1093 my_1094 my_52 my_1095, ⟨rfl, by decide +kernel, by decide +kernel, by decide +kernel⟩⟩
theorem hVL_90 : zCV RL 90 8 yX8_mending cX8_mending 2 (some .boolean) 1 := ⟨⟨_, _, rfl⟩, z_gV my_613 my_614 my_615 my_43 my_616, ⟨rfl, by decide +kernel, by decide +kernel, by decide +kernel⟩⟩
theorem hVL_94 : zCV RL 94 9 yX9_mending cX9_mending 2 (some .boolean) 1 := ⟨⟨_, _, rfl⟩, z_gV my_1096 my_1097 my_1098 my_52 my_1099, ⟨rfl, by decide +kernel, by decide +kernel, by decide +kernel⟩⟩
theorem hVL_95 : zCV RL 95 8 yX8_keep cX8_keep 3 (some .boolean) 2 := ⟨⟨_, _, rfl⟩, z_gV my_621 my_622 my_623 my_43 my_624, ⟨rfl, by decide +kernel, by decide +kernel, by decide +kernel⟩⟩
theorem hVL_99 : zCV RL 99 9 yX9_keep cX9_keep 3 (some .boolean) 2 := ⟨⟨_, _, rfl⟩, z_gV my_1100 my_1101 my_1102 my_52 my_1103, ⟨rfl, by decide +kernel, by decide +kernel, by decide +kernel⟩⟩
theorem hVL_100 : zCV RL 100 8 yX8_writes cX8_writes 3 (some .int) 1 := ⟨⟨_, _, rfl⟩, z_gV my_625 my_626 my_627 my_43 my_628, ⟨rfl, by decide +kernel, by decide +kernel, by decide +kernel⟩⟩
theorem hVL_104 : zCV RL 104 9 yX9_writes cX9_writes 4 (some .int) 1 := ⟨⟨_, _, rfl⟩, z_gV my_1107 my_1108 my_1109 my_52 my_1110, ⟨rfl, by decide +kernel, by decide +kernel, by decide +kernel⟩⟩
theorem hVL_105 : zCV RL 105 8 yX8_reads cX8_reads 4 (some .int) 2 := ⟨⟨_, _, rfl⟩, z_gV my_722 my_723 my_724 my_43 my_725, ⟨rfl, by decide +kernel, by decide +kernel, by decide +kernel⟩⟩
theorem hVL_109 : zCV RL 109 9 yX9_reads cX9_reads 6 (some .int) 2 := ⟨⟨_, _, rfl⟩, z_gV my_1145 my_1146 my_1147 my_52 my_1148, ⟨rfl, by decide +kernel, by decide +kernel, by decide +kernel⟩⟩
theorem hVL_110 : zCV RL 110 8 yX8_go cX8_go 2 (some .int) 1 := ⟨⟨_, _, rfl⟩, z_gV my_730 my_731 my_732 my_43 my_733, ⟨rfl, by decide +kernel, by decide +kernel, by decide +kernel⟩⟩
theorem hVL_113 : zCV RL 113 9 yX9_go cX9_go 3 (some .int) 1 := ⟨⟨_, _, rfl⟩, z_gV my_1149 my_1150 my_1151 my_52 my_1152, ⟨rfl, by decide +kernel, by decide +kernel, by decide +kernel⟩⟩
theorem hVL_114 : zCV RL 114 8 yX8_down cX8_down 3 (some .boolean) 2 := ⟨⟨_, _, rfl⟩, z_gV my_735 my_736 my_737 my_43 my_738, ⟨rfl, by decide +kernel, by decide +kernel, by decide +kernel⟩⟩
theorem hVL_117 : zCV RL 117 9 yX9_down cX9_down 5 (some .boolean) 2 := ⟨⟨_, _, rfl⟩, z_gV my_1153 my_1154 my_1155 my_52 my_1156, ⟨rfl, by decide +kernel, by decide +kernel, by decide +kernel⟩⟩
theorem hVL_118 : zCV RL 118 8 yX8_up cX8_up 2 (some .int) 1 := ⟨⟨_, _, rfl⟩, z_gV my_757 my_758 my_759 my_43 my_760, ⟨rfl, by decide +kernel, by decide +kernel, by decide +kernel⟩⟩
theorem hVL_121 : zCV RL 121 9 yX9_up cX9_up 5 (some .int) 1 := ⟨⟨_, _, rfl⟩, z_gV my_1161 my_1162 my_1163 my_52 my_1164, ⟨rfl, by decide +kernel, by decide +kernel, by decide +kernel⟩⟩
theorem hVL_122 : zCV RL 122 8 yX8_sweep cX8_sweep 4 (some .int) 2 := ⟨⟨_, _, rfl⟩, z_gV my_769 my_770 my_771 my_43 my_772, ⟨rfl, by decide +kernel, by decide +kernel, by decide +kernel⟩⟩
theorem hVL_125 : zCV RL 125 9 yX9_sweep cX9_sweep 7 (some .int) 2 := ⟨⟨_, _, rfl⟩, z_gV my_1169 my_1170 my_1171 my_52 my_1172, ⟨rfl, by decide +kernel, by decide +kernel, by decide +kernel⟩⟩
theorem hVL_126 : zCV RL 126 8 yX8_of cX8_of 3 (some .int) 2 := ⟨⟨_, _, rfl⟩, z_gV my_777 my_778 my_779 my_43 my_780, ⟨rfl, by decide +kernel, by decide +kernel, by decide +kernel⟩⟩
theorem hVL_129 : zCV RL 129 9 yX9_of cX9_of 6 (some .int) 2 := ⟨⟨_, _, rfl⟩, z_gV my_1173 my_1174 my_1175 my_52 my_1176, ⟨rfl, by decide +kernel, by decide +kernel, by decide +kernel⟩⟩
theorem hVL_130 : zCV RL 130 8 yX8_done cX8_done 3 (some .int) 1 := ⟨⟨_, _, rfl⟩, z_gV my_783 my_784 my_785 my_43 my_786, ⟨rfl, by decide +kernel, by decide +kernel, by decide +kernel⟩⟩
theorem hVL_133 : zCV RL 133 9 yX9_done cX9_done 3 (some .int) 1 := ⟨⟨_, _, rfl⟩, z_gV my_1177 my_1178 my_1179 my_52 my_1180, ⟨rfl, by decide +kernel, by decide +kernel, by decide +kernel⟩⟩
theorem hVL_134 : zCV RL 134 8 yX8_got cX8_got 4 (some .int) 2 := ⟨⟨_, _, rfl⟩, z_gV my_789 my_790 my_791 my_43 my_792, ⟨rfl, by decide +kernel, by decide +kernel, by decide +kernel⟩⟩
theorem hVL_137 : zCV RL 137 9 yX9_got cX9_got 4 (some .int) 2 := ⟨⟨_, _, rfl⟩, z_gV my_1181 my_1182 my_1183 my_52 my_1184, ⟨rfl, by decide +kernel, by decide +kernel, by decide +kernel⟩⟩
theorem hVL_138 : zCV RL 138 8 yX8_tell cX8_tell 2 (some .int) 1 := ⟨⟨_, _, rfl⟩, z_gV my_798 my_799 my_800 my_43 my_801, ⟨rfl, by decide +kernel, by decide +kernel, by decide +kernel⟩⟩
theorem hVL_141 : zCV RL 141 9 yX9_tell cX9_tell 4 (some .int) 1 := ⟨⟨_, _, rfl⟩, z_gV my_1189 my_1190 my_1191 my_52 my_1192, ⟨rfl, by decide +kernel, by decide +kernel, by decide +kernel⟩⟩
section LC
variable {p : Program} {l : Launch} {e : Env} {s : State} {m : MethodId} {below : List Frame} {meth : Method} {c : Code} {D : va_G} {cA : Nat → ClassId} {σ1 σ2 : Nat → Nat} {tS b Ls : Nat} {xs : Nat → Int32}
set_option maxRecDepth 100000 in
set_option maxHeartbeats 4000000 in
theorem law_0 (X : lX p s m meth c D cA σ1 σ2 tS b Ls xs) {SC SM : St} {kk : Nat} {i : Int32} (hB : RB SC SM) (hR : Rru SC SM kk) (hk : kk < 999) (hin : ∀ n : Nat, n < 10 → vp_in (i + nI n) Ls) (K : ∀ SC' SM' : St, RB SC' SM' → Rru SC' SM' (kk + 1) → Lj p l e s m below meth c D cA σ1 σ2 b 1159 [(0, .ref b), (1, .ref (σ1 0)), (2, .ref (σ2 0)), (3, .int i)] [] SC' SM') : Lj p l e s m below meth c D cA σ1 σ2 b 160 [(0, .ref b), (1, .ref (σ1 0)), (2, .ref (σ2 0)), (3, .int i)] [] SC SM := by
  refine l_aload_n (pc := 160) X dL_law_160 rfl 1 rfl ?_
  obtain ⟨r, SC', SM', e1, e2, hB', hR'⟩ : SimR SC SM kk (J8_status SC) (J9_status SM) := (sim_status hB).r hR
  refine l_callC (pc := 161) (v := some (.int r)) X [] hVL_13 rfl rfl (Nat.le_of_ble_eq_true rfl) ⟨rfl, rfl, Nat.le_of_ble_eq_true rfl, Nat.le_of_ble_eq_true rfl⟩ dL_law_161 (cc8_status e1) ?_
  refine l_aload_n (pc := 164) X dL_law_164 rfl 2 rfl ?_
  refine l_callM (pc := 165) (v := some (.int r)) X [] hVL_17 rfl rfl (Nat.le_of_ble_eq_true rfl) ⟨rfl, rfl, Nat.le_of_ble_eq_true rfl, Nat.le_of_ble_eq_true rfl⟩ dL_law_165 (cc9_status e2) ?_
  refine l_icmp_eq (pc := 168) (tgt := 1159) X dL_law_168 (by decide) ?_
  exact K SC' SM' hB' hR'
set_option maxRecDepth 100000 in
set_option maxHeartbeats 4000000 in
theorem law_1 (X : lX p s m meth c D cA σ1 σ2 tS b Ls xs) {SC SM : St} {kk : Nat} {i : Int32} (hB : RB SC SM) (hR : Rru SC SM kk) (hk : kk < 999) (hin : ∀ n : Nat, n < 10 → vp_in (i + nI n) Ls) (K : ∀ SC' SM' : St, RB SC' SM' → Rru SC' SM' (kk + 1) → Lj p l e s m below meth c D cA σ1 σ2 b 1159 [(0, .ref b), (1, .ref (σ1 0)), (2, .ref (σ2 0)), (3, .int i)] [] SC' SM') : Lj p l e s m below meth c D cA σ1 σ2 b 173 [(0, .ref b), (1, .ref (σ1 0)), (2, .ref (σ2 0)), (3, .int i)] [] SC SM := by
  refine l_aload_n (pc := 173) X dL_law_173 rfl 1 rfl ?_
  obtain ⟨r, SC', SM', e1, e2, hB', hR'⟩ : SimR SC SM kk (J8_top SC) (J9_top SM) := (sim_top hB).r hR
  refine l_callC (pc := 174) (v := some (.long r)) X [] hVL_18 rfl rfl (Nat.le_of_ble_eq_true rfl) ⟨rfl, rfl, Nat.le_of_ble_eq_true rfl, Nat.le_of_ble_eq_true rfl⟩ dL_law_174 (cc8_top e1) ?_
  refine l_aload_n (pc := 177) X dL_law_177 rfl 2 rfl ?_
  refine l_callM (pc := 178) (v := some (.long r)) X [] hVL_22 rfl rfl (Nat.le_of_ble_eq_true rfl) ⟨rfl, rfl, Nat.le_of_ble_eq_true rfl, Nat.le_of_ble_eq_true rfl⟩ dL_law_178 (cc9_top e2) ?_
  refine l_lcmp (pc := 181) X dL_law_181 ?_
  refine l_if_eq (pc := 182) (tgt := 1159) X dL_law_182 (by decide) (fun _ => ?_) (fun h9 => absurd (lg_cmp_r _) h9)
  exact K SC' SM' hB' hR'
set_option maxRecDepth 100000 in
set_option maxHeartbeats 4000000 in
theorem law_2 (X : lX p s m meth c D cA σ1 σ2 tS b Ls xs) {SC SM : St} {kk : Nat} {i : Int32} (hB : RB SC SM) (hR : Rru SC SM kk) (hk : kk < 999) (hin : ∀ n : Nat, n < 10 → vp_in (i + nI n) Ls) (K : ∀ SC' SM' : St, RB SC' SM' → Rru SC' SM' (kk + 1) → Lj p l e s m below meth c D cA σ1 σ2 b 1159 [(0, .ref b), (1, .ref (σ1 0)), (2, .ref (σ2 0)), (3, .int i)] [] SC' SM') : Lj p l e s m below meth c D cA σ1 σ2 b 187 [(0, .ref b), (1, .ref (σ1 0)), (2, .ref (σ2 0)), (3, .int i)] [] SC SM := by
  refine l_aload_n (pc := 187) X dL_law_187 rfl 1 rfl ?_
  obtain ⟨r, SC', SM', e1, e2, hB', hR'⟩ : SimR SC SM kk (J8_bottom SC) (J9_bottom SM) := (sim_bottom hB).r hR
  refine l_callC (pc := 188) (v := some (.long r)) X [] hVL_23 rfl rfl (Nat.le_of_ble_eq_true rfl) ⟨rfl, rfl, Nat.le_of_ble_eq_true rfl, Nat.le_of_ble_eq_true rfl⟩ dL_law_188 (cc8_bottom e1) ?_
  refine l_aload_n (pc := 191) X dL_law_191 rfl 2 rfl ?_
  refine l_callM (pc := 192) (v := some (.long r)) X [] hVL_26 rfl rfl (Nat.le_of_ble_eq_true rfl) ⟨rfl, rfl, Nat.le_of_ble_eq_true rfl, Nat.le_of_ble_eq_true rfl⟩ dL_law_192 (cc9_bottom e2) ?_
  refine l_lcmp (pc := 195) X dL_law_195 ?_
  refine l_if_eq (pc := 196) (tgt := 1159) X dL_law_196 (by decide) (fun _ => ?_) (fun h9 => absurd (lg_cmp_r _) h9)
  exact K SC' SM' hB' hR'
set_option maxRecDepth 100000 in
set_option maxHeartbeats 4000000 in
theorem law_3 (X : lX p s m meth c D cA σ1 σ2 tS b Ls xs) {SC SM : St} {kk : Nat} {i : Int32} (hB : RB SC SM) (hR : Rru SC SM kk) (hk : kk < 999) (hin : ∀ n : Nat, n < 10 → vp_in (i + nI n) Ls) (K : ∀ SC' SM' : St, RB SC' SM' → Rru SC' SM' (kk + 1) → Lj p l e s m below meth c D cA σ1 σ2 b 1159 [(0, .ref b), (1, .ref (σ1 0)), (2, .ref (σ2 0)), (3, .int i)] [] SC' SM') : Lj p l e s m below meth c D cA σ1 σ2 b 201 [(0, .ref b), (1, .ref (σ1 0)), (2, .ref (σ2 0)), (3, .int i)] [] SC SM := by
  refine l_aload_n (pc := 201) X dL_law_201 rfl 1 rfl ?_
  refine l_aload_n (pc := 202) X dL_law_202 rfl 0 rfl ?_
  refine l_iload_n (pc := 203) X dL_law_203 rfl 3 rfl ?_
  refine l_iconst (pc := 204) (v := 1) X dL_law_204 (by decide) ?_
  refine l_arg (pc := 205) (n := 1) X (hin 1 (by decide)) dL_law_205 dL_law_206 ?_
  refine l_aload_n (pc := 207) X dL_law_207 rfl 0 rfl ?_
  refine l_iload_n (pc := 208) X dL_law_208 rfl 3 rfl ?_
  refine l_iconst (pc := 209) (v := 2) X dL_law_209 (by decide) ?_
  refine l_arg (pc := 210) (n := 2) X (hin 2 (by decide)) dL_law_210 dL_law_211 ?_
  refine l_aload_n (pc := 212) X dL_law_212 rfl 0 rfl ?_
  refine l_iload_n (pc := 213) X dL_law_213 rfl 3 rfl ?_
  refine l_iconst (pc := 214) (v := 3) X dL_law_214 (by decide) ?_
  refine l_arg (pc := 215) (n := 3) X (hin 3 (by decide)) dL_law_215 dL_law_216 ?_
  obtain ⟨r, SC', SM', e1, e2, hB', hR'⟩ : SimR SC SM kk (J8_sheet SC (xs (i + 1).toNatClampNeg) (xs (i + 2).toNatClampNeg) (xs (i + 3).toNatClampNeg)) (J9_sheet SM (xs (i + 1).toNatClampNeg) (xs (i + 2).toNatClampNeg) (xs (i + 3).toNatClampNeg)) := (sim_sheet hB (xs (i + 1).toNatClampNeg) (xs (i + 2).toNatClampNeg) (xs (i + 3).toNatClampNeg)).r hR
  refine l_callC (pc := 217) (v := some (.int r)) X [.int (xs (i + 1).toNatClampNeg), .int (xs (i + 2).toNatClampNeg), .int (xs (i + 3).toNatClampNeg)] hVL_27 rfl rfl (Nat.le_of_ble_eq_true rfl) ⟨rfl, rfl, Nat.le_of_ble_eq_true rfl, Nat.le_of_ble_eq_true rfl⟩ dL_law_217 (cc8_sheet e1) ?_
  refine l_aload_n (pc := 220) X dL_law_220 rfl 2 rfl ?_
  refine l_aload_n (pc := 221) X dL_law_221 rfl 0 rfl ?_
  refine l_iload_n (pc := 222) X dL_law_222 rfl 3 rfl ?_
  refine l_iconst (pc := 223) (v := 1) X dL_law_223 (by decide) ?_
  refine l_arg (pc := 224) (n := 1) X (hin 1 (by decide)) dL_law_224 dL_law_225 ?_
  refine l_aload_n (pc := 226) X dL_law_226 rfl 0 rfl ?_
  refine l_iload_n (pc := 227) X dL_law_227 rfl 3 rfl ?_
  refine l_iconst (pc := 228) (v := 2) X dL_law_228 (by decide) ?_
  refine l_arg (pc := 229) (n := 2) X (hin 2 (by decide)) dL_law_229 dL_law_230 ?_
  refine l_aload_n (pc := 231) X dL_law_231 rfl 0 rfl ?_
  refine l_iload_n (pc := 232) X dL_law_232 rfl 3 rfl ?_
  refine l_iconst (pc := 233) (v := 3) X dL_law_233 (by decide) ?_
  refine l_arg (pc := 234) (n := 3) X (hin 3 (by decide)) dL_law_234 dL_law_235 ?_
  refine l_callM (pc := 236) (v := some (.int r)) X [.int (xs (i + 1).toNatClampNeg), .int (xs (i + 2).toNatClampNeg), .int (xs (i + 3).toNatClampNeg)] hVL_31 rfl rfl (Nat.le_of_ble_eq_true rfl) ⟨rfl, rfl, Nat.le_of_ble_eq_true rfl, Nat.le_of_ble_eq_true rfl⟩ dL_law_236 (cc9_sheet e2) ?_
  refine l_icmp_eq (pc := 239) (tgt := 1159) X dL_law_239 (by decide) ?_
  exact K SC' SM' hB' hR'
set_option maxRecDepth 100000 in
set_option maxHeartbeats 4000000 in
theorem law_4 (X : lX p s m meth c D cA σ1 σ2 tS b Ls xs) {SC SM : St} {kk : Nat} {i : Int32} (hB : RB SC SM) (hR : Rru SC SM kk) (hk : kk < 999) (hin : ∀ n : Nat, n < 10 → vp_in (i + nI n) Ls) (K : ∀ SC' SM' : St, RB SC' SM' → Rru SC' SM' (kk + 1) → Lj p l e s m below meth c D cA σ1 σ2 b 1159 [(0, .ref b), (1, .ref (σ1 0)), (2, .ref (σ2 0)), (3, .int i)] [] SC' SM') : Lj p l e s m below meth c D cA σ1 σ2 b 244 [(0, .ref b), (1, .ref (σ1 0)), (2, .ref (σ2 0)), (3, .int i)] [] SC SM := by
  refine l_aload_n (pc := 244) X dL_law_244 rfl 1 rfl ?_
  refine l_aload_n (pc := 245) X dL_law_245 rfl 0 rfl ?_
  refine l_iload_n (pc := 246) X dL_law_246 rfl 3 rfl ?_
  refine l_iconst (pc := 247) (v := 1) X dL_law_247 (by decide) ?_
  refine l_arg (pc := 248) (n := 1) X (hin 1 (by decide)) dL_law_248 dL_law_249 ?_
  refine l_aload_n (pc := 250) X dL_law_250 rfl 0 rfl ?_
  refine l_iload_n (pc := 251) X dL_law_251 rfl 3 rfl ?_
  refine l_iconst (pc := 252) (v := 2) X dL_law_252 (by decide) ?_
  refine l_arg (pc := 253) (n := 2) X (hin 2 (by decide)) dL_law_253 dL_law_254 ?_
  refine l_aload_n (pc := 255) X dL_law_255 rfl 0 rfl ?_
  refine l_iload_n (pc := 256) X dL_law_256 rfl 3 rfl ?_
  refine l_iconst (pc := 257) (v := 3) X dL_law_257 (by decide) ?_
  refine l_arg (pc := 258) (n := 3) X (hin 3 (by decide)) dL_law_258 dL_law_259 ?_
  refine l_i2l (pc := 260) X dL_law_260 ?_
  refine l_bipush (pc := 261) (v := 32) X dL_law_261 (by decide) ?_
  refine l_lshl (pc := 263) X dL_law_263 ?_
  refine l_aload_n (pc := 264) X dL_law_264 rfl 0 rfl ?_
  refine l_iload_n (pc := 265) X dL_law_265 rfl 3 rfl ?_
  refine l_iconst (pc := 266) (v := 4) X dL_law_266 (by decide) ?_
  refine l_arg (pc := 267) (n := 4) X (hin 4 (by decide)) dL_law_267 dL_law_268 ?_
  refine l_i2l (pc := 269) X dL_law_269 ?_
  refine l_ldc2 (pc := 270) X dL_law_270 my_1193 ?_
  refine l_land (pc := 273) X dL_law_273 ?_
  refine l_lor (pc := 274) X dL_law_274 ?_
  obtain ⟨r, SC', SM', e1, e2, hB', hR'⟩ : SimR SC SM kk (J8_write SC (xs (i + 1).toNatClampNeg) (xs (i + 2).toNatClampNeg) (((xs (i + 3).toNatClampNeg).toInt64 <<< ((32 : Int32).toInt64 &&& 63)) ||| ((xs (i + 4).toNatClampNeg).toInt64 &&& 4294967295))) (J9_write SM (xs (i + 1).toNatClampNeg) (xs (i + 2).toNatClampNeg) (((xs (i + 3).toNatClampNeg).toInt64 <<< ((32 : Int32).toInt64 &&& 63)) ||| ((xs (i + 4).toNatClampNeg).toInt64 &&& 4294967295))) := (sim_write hB (xs (i + 1).toNatClampNeg) (xs (i + 2).toNatClampNeg) (((xs (i + 3).toNatClampNeg).toInt64 <<< ((32 : Int32).toInt64 &&& 63)) ||| ((xs (i + 4).toNatClampNeg).toInt64 &&& 4294967295))).r hR
  refine l_callC (pc := 275) (v := some (.int r)) X [.int (xs (i + 1).toNatClampNeg), .int (xs (i + 2).toNatClampNeg), .long (((xs (i + 3).toNatClampNeg).toInt64 <<< ((32 : Int32).toInt64 &&& 63)) ||| ((xs (i + 4).toNatClampNeg).toInt64 &&& 4294967295))] hVL_34 rfl rfl (Nat.le_of_ble_eq_true rfl) ⟨rfl, rfl, Nat.le_of_ble_eq_true rfl, Nat.le_of_ble_eq_true rfl⟩ dL_law_275 (cc8_write e1) ?_
  refine l_aload_n (pc := 278) X dL_law_278 rfl 2 rfl ?_
  refine l_aload_n (pc := 279) X dL_law_279 rfl 0 rfl ?_
  refine l_iload_n (pc := 280) X dL_law_280 rfl 3 rfl ?_
  refine l_iconst (pc := 281) (v := 1) X dL_law_281 (by decide) ?_
  refine l_arg (pc := 282) (n := 1) X (hin 1 (by decide)) dL_law_282 dL_law_283 ?_
  refine l_aload_n (pc := 284) X dL_law_284 rfl 0 rfl ?_
  refine l_iload_n (pc := 285) X dL_law_285 rfl 3 rfl ?_
  refine l_iconst (pc := 286) (v := 2) X dL_law_286 (by decide) ?_
  refine l_arg (pc := 287) (n := 2) X (hin 2 (by decide)) dL_law_287 dL_law_288 ?_
  refine l_aload_n (pc := 289) X dL_law_289 rfl 0 rfl ?_
  refine l_iload_n (pc := 290) X dL_law_290 rfl 3 rfl ?_
  refine l_iconst (pc := 291) (v := 3) X dL_law_291 (by decide) ?_
  refine l_arg (pc := 292) (n := 3) X (hin 3 (by decide)) dL_law_292 dL_law_293 ?_
  refine l_i2l (pc := 294) X dL_law_294 ?_
  refine l_bipush (pc := 295) (v := 32) X dL_law_295 (by decide) ?_
  refine l_lshl (pc := 297) X dL_law_297 ?_
  refine l_aload_n (pc := 298) X dL_law_298 rfl 0 rfl ?_
  refine l_iload_n (pc := 299) X dL_law_299 rfl 3 rfl ?_
  refine l_iconst (pc := 300) (v := 4) X dL_law_300 (by decide) ?_
  refine l_arg (pc := 301) (n := 4) X (hin 4 (by decide)) dL_law_301 dL_law_302 ?_
  refine l_i2l (pc := 303) X dL_law_303 ?_
  refine l_ldc2 (pc := 304) X dL_law_304 my_1193 ?_
  refine l_land (pc := 307) X dL_law_307 ?_
  refine l_lor (pc := 308) X dL_law_308 ?_
  refine l_callM (pc := 309) (v := some (.int r)) X [.int (xs (i + 1).toNatClampNeg), .int (xs (i + 2).toNatClampNeg), .long (((xs (i + 3).toNatClampNeg).toInt64 <<< ((32 : Int32).toInt64 &&& 63)) ||| ((xs (i + 4).toNatClampNeg).toInt64 &&& 4294967295))] hVL_38 rfl rfl (Nat.le_of_ble_eq_true rfl) ⟨rfl, rfl, Nat.le_of_ble_eq_true rfl, Nat.le_of_ble_eq_true rfl⟩ dL_law_309 (cc9_write e2) ?_
  refine l_icmp_eq (pc := 312) (tgt := 1159) X dL_law_312 (by decide) ?_
  exact K SC' SM' hB' hR'
set_option maxRecDepth 100000 in
set_option maxHeartbeats 4000000 in
theorem law_5 (X : lX p s m meth c D cA σ1 σ2 tS b Ls xs) {SC SM : St} {kk : Nat} {i : Int32} (hB : RB SC SM) (hR : Rru SC SM kk) (hk : kk < 999) (hin : ∀ n : Nat, n < 10 → vp_in (i + nI n) Ls) (K : ∀ SC' SM' : St, RB SC' SM' → Rru SC' SM' (kk + 1) → Lj p l e s m below meth c D cA σ1 σ2 b 1159 [(0, .ref b), (1, .ref (σ1 0)), (2, .ref (σ2 0)), (3, .int i)] [] SC' SM') : Lj p l e s m below meth c D cA σ1 σ2 b 317 [(0, .ref b), (1, .ref (σ1 0)), (2, .ref (σ2 0)), (3, .int i)] [] SC SM := by
  refine l_aload_n (pc := 317) X dL_law_317 rfl 1 rfl ?_
  refine l_aload_n (pc := 318) X dL_law_318 rfl 0 rfl ?_
  refine l_iload_n (pc := 319) X dL_law_319 rfl 3 rfl ?_
  refine l_iconst (pc := 320) (v := 1) X dL_law_320 (by decide) ?_
  refine l_arg (pc := 321) (n := 1) X (hin 1 (by decide)) dL_law_321 dL_law_322 ?_
  refine l_aload_n (pc := 323) X dL_law_323 rfl 0 rfl ?_
  refine l_iload_n (pc := 324) X dL_law_324 rfl 3 rfl ?_
  refine l_iconst (pc := 325) (v := 2) X dL_law_325 (by decide) ?_
  refine l_arg (pc := 326) (n := 2) X (hin 2 (by decide)) dL_law_326 dL_law_327 ?_
  obtain ⟨r, SC', SM', e1, e2, hB', hR'⟩ : SimR SC SM kk (J8_read SC (xs (i + 1).toNatClampNeg) (xs (i + 2).toNatClampNeg)) (J9_read SM (xs (i + 1).toNatClampNeg) (xs (i + 2).toNatClampNeg)) := (sim_read hB (xs (i + 1).toNatClampNeg) (xs (i + 2).toNatClampNeg)).r hR
  refine l_callC (pc := 328) (v := some (.long r)) X [.int (xs (i + 1).toNatClampNeg), .int (xs (i + 2).toNatClampNeg)] hVL_39 rfl rfl (Nat.le_of_ble_eq_true rfl) ⟨rfl, rfl, Nat.le_of_ble_eq_true rfl, Nat.le_of_ble_eq_true rfl⟩ dL_law_328 (cc8_read e1) ?_
  refine l_aload_n (pc := 331) X dL_law_331 rfl 2 rfl ?_
  refine l_aload_n (pc := 332) X dL_law_332 rfl 0 rfl ?_
  refine l_iload_n (pc := 333) X dL_law_333 rfl 3 rfl ?_
  refine l_iconst (pc := 334) (v := 1) X dL_law_334 (by decide) ?_
  refine l_arg (pc := 335) (n := 1) X (hin 1 (by decide)) dL_law_335 dL_law_336 ?_
  refine l_aload_n (pc := 337) X dL_law_337 rfl 0 rfl ?_
  refine l_iload_n (pc := 338) X dL_law_338 rfl 3 rfl ?_
  refine l_iconst (pc := 339) (v := 2) X dL_law_339 (by decide) ?_
  refine l_arg (pc := 340) (n := 2) X (hin 2 (by decide)) dL_law_340 dL_law_341 ?_
  refine l_callM (pc := 342) (v := some (.long r)) X [.int (xs (i + 1).toNatClampNeg), .int (xs (i + 2).toNatClampNeg)] hVL_43 rfl rfl (Nat.le_of_ble_eq_true rfl) ⟨rfl, rfl, Nat.le_of_ble_eq_true rfl, Nat.le_of_ble_eq_true rfl⟩ dL_law_342 (cc9_read e2) ?_
  refine l_lcmp (pc := 345) X dL_law_345 ?_
  refine l_if_eq (pc := 346) (tgt := 1159) X dL_law_346 (by decide) (fun _ => ?_) (fun h9 => absurd (lg_cmp_r _) h9)
  exact K SC' SM' hB' hR'
set_option maxRecDepth 100000 in
set_option maxHeartbeats 4000000 in
theorem law_6 (X : lX p s m meth c D cA σ1 σ2 tS b Ls xs) {SC SM : St} {kk : Nat} {i : Int32} (hB : RB SC SM) (hR : Rru SC SM kk) (hk : kk < 999) (hin : ∀ n : Nat, n < 10 → vp_in (i + nI n) Ls) (K : ∀ SC' SM' : St, RB SC' SM' → Rru SC' SM' (kk + 1) → Lj p l e s m below meth c D cA σ1 σ2 b 1159 [(0, .ref b), (1, .ref (σ1 0)), (2, .ref (σ2 0)), (3, .int i)] [] SC' SM') : Lj p l e s m below meth c D cA σ1 σ2 b 351 [(0, .ref b), (1, .ref (σ1 0)), (2, .ref (σ2 0)), (3, .int i)] [] SC SM := by
  refine l_aload_n (pc := 351) X dL_law_351 rfl 1 rfl ?_
  refine l_aload_n (pc := 352) X dL_law_352 rfl 0 rfl ?_
  refine l_iload_n (pc := 353) X dL_law_353 rfl 3 rfl ?_
  refine l_iconst (pc := 354) (v := 1) X dL_law_354 (by decide) ?_
  refine l_arg (pc := 355) (n := 1) X (hin 1 (by decide)) dL_law_355 dL_law_356 ?_
  refine l_aload_n (pc := 357) X dL_law_357 rfl 0 rfl ?_
  refine l_iload_n (pc := 358) X dL_law_358 rfl 3 rfl ?_
  refine l_iconst (pc := 359) (v := 2) X dL_law_359 (by decide) ?_
  refine l_arg (pc := 360) (n := 2) X (hin 2 (by decide)) dL_law_360 dL_law_361 ?_
  refine l_aload_n (pc := 362) X dL_law_362 rfl 0 rfl ?_
  refine l_iload_n (pc := 363) X dL_law_363 rfl 3 rfl ?_
  refine l_iconst (pc := 364) (v := 3) X dL_law_364 (by decide) ?_
  refine l_arg (pc := 365) (n := 3) X (hin 3 (by decide)) dL_law_365 dL_law_366 ?_
  refine l_aload_n (pc := 367) X dL_law_367 rfl 0 rfl ?_
  refine l_iload_n (pc := 368) X dL_law_368 rfl 3 rfl ?_
  refine l_iconst (pc := 369) (v := 4) X dL_law_369 (by decide) ?_
  refine l_arg (pc := 370) (n := 4) X (hin 4 (by decide)) dL_law_370 dL_law_371 ?_
  refine l_aload_n (pc := 372) X dL_law_372 rfl 0 rfl ?_
  refine l_iload_n (pc := 373) X dL_law_373 rfl 3 rfl ?_
  refine l_iconst (pc := 374) (v := 5) X dL_law_374 (by decide) ?_
  refine l_arg (pc := 375) (n := 5) X (hin 5 (by decide)) dL_law_375 dL_law_376 ?_
  obtain ⟨r, SC', SM', e1, e2, hB', hR'⟩ : SimR SC SM kk (J8_copy SC (xs (i + 1).toNatClampNeg) (xs (i + 2).toNatClampNeg) (xs (i + 3).toNatClampNeg) (xs (i + 4).toNatClampNeg) (xs (i + 5).toNatClampNeg)) (J9_copy SM (xs (i + 1).toNatClampNeg) (xs (i + 2).toNatClampNeg) (xs (i + 3).toNatClampNeg) (xs (i + 4).toNatClampNeg) (xs (i + 5).toNatClampNeg)) := (sim_copy hB (xs (i + 1).toNatClampNeg) (xs (i + 2).toNatClampNeg) (xs (i + 3).toNatClampNeg) (xs (i + 4).toNatClampNeg) (xs (i + 5).toNatClampNeg)).r hR
  refine l_callC (pc := 377) (v := some (.int r)) X [.int (xs (i + 1).toNatClampNeg), .int (xs (i + 2).toNatClampNeg), .int (xs (i + 3).toNatClampNeg), .int (xs (i + 4).toNatClampNeg), .int (xs (i + 5).toNatClampNeg)] hVL_44 rfl rfl (Nat.le_of_ble_eq_true rfl) ⟨rfl, rfl, Nat.le_of_ble_eq_true rfl, Nat.le_of_ble_eq_true rfl⟩ dL_law_377 (cc8_copy e1) ?_
  refine l_aload_n (pc := 380) X dL_law_380 rfl 2 rfl ?_
  refine l_aload_n (pc := 381) X dL_law_381 rfl 0 rfl ?_
  refine l_iload_n (pc := 382) X dL_law_382 rfl 3 rfl ?_
  refine l_iconst (pc := 383) (v := 1) X dL_law_383 (by decide) ?_
  refine l_arg (pc := 384) (n := 1) X (hin 1 (by decide)) dL_law_384 dL_law_385 ?_
  refine l_aload_n (pc := 386) X dL_law_386 rfl 0 rfl ?_
  refine l_iload_n (pc := 387) X dL_law_387 rfl 3 rfl ?_
  refine l_iconst (pc := 388) (v := 2) X dL_law_388 (by decide) ?_
  refine l_arg (pc := 389) (n := 2) X (hin 2 (by decide)) dL_law_389 dL_law_390 ?_
  refine l_aload_n (pc := 391) X dL_law_391 rfl 0 rfl ?_
  refine l_iload_n (pc := 392) X dL_law_392 rfl 3 rfl ?_
  refine l_iconst (pc := 393) (v := 3) X dL_law_393 (by decide) ?_
  refine l_arg (pc := 394) (n := 3) X (hin 3 (by decide)) dL_law_394 dL_law_395 ?_
  refine l_aload_n (pc := 396) X dL_law_396 rfl 0 rfl ?_
  refine l_iload_n (pc := 397) X dL_law_397 rfl 3 rfl ?_
  refine l_iconst (pc := 398) (v := 4) X dL_law_398 (by decide) ?_
  refine l_arg (pc := 399) (n := 4) X (hin 4 (by decide)) dL_law_399 dL_law_400 ?_
  refine l_aload_n (pc := 401) X dL_law_401 rfl 0 rfl ?_
  refine l_iload_n (pc := 402) X dL_law_402 rfl 3 rfl ?_
  refine l_iconst (pc := 403) (v := 5) X dL_law_403 (by decide) ?_
  refine l_arg (pc := 404) (n := 5) X (hin 5 (by decide)) dL_law_404 dL_law_405 ?_
  refine l_callM (pc := 406) (v := some (.int r)) X [.int (xs (i + 1).toNatClampNeg), .int (xs (i + 2).toNatClampNeg), .int (xs (i + 3).toNatClampNeg), .int (xs (i + 4).toNatClampNeg), .int (xs (i + 5).toNatClampNeg)] hVL_48 rfl rfl (Nat.le_of_ble_eq_true rfl) ⟨rfl, rfl, Nat.le_of_ble_eq_true rfl, Nat.le_of_ble_eq_true rfl⟩ dL_law_406 (cc9_copy e2) ?_
  refine l_icmp_eq (pc := 409) (tgt := 1159) X dL_law_409 (by decide) ?_
  exact K SC' SM' hB' hR'
set_option maxRecDepth 100000 in
set_option maxHeartbeats 4000000 in
theorem law_7 (X : lX p s m meth c D cA σ1 σ2 tS b Ls xs) {SC SM : St} {kk : Nat} {i : Int32} (hB : RB SC SM) (hR : Rru SC SM kk) (hk : kk < 999) (hin : ∀ n : Nat, n < 10 → vp_in (i + nI n) Ls) (K : ∀ SC' SM' : St, RB SC' SM' → Rru SC' SM' (kk + 1) → Lj p l e s m below meth c D cA σ1 σ2 b 1159 [(0, .ref b), (1, .ref (σ1 0)), (2, .ref (σ2 0)), (3, .int i)] [] SC' SM') : Lj p l e s m below meth c D cA σ1 σ2 b 414 [(0, .ref b), (1, .ref (σ1 0)), (2, .ref (σ2 0)), (3, .int i)] [] SC SM := by
  refine l_aload_n (pc := 414) X dL_law_414 rfl 1 rfl ?_
  refine l_aload_n (pc := 415) X dL_law_415 rfl 0 rfl ?_
  refine l_iload_n (pc := 416) X dL_law_416 rfl 3 rfl ?_
  refine l_iconst (pc := 417) (v := 1) X dL_law_417 (by decide) ?_
  refine l_arg (pc := 418) (n := 1) X (hin 1 (by decide)) dL_law_418 dL_law_419 ?_
  obtain ⟨r, SC', SM', e1, e2, hB', hR'⟩ : SimR SC SM kk (J8_drop SC (xs (i + 1).toNatClampNeg)) (J9_drop SM (xs (i + 1).toNatClampNeg)) := (sim_drop hB (xs (i + 1).toNatClampNeg)).r hR
  refine l_callC (pc := 420) (v := some (.int r)) X [.int (xs (i + 1).toNatClampNeg)] hVL_49 rfl rfl (Nat.le_of_ble_eq_true rfl) ⟨rfl, rfl, Nat.le_of_ble_eq_true rfl, Nat.le_of_ble_eq_true rfl⟩ dL_law_420 (cc8_drop e1) ?_
  refine l_aload_n (pc := 423) X dL_law_423 rfl 2 rfl ?_
  refine l_aload_n (pc := 424) X dL_law_424 rfl 0 rfl ?_
  refine l_iload_n (pc := 425) X dL_law_425 rfl 3 rfl ?_
  refine l_iconst (pc := 426) (v := 1) X dL_law_426 (by decide) ?_
  refine l_arg (pc := 427) (n := 1) X (hin 1 (by decide)) dL_law_427 dL_law_428 ?_
  refine l_callM (pc := 429) (v := some (.int r)) X [.int (xs (i + 1).toNatClampNeg)] hVL_53 rfl rfl (Nat.le_of_ble_eq_true rfl) ⟨rfl, rfl, Nat.le_of_ble_eq_true rfl, Nat.le_of_ble_eq_true rfl⟩ dL_law_429 (cc9_drop e2) ?_
  refine l_icmp_eq (pc := 432) (tgt := 1159) X dL_law_432 (by decide) ?_
  exact K SC' SM' hB' hR'
set_option maxRecDepth 100000 in
set_option maxHeartbeats 4000000 in
theorem law_8 (X : lX p s m meth c D cA σ1 σ2 tS b Ls xs) {SC SM : St} {kk : Nat} {i : Int32} (hB : RB SC SM) (hR : Rru SC SM kk) (hk : kk < 999) (hin : ∀ n : Nat, n < 10 → vp_in (i + nI n) Ls) (K : ∀ SC' SM' : St, RB SC' SM' → Rru SC' SM' (kk + 1) → Lj p l e s m below meth c D cA σ1 σ2 b 1159 [(0, .ref b), (1, .ref (σ1 0)), (2, .ref (σ2 0)), (3, .int i)] [] SC' SM') : Lj p l e s m below meth c D cA σ1 σ2 b 437 [(0, .ref b), (1, .ref (σ1 0)), (2, .ref (σ2 0)), (3, .int i)] [] SC SM := by
  refine l_aload_n (pc := 437) X dL_law_437 rfl 1 rfl ?_
  obtain ⟨r, SC', SM', e1, e2, hB', hR'⟩ : SimR SC SM kk (J8_none SC) (J9_none SM) := (sim_none hB).r hR
  refine l_callC (pc := 438) (v := some (.int r)) X [] hVL_54 rfl rfl (Nat.le_of_ble_eq_true rfl) ⟨rfl, rfl, Nat.le_of_ble_eq_true rfl, Nat.le_of_ble_eq_true rfl⟩ dL_law_438 (cc8_none e1) ?_
  refine l_aload_n (pc := 441) X dL_law_441 rfl 2 rfl ?_
  refine l_callM (pc := 442) (v := some (.int r)) X [] hVL_58 rfl rfl (Nat.le_of_ble_eq_true rfl) ⟨rfl, rfl, Nat.le_of_ble_eq_true rfl, Nat.le_of_ble_eq_true rfl⟩ dL_law_442 (cc9_none e2) ?_
  refine l_icmp_eq (pc := 445) (tgt := 1159) X dL_law_445 (by decide) ?_
  exact K SC' SM' hB' hR'
set_option maxRecDepth 100000 in
set_option maxHeartbeats 4000000 in
theorem law_9 (X : lX p s m meth c D cA σ1 σ2 tS b Ls xs) {SC SM : St} {kk : Nat} {i : Int32} (hB : RB SC SM) (hR : Rru SC SM kk) (hk : kk < 999) (hin : ∀ n : Nat, n < 10 → vp_in (i + nI n) Ls) (K : ∀ SC' SM' : St, RB SC' SM' → Rru SC' SM' (kk + 1) → Lj p l e s m below meth c D cA σ1 σ2 b 1159 [(0, .ref b), (1, .ref (σ1 0)), (2, .ref (σ2 0)), (3, .int i)] [] SC' SM') : Lj p l e s m below meth c D cA σ1 σ2 b 450 [(0, .ref b), (1, .ref (σ1 0)), (2, .ref (σ2 0)), (3, .int i)] [] SC SM := by
  refine l_aload_n (pc := 450) X dL_law_450 rfl 1 rfl ?_
  refine l_aload_n (pc := 451) X dL_law_451 rfl 0 rfl ?_
  refine l_iload_n (pc := 452) X dL_law_452 rfl 3 rfl ?_
  refine l_iconst (pc := 453) (v := 1) X dL_law_453 (by decide) ?_
  refine l_arg (pc := 454) (n := 1) X (hin 1 (by decide)) dL_law_454 dL_law_455 ?_
  refine l_aload_n (pc := 456) X dL_law_456 rfl 0 rfl ?_
  refine l_iload_n (pc := 457) X dL_law_457 rfl 3 rfl ?_
  refine l_iconst (pc := 458) (v := 2) X dL_law_458 (by decide) ?_
  refine l_arg (pc := 459) (n := 2) X (hin 2 (by decide)) dL_law_459 dL_law_460 ?_
  refine l_aload_n (pc := 461) X dL_law_461 rfl 0 rfl ?_
  refine l_iload_n (pc := 462) X dL_law_462 rfl 3 rfl ?_
  refine l_iconst (pc := 463) (v := 3) X dL_law_463 (by decide) ?_
  refine l_arg (pc := 464) (n := 3) X (hin 3 (by decide)) dL_law_464 dL_law_465 ?_
  obtain ⟨r, SC', SM', e1, e2, hB', hR'⟩ : SimR SC SM kk (J8_numbers SC (xs (i + 1).toNatClampNeg) (xs (i + 2).toNatClampNeg) (xs (i + 3).toNatClampNeg)) (J9_numbers SM (xs (i + 1).toNatClampNeg) (xs (i + 2).toNatClampNeg) (xs (i + 3).toNatClampNeg)) := (sim_numbers hB (xs (i + 1).toNatClampNeg) (xs (i + 2).toNatClampNeg) (xs (i + 3).toNatClampNeg)).r hR
  refine l_callC (pc := 466) (v := some (.int r)) X [.int (xs (i + 1).toNatClampNeg), .int (xs (i + 2).toNatClampNeg), .int (xs (i + 3).toNatClampNeg)] hVL_59 rfl rfl (Nat.le_of_ble_eq_true rfl) ⟨rfl, rfl, Nat.le_of_ble_eq_true rfl, Nat.le_of_ble_eq_true rfl⟩ dL_law_466 (cc8_numbers e1) ?_
  refine l_aload_n (pc := 469) X dL_law_469 rfl 2 rfl ?_
  refine l_aload_n (pc := 470) X dL_law_470 rfl 0 rfl ?_
  refine l_iload_n (pc := 471) X dL_law_471 rfl 3 rfl ?_
  refine l_iconst (pc := 472) (v := 1) X dL_law_472 (by decide) ?_
  refine l_arg (pc := 473) (n := 1) X (hin 1 (by decide)) dL_law_473 dL_law_474 ?_
  refine l_aload_n (pc := 475) X dL_law_475 rfl 0 rfl ?_
  refine l_iload_n (pc := 476) X dL_law_476 rfl 3 rfl ?_
  refine l_iconst (pc := 477) (v := 2) X dL_law_477 (by decide) ?_
  refine l_arg (pc := 478) (n := 2) X (hin 2 (by decide)) dL_law_478 dL_law_479 ?_
  refine l_aload_n (pc := 480) X dL_law_480 rfl 0 rfl ?_
  refine l_iload_n (pc := 481) X dL_law_481 rfl 3 rfl ?_
  refine l_iconst (pc := 482) (v := 3) X dL_law_482 (by decide) ?_
  refine l_arg (pc := 483) (n := 3) X (hin 3 (by decide)) dL_law_483 dL_law_484 ?_
  refine l_callM (pc := 485) (v := some (.int r)) X [.int (xs (i + 1).toNatClampNeg), .int (xs (i + 2).toNatClampNeg), .int (xs (i + 3).toNatClampNeg)] hVL_62 rfl rfl (Nat.le_of_ble_eq_true rfl) ⟨rfl, rfl, Nat.le_of_ble_eq_true rfl, Nat.le_of_ble_eq_true rfl⟩ dL_law_485 (cc9_numbers e2) ?_
  refine l_icmp_eq (pc := 488) (tgt := 1159) X dL_law_488 (by decide) ?_
  exact K SC' SM' hB' hR'
set_option maxRecDepth 100000 in
set_option maxHeartbeats 4000000 in
theorem law_10 (X : lX p s m meth c D cA σ1 σ2 tS b Ls xs) {SC SM : St} {kk : Nat} {i : Int32} (hB : RB SC SM) (hR : Rru SC SM kk) (hk : kk < 999) (hin : ∀ n : Nat, n < 10 → vp_in (i + nI n) Ls) (K : ∀ SC' SM' : St, RB SC' SM' → Rru SC' SM' (kk + 1) → Lj p l e s m below meth c D cA σ1 σ2 b 1159 [(0, .ref b), (1, .ref (σ1 0)), (2, .ref (σ2 0)), (3, .int i)] [] SC' SM') : Lj p l e s m below meth c D cA σ1 σ2 b 493 [(0, .ref b), (1, .ref (σ1 0)), (2, .ref (σ2 0)), (3, .int i)] [] SC SM := by
  refine l_aload_n (pc := 493) X dL_law_493 rfl 1 rfl ?_
  refine l_aload_n (pc := 494) X dL_law_494 rfl 0 rfl ?_
  refine l_iload_n (pc := 495) X dL_law_495 rfl 3 rfl ?_
  refine l_iconst (pc := 496) (v := 1) X dL_law_496 (by decide) ?_
  refine l_arg (pc := 497) (n := 1) X (hin 1 (by decide)) dL_law_497 dL_law_498 ?_
  obtain ⟨r, SC', SM', e1, e2, hB', hR'⟩ : SimR SC SM kk (J8_gap SC (xs (i + 1).toNatClampNeg)) (J9_gap SM (xs (i + 1).toNatClampNeg)) := (sim_gap hB (xs (i + 1).toNatClampNeg)).r hR
  refine l_callC (pc := 499) (v := some (.int r)) X [.int (xs (i + 1).toNatClampNeg)] hVL_63 rfl rfl (Nat.le_of_ble_eq_true rfl) ⟨rfl, rfl, Nat.le_of_ble_eq_true rfl, Nat.le_of_ble_eq_true rfl⟩ dL_law_499 (cc8_gap e1) ?_
  refine l_aload_n (pc := 502) X dL_law_502 rfl 2 rfl ?_
  refine l_aload_n (pc := 503) X dL_law_503 rfl 0 rfl ?_
  refine l_iload_n (pc := 504) X dL_law_504 rfl 3 rfl ?_
  refine l_iconst (pc := 505) (v := 1) X dL_law_505 (by decide) ?_
  refine l_arg (pc := 506) (n := 1) X (hin 1 (by decide)) dL_law_506 dL_law_507 ?_
  refine l_callM (pc := 508) (v := some (.int r)) X [.int (xs (i + 1).toNatClampNeg)] hVL_66 rfl rfl (Nat.le_of_ble_eq_true rfl) ⟨rfl, rfl, Nat.le_of_ble_eq_true rfl, Nat.le_of_ble_eq_true rfl⟩ dL_law_508 (cc9_gap e2) ?_
  refine l_icmp_eq (pc := 511) (tgt := 1159) X dL_law_511 (by decide) ?_
  exact K SC' SM' hB' hR'
set_option maxRecDepth 100000 in
set_option maxHeartbeats 4000000 in
theorem law_11 (X : lX p s m meth c D cA σ1 σ2 tS b Ls xs) {SC SM : St} {kk : Nat} {i : Int32} (hB : RB SC SM) (hR : Rru SC SM kk) (hk : kk < 999) (hin : ∀ n : Nat, n < 10 → vp_in (i + nI n) Ls) (K : ∀ SC' SM' : St, RB SC' SM' → Rru SC' SM' (kk + 1) → Lj p l e s m below meth c D cA σ1 σ2 b 1159 [(0, .ref b), (1, .ref (σ1 0)), (2, .ref (σ2 0)), (3, .int i)] [] SC' SM') : Lj p l e s m below meth c D cA σ1 σ2 b 516 [(0, .ref b), (1, .ref (σ1 0)), (2, .ref (σ2 0)), (3, .int i)] [] SC SM := by
  refine l_aload_n (pc := 516) X dL_law_516 rfl 1 rfl ?_
  refine l_aload_n (pc := 517) X dL_law_517 rfl 0 rfl ?_
  refine l_iload_n (pc := 518) X dL_law_518 rfl 3 rfl ?_
  refine l_iconst (pc := 519) (v := 1) X dL_law_519 (by decide) ?_
  refine l_arg (pc := 520) (n := 1) X (hin 1 (by decide)) dL_law_520 dL_law_521 ?_
  refine l_aload_n (pc := 522) X dL_law_522 rfl 0 rfl ?_
  refine l_iload_n (pc := 523) X dL_law_523 rfl 3 rfl ?_
  refine l_iconst (pc := 524) (v := 2) X dL_law_524 (by decide) ?_
  refine l_arg (pc := 525) (n := 2) X (hin 2 (by decide)) dL_law_525 dL_law_526 ?_
  refine l_aload_n (pc := 527) X dL_law_527 rfl 0 rfl ?_
  refine l_iload_n (pc := 528) X dL_law_528 rfl 3 rfl ?_
  refine l_iconst (pc := 529) (v := 3) X dL_law_529 (by decide) ?_
  refine l_arg (pc := 530) (n := 3) X (hin 3 (by decide)) dL_law_530 dL_law_531 ?_
  obtain ⟨r, SC', SM', e1, e2, hB', hR'⟩ : SimR SC SM kk (J8_table SC (xs (i + 1).toNatClampNeg) (xs (i + 2).toNatClampNeg) (xs (i + 3).toNatClampNeg)) (J9_table SM (xs (i + 1).toNatClampNeg) (xs (i + 2).toNatClampNeg) (xs (i + 3).toNatClampNeg)) := (sim_table hB (xs (i + 1).toNatClampNeg) (xs (i + 2).toNatClampNeg) (xs (i + 3).toNatClampNeg)).r hR
  refine l_callC (pc := 532) (v := some (.int r)) X [.int (xs (i + 1).toNatClampNeg), .int (xs (i + 2).toNatClampNeg), .int (xs (i + 3).toNatClampNeg)] hVL_67 rfl rfl (Nat.le_of_ble_eq_true rfl) ⟨rfl, rfl, Nat.le_of_ble_eq_true rfl, Nat.le_of_ble_eq_true rfl⟩ dL_law_532 (cc8_table e1) ?_
  refine l_aload_n (pc := 535) X dL_law_535 rfl 2 rfl ?_
  refine l_aload_n (pc := 536) X dL_law_536 rfl 0 rfl ?_
  refine l_iload_n (pc := 537) X dL_law_537 rfl 3 rfl ?_
  refine l_iconst (pc := 538) (v := 1) X dL_law_538 (by decide) ?_
  refine l_arg (pc := 539) (n := 1) X (hin 1 (by decide)) dL_law_539 dL_law_540 ?_
  refine l_aload_n (pc := 541) X dL_law_541 rfl 0 rfl ?_
  refine l_iload_n (pc := 542) X dL_law_542 rfl 3 rfl ?_
  refine l_iconst (pc := 543) (v := 2) X dL_law_543 (by decide) ?_
  refine l_arg (pc := 544) (n := 2) X (hin 2 (by decide)) dL_law_544 dL_law_545 ?_
  refine l_aload_n (pc := 546) X dL_law_546 rfl 0 rfl ?_
  refine l_iload_n (pc := 547) X dL_law_547 rfl 3 rfl ?_
  refine l_iconst (pc := 548) (v := 3) X dL_law_548 (by decide) ?_
  refine l_arg (pc := 549) (n := 3) X (hin 3 (by decide)) dL_law_549 dL_law_550 ?_
  refine l_callM (pc := 551) (v := some (.int r)) X [.int (xs (i + 1).toNatClampNeg), .int (xs (i + 2).toNatClampNeg), .int (xs (i + 3).toNatClampNeg)] hVL_70 rfl rfl (Nat.le_of_ble_eq_true rfl) ⟨rfl, rfl, Nat.le_of_ble_eq_true rfl, Nat.le_of_ble_eq_true rfl⟩ dL_law_551 (cc9_table e2) ?_
  refine l_icmp_eq (pc := 554) (tgt := 1159) X dL_law_554 (by decide) ?_
  exact K SC' SM' hB' hR'
set_option maxRecDepth 100000 in
set_option maxHeartbeats 4000000 in
theorem law_12 (X : lX p s m meth c D cA σ1 σ2 tS b Ls xs) {SC SM : St} {kk : Nat} {i : Int32} (hB : RB SC SM) (hR : Rru SC SM kk) (hk : kk < 999) (hin : ∀ n : Nat, n < 10 → vp_in (i + nI n) Ls) (K : ∀ SC' SM' : St, RB SC' SM' → Rru SC' SM' (kk + 1) → Lj p l e s m below meth c D cA σ1 σ2 b 1159 [(0, .ref b), (1, .ref (σ1 0)), (2, .ref (σ2 0)), (3, .int i)] [] SC' SM') : Lj p l e s m below meth c D cA σ1 σ2 b 559 [(0, .ref b), (1, .ref (σ1 0)), (2, .ref (σ2 0)), (3, .int i)] [] SC SM := by
  refine l_aload_n (pc := 559) X dL_law_559 rfl 1 rfl ?_
  refine l_aload_n (pc := 560) X dL_law_560 rfl 0 rfl ?_
  refine l_iload_n (pc := 561) X dL_law_561 rfl 3 rfl ?_
  refine l_iconst (pc := 562) (v := 1) X dL_law_562 (by decide) ?_
  refine l_arg (pc := 563) (n := 1) X (hin 1 (by decide)) dL_law_563 dL_law_564 ?_
  refine l_if_eq (pc := 565) (tgt := 572) X dL_law_565 (by decide) (fun hz => ?_) (fun hz => ?_)
  · refine l_iconst (pc := 572) (v := 0) X dL_law_572 (by decide) ?_
    refine l_aload_n (pc := 573) X dL_law_573 rfl 0 rfl ?_
    refine l_iload_n (pc := 574) X dL_law_574 rfl 3 rfl ?_
    refine l_iconst (pc := 575) (v := 2) X dL_law_575 (by decide) ?_
    refine l_arg (pc := 576) (n := 2) X (hin 2 (by decide)) dL_law_576 dL_law_577 ?_
    obtain ⟨r, SC', SM', e1, e2, hB', hR'⟩ : SimR SC SM kk (J8_takes SC 0 (xs (i + 2).toNatClampNeg)) (J9_takes SM 0 (xs (i + 2).toNatClampNeg)) := (sim_takes hB 0 (xs (i + 2).toNatClampNeg)).r hR
    refine l_callC (pc := 578) (v := some (.int r)) X [.int 0, .int (xs (i + 2).toNatClampNeg)] hVL_71 rfl rfl (Nat.le_of_ble_eq_true rfl) ⟨rfl, rfl, Nat.le_of_ble_eq_true rfl, Nat.le_of_ble_eq_true rfl⟩ dL_law_578 (cc8_takes e1) ?_
    refine l_aload_n (pc := 581) X dL_law_581 rfl 2 rfl ?_
    refine l_aload_n (pc := 582) X dL_law_582 rfl 0 rfl ?_
    refine l_iload_n (pc := 583) X dL_law_583 rfl 3 rfl ?_
    refine l_iconst (pc := 584) (v := 1) X dL_law_584 (by decide) ?_
    refine l_arg (pc := 585) (n := 1) X (hin 1 (by decide)) dL_law_585 dL_law_586 ?_
    refine l_if_eq (pc := 587) (tgt := 594) X dL_law_587 (by decide) (fun _ => ?_) (fun h9 => absurd hz h9)
    refine l_iconst (pc := 594) (v := 0) X dL_law_594 (by decide) ?_
    refine l_aload_n (pc := 595) X dL_law_595 rfl 0 rfl ?_
    refine l_iload_n (pc := 596) X dL_law_596 rfl 3 rfl ?_
    refine l_iconst (pc := 597) (v := 2) X dL_law_597 (by decide) ?_
    refine l_arg (pc := 598) (n := 2) X (hin 2 (by decide)) dL_law_598 dL_law_599 ?_
    refine l_callM (pc := 600) (v := some (.int r)) X [.int 0, .int (xs (i + 2).toNatClampNeg)] hVL_75 rfl rfl (Nat.le_of_ble_eq_true rfl) ⟨rfl, rfl, Nat.le_of_ble_eq_true rfl, Nat.le_of_ble_eq_true rfl⟩ dL_law_600 (cc9_takes e2) ?_
    refine l_icmp_eq (pc := 603) (tgt := 1159) X dL_law_603 (by decide) ?_
    exact K SC' SM' hB' hR'
  · refine l_iconst (pc := 568) (v := 1) X dL_law_568 (by decide) ?_
    refine l_goto (pc := 569) (tgt := 573) X dL_law_569 (by decide) ?_
    refine l_aload_n (pc := 573) X dL_law_573 rfl 0 rfl ?_
    refine l_iload_n (pc := 574) X dL_law_574 rfl 3 rfl ?_
    refine l_iconst (pc := 575) (v := 2) X dL_law_575 (by decide) ?_
    refine l_arg (pc := 576) (n := 2) X (hin 2 (by decide)) dL_law_576 dL_law_577 ?_
    obtain ⟨r, SC', SM', e1, e2, hB', hR'⟩ : SimR SC SM kk (J8_takes SC 1 (xs (i + 2).toNatClampNeg)) (J9_takes SM 1 (xs (i + 2).toNatClampNeg)) := (sim_takes hB 1 (xs (i + 2).toNatClampNeg)).r hR
    refine l_callC (pc := 578) (v := some (.int r)) X [.int 1, .int (xs (i + 2).toNatClampNeg)] hVL_71 rfl rfl (Nat.le_of_ble_eq_true rfl) ⟨rfl, rfl, Nat.le_of_ble_eq_true rfl, Nat.le_of_ble_eq_true rfl⟩ dL_law_578 (cc8_takes e1) ?_
    refine l_aload_n (pc := 581) X dL_law_581 rfl 2 rfl ?_
    refine l_aload_n (pc := 582) X dL_law_582 rfl 0 rfl ?_
    refine l_iload_n (pc := 583) X dL_law_583 rfl 3 rfl ?_
    refine l_iconst (pc := 584) (v := 1) X dL_law_584 (by decide) ?_
    refine l_arg (pc := 585) (n := 1) X (hin 1 (by decide)) dL_law_585 dL_law_586 ?_
    refine l_if_eq (pc := 587) (tgt := 594) X dL_law_587 (by decide) (fun h9 => absurd h9 hz) (fun _ => ?_)
    refine l_iconst (pc := 590) (v := 1) X dL_law_590 (by decide) ?_
    refine l_goto (pc := 591) (tgt := 595) X dL_law_591 (by decide) ?_
    refine l_aload_n (pc := 595) X dL_law_595 rfl 0 rfl ?_
    refine l_iload_n (pc := 596) X dL_law_596 rfl 3 rfl ?_
    refine l_iconst (pc := 597) (v := 2) X dL_law_597 (by decide) ?_
    refine l_arg (pc := 598) (n := 2) X (hin 2 (by decide)) dL_law_598 dL_law_599 ?_
    refine l_callM (pc := 600) (v := some (.int r)) X [.int 1, .int (xs (i + 2).toNatClampNeg)] hVL_75 rfl rfl (Nat.le_of_ble_eq_true rfl) ⟨rfl, rfl, Nat.le_of_ble_eq_true rfl, Nat.le_of_ble_eq_true rfl⟩ dL_law_600 (cc9_takes e2) ?_
    refine l_icmp_eq (pc := 603) (tgt := 1159) X dL_law_603 (by decide) ?_
    exact K SC' SM' hB' hR'
set_option maxRecDepth 100000 in
set_option maxHeartbeats 4000000 in
theorem law_13 (X : lX p s m meth c D cA σ1 σ2 tS b Ls xs) {SC SM : St} {kk : Nat} {i : Int32} (hB : RB SC SM) (hR : Rru SC SM kk) (hk : kk < 999) (hin : ∀ n : Nat, n < 10 → vp_in (i + nI n) Ls) (K : ∀ SC' SM' : St, RB SC' SM' → Rru SC' SM' (kk + 1) → Lj p l e s m below meth c D cA σ1 σ2 b 1159 [(0, .ref b), (1, .ref (σ1 0)), (2, .ref (σ2 0)), (3, .int i)] [] SC' SM') : Lj p l e s m below meth c D cA σ1 σ2 b 608 [(0, .ref b), (1, .ref (σ1 0)), (2, .ref (σ2 0)), (3, .int i)] [] SC SM := by
  refine l_aload_n (pc := 608) X dL_law_608 rfl 1 rfl ?_
  refine l_aload_n (pc := 609) X dL_law_609 rfl 0 rfl ?_
  refine l_iload_n (pc := 610) X dL_law_610 rfl 3 rfl ?_
  refine l_iconst (pc := 611) (v := 1) X dL_law_611 (by decide) ?_
  refine l_arg (pc := 612) (n := 1) X (hin 1 (by decide)) dL_law_612 dL_law_613 ?_
  refine l_aload_n (pc := 614) X dL_law_614 rfl 0 rfl ?_
  refine l_iload_n (pc := 615) X dL_law_615 rfl 3 rfl ?_
  refine l_iconst (pc := 616) (v := 2) X dL_law_616 (by decide) ?_
  refine l_arg (pc := 617) (n := 2) X (hin 2 (by decide)) dL_law_617 dL_law_618 ?_
  refine l_aload_n (pc := 619) X dL_law_619 rfl 0 rfl ?_
  refine l_iload_n (pc := 620) X dL_law_620 rfl 3 rfl ?_
  refine l_iconst (pc := 621) (v := 3) X dL_law_621 (by decide) ?_
  refine l_arg (pc := 622) (n := 3) X (hin 3 (by decide)) dL_law_622 dL_law_623 ?_
  obtain ⟨r, SC', SM', e1, e2, hB', hR'⟩ : SimR SC SM kk (J8_odds SC (xs (i + 1).toNatClampNeg) (xs (i + 2).toNatClampNeg) (xs (i + 3).toNatClampNeg)) (J9_odds SM (xs (i + 1).toNatClampNeg) (xs (i + 2).toNatClampNeg) (xs (i + 3).toNatClampNeg)) := (sim_odds hB (xs (i + 1).toNatClampNeg) (xs (i + 2).toNatClampNeg) (xs (i + 3).toNatClampNeg)).r hR
  refine l_callC (pc := 624) (v := some (.int r)) X [.int (xs (i + 1).toNatClampNeg), .int (xs (i + 2).toNatClampNeg), .int (xs (i + 3).toNatClampNeg)] hVL_76 rfl rfl (Nat.le_of_ble_eq_true rfl) ⟨rfl, rfl, Nat.le_of_ble_eq_true rfl, Nat.le_of_ble_eq_true rfl⟩ dL_law_624 (cc8_odds e1) ?_
  refine l_aload_n (pc := 627) X dL_law_627 rfl 2 rfl ?_
  refine l_aload_n (pc := 628) X dL_law_628 rfl 0 rfl ?_
  refine l_iload_n (pc := 629) X dL_law_629 rfl 3 rfl ?_
  refine l_iconst (pc := 630) (v := 1) X dL_law_630 (by decide) ?_
  refine l_arg (pc := 631) (n := 1) X (hin 1 (by decide)) dL_law_631 dL_law_632 ?_
  refine l_aload_n (pc := 633) X dL_law_633 rfl 0 rfl ?_
  refine l_iload_n (pc := 634) X dL_law_634 rfl 3 rfl ?_
  refine l_iconst (pc := 635) (v := 2) X dL_law_635 (by decide) ?_
  refine l_arg (pc := 636) (n := 2) X (hin 2 (by decide)) dL_law_636 dL_law_637 ?_
  refine l_aload_n (pc := 638) X dL_law_638 rfl 0 rfl ?_
  refine l_iload_n (pc := 639) X dL_law_639 rfl 3 rfl ?_
  refine l_iconst (pc := 640) (v := 3) X dL_law_640 (by decide) ?_
  refine l_arg (pc := 641) (n := 3) X (hin 3 (by decide)) dL_law_641 dL_law_642 ?_
  refine l_callM (pc := 643) (v := some (.int r)) X [.int (xs (i + 1).toNatClampNeg), .int (xs (i + 2).toNatClampNeg), .int (xs (i + 3).toNatClampNeg)] hVL_80 rfl rfl (Nat.le_of_ble_eq_true rfl) ⟨rfl, rfl, Nat.le_of_ble_eq_true rfl, Nat.le_of_ble_eq_true rfl⟩ dL_law_643 (cc9_odds e2) ?_
  refine l_icmp_eq (pc := 646) (tgt := 1159) X dL_law_646 (by decide) ?_
  exact K SC' SM' hB' hR'
set_option maxRecDepth 100000 in
set_option maxHeartbeats 4000000 in
theorem law_14 (X : lX p s m meth c D cA σ1 σ2 tS b Ls xs) {SC SM : St} {kk : Nat} {i : Int32} (hB : RB SC SM) (hR : Rru SC SM kk) (hk : kk < 999) (hin : ∀ n : Nat, n < 10 → vp_in (i + nI n) Ls) (K : ∀ SC' SM' : St, RB SC' SM' → Rru SC' SM' (kk + 1) → Lj p l e s m below meth c D cA σ1 σ2 b 1159 [(0, .ref b), (1, .ref (σ1 0)), (2, .ref (σ2 0)), (3, .int i)] [] SC' SM') : Lj p l e s m below meth c D cA σ1 σ2 b 651 [(0, .ref b), (1, .ref (σ1 0)), (2, .ref (σ2 0)), (3, .int i)] [] SC SM := by
  refine l_aload_n (pc := 651) X dL_law_651 rfl 1 rfl ?_
  refine l_aload_n (pc := 652) X dL_law_652 rfl 0 rfl ?_
  refine l_iload_n (pc := 653) X dL_law_653 rfl 3 rfl ?_
  refine l_iconst (pc := 654) (v := 1) X dL_law_654 (by decide) ?_
  refine l_arg (pc := 655) (n := 1) X (hin 1 (by decide)) dL_law_655 dL_law_656 ?_
  refine l_aload_n (pc := 657) X dL_law_657 rfl 0 rfl ?_
  refine l_iload_n (pc := 658) X dL_law_658 rfl 3 rfl ?_
  refine l_iconst (pc := 659) (v := 2) X dL_law_659 (by decide) ?_
  refine l_arg (pc := 660) (n := 2) X (hin 2 (by decide)) dL_law_660 dL_law_661 ?_
  refine l_aload_n (pc := 662) X dL_law_662 rfl 0 rfl ?_
  refine l_iload_n (pc := 663) X dL_law_663 rfl 3 rfl ?_
  refine l_iconst (pc := 664) (v := 3) X dL_law_664 (by decide) ?_
  refine l_arg (pc := 665) (n := 3) X (hin 3 (by decide)) dL_law_665 dL_law_666 ?_
  refine l_aload_n (pc := 667) X dL_law_667 rfl 0 rfl ?_
  refine l_iload_n (pc := 668) X dL_law_668 rfl 3 rfl ?_
  refine l_iconst (pc := 669) (v := 4) X dL_law_669 (by decide) ?_
  refine l_arg (pc := 670) (n := 4) X (hin 4 (by decide)) dL_law_670 dL_law_671 ?_
  refine l_aload_n (pc := 672) X dL_law_672 rfl 0 rfl ?_
  refine l_iload_n (pc := 673) X dL_law_673 rfl 3 rfl ?_
  refine l_iconst (pc := 674) (v := 5) X dL_law_674 (by decide) ?_
  refine l_arg (pc := 675) (n := 5) X (hin 5 (by decide)) dL_law_675 dL_law_676 ?_
  refine l_aload_n (pc := 677) X dL_law_677 rfl 0 rfl ?_
  refine l_iload_n (pc := 678) X dL_law_678 rfl 3 rfl ?_
  refine l_bipush (pc := 679) (v := 6) X dL_law_679 (by decide) ?_
  refine l_arg (pc := 681) (n := 6) X (hin 6 (by decide)) dL_law_681 dL_law_682 ?_
  refine l_aload_n (pc := 683) X dL_law_683 rfl 0 rfl ?_
  refine l_iload_n (pc := 684) X dL_law_684 rfl 3 rfl ?_
  refine l_bipush (pc := 685) (v := 7) X dL_law_685 (by decide) ?_
  refine l_arg (pc := 687) (n := 7) X (hin 7 (by decide)) dL_law_687 dL_law_688 ?_
  refine l_aload_n (pc := 689) X dL_law_689 rfl 0 rfl ?_
  refine l_iload_n (pc := 690) X dL_law_690 rfl 3 rfl ?_
  refine l_bipush (pc := 691) (v := 8) X dL_law_691 (by decide) ?_
  refine l_arg (pc := 693) (n := 8) X (hin 8 (by decide)) dL_law_693 dL_law_694 ?_
  refine l_aload_n (pc := 695) X dL_law_695 rfl 0 rfl ?_
  refine l_iload_n (pc := 696) X dL_law_696 rfl 3 rfl ?_
  refine l_bipush (pc := 697) (v := 9) X dL_law_697 (by decide) ?_
  refine l_arg (pc := 699) (n := 9) X (hin 9 (by decide)) dL_law_699 dL_law_700 ?_
  obtain ⟨r, SC', SM', e1, e2, hB', hR'⟩ : SimR SC SM kk (J8_choose SC (xs (i + 1).toNatClampNeg) (xs (i + 2).toNatClampNeg) (xs (i + 3).toNatClampNeg) (xs (i + 4).toNatClampNeg) (xs (i + 5).toNatClampNeg) (xs (i + 6).toNatClampNeg) (xs (i + 7).toNatClampNeg) (xs (i + 8).toNatClampNeg) (xs (i + 9).toNatClampNeg)) (J9_choose SM (xs (i + 1).toNatClampNeg) (xs (i + 2).toNatClampNeg) (xs (i + 3).toNatClampNeg) (xs (i + 4).toNatClampNeg) (xs (i + 5).toNatClampNeg) (xs (i + 6).toNatClampNeg) (xs (i + 7).toNatClampNeg) (xs (i + 8).toNatClampNeg) (xs (i + 9).toNatClampNeg)) := (sim_choose hB (xs (i + 1).toNatClampNeg) (xs (i + 2).toNatClampNeg) (xs (i + 3).toNatClampNeg) (xs (i + 4).toNatClampNeg) (xs (i + 5).toNatClampNeg) (xs (i + 6).toNatClampNeg) (xs (i + 7).toNatClampNeg) (xs (i + 8).toNatClampNeg) (xs (i + 9).toNatClampNeg)).r hR
  refine l_callC (pc := 701) (v := some (.int r)) X [.int (xs (i + 1).toNatClampNeg), .int (xs (i + 2).toNatClampNeg), .int (xs (i + 3).toNatClampNeg), .int (xs (i + 4).toNatClampNeg), .int (xs (i + 5).toNatClampNeg), .int (xs (i + 6).toNatClampNeg), .int (xs (i + 7).toNatClampNeg), .int (xs (i + 8).toNatClampNeg), .int (xs (i + 9).toNatClampNeg)] hVL_81 rfl rfl (Nat.le_of_ble_eq_true rfl) ⟨rfl, rfl, Nat.le_of_ble_eq_true rfl, Nat.le_of_ble_eq_true rfl⟩ dL_law_701 (cc8_choose e1) ?_
  refine l_aload_n (pc := 704) X dL_law_704 rfl 2 rfl ?_
  refine l_aload_n (pc := 705) X dL_law_705 rfl 0 rfl ?_
  refine l_iload_n (pc := 706) X dL_law_706 rfl 3 rfl ?_
  refine l_iconst (pc := 707) (v := 1) X dL_law_707 (by decide) ?_
  refine l_arg (pc := 708) (n := 1) X (hin 1 (by decide)) dL_law_708 dL_law_709 ?_
  refine l_aload_n (pc := 710) X dL_law_710 rfl 0 rfl ?_
  refine l_iload_n (pc := 711) X dL_law_711 rfl 3 rfl ?_
  refine l_iconst (pc := 712) (v := 2) X dL_law_712 (by decide) ?_
  refine l_arg (pc := 713) (n := 2) X (hin 2 (by decide)) dL_law_713 dL_law_714 ?_
  refine l_aload_n (pc := 715) X dL_law_715 rfl 0 rfl ?_
  refine l_iload_n (pc := 716) X dL_law_716 rfl 3 rfl ?_
  refine l_iconst (pc := 717) (v := 3) X dL_law_717 (by decide) ?_
  refine l_arg (pc := 718) (n := 3) X (hin 3 (by decide)) dL_law_718 dL_law_719 ?_
  refine l_aload_n (pc := 720) X dL_law_720 rfl 0 rfl ?_
  refine l_iload_n (pc := 721) X dL_law_721 rfl 3 rfl ?_
  refine l_iconst (pc := 722) (v := 4) X dL_law_722 (by decide) ?_
  refine l_arg (pc := 723) (n := 4) X (hin 4 (by decide)) dL_law_723 dL_law_724 ?_
  refine l_aload_n (pc := 725) X dL_law_725 rfl 0 rfl ?_
  refine l_iload_n (pc := 726) X dL_law_726 rfl 3 rfl ?_
  refine l_iconst (pc := 727) (v := 5) X dL_law_727 (by decide) ?_
  refine l_arg (pc := 728) (n := 5) X (hin 5 (by decide)) dL_law_728 dL_law_729 ?_
  refine l_aload_n (pc := 730) X dL_law_730 rfl 0 rfl ?_
  refine l_iload_n (pc := 731) X dL_law_731 rfl 3 rfl ?_
  refine l_bipush (pc := 732) (v := 6) X dL_law_732 (by decide) ?_
  refine l_arg (pc := 734) (n := 6) X (hin 6 (by decide)) dL_law_734 dL_law_735 ?_
  refine l_aload_n (pc := 736) X dL_law_736 rfl 0 rfl ?_
  refine l_iload_n (pc := 737) X dL_law_737 rfl 3 rfl ?_
  refine l_bipush (pc := 738) (v := 7) X dL_law_738 (by decide) ?_
  refine l_arg (pc := 740) (n := 7) X (hin 7 (by decide)) dL_law_740 dL_law_741 ?_
  refine l_aload_n (pc := 742) X dL_law_742 rfl 0 rfl ?_
  refine l_iload_n (pc := 743) X dL_law_743 rfl 3 rfl ?_
  refine l_bipush (pc := 744) (v := 8) X dL_law_744 (by decide) ?_
  refine l_arg (pc := 746) (n := 8) X (hin 8 (by decide)) dL_law_746 dL_law_747 ?_
  refine l_aload_n (pc := 748) X dL_law_748 rfl 0 rfl ?_
  refine l_iload_n (pc := 749) X dL_law_749 rfl 3 rfl ?_
  refine l_bipush (pc := 750) (v := 9) X dL_law_750 (by decide) ?_
  refine l_arg (pc := 752) (n := 9) X (hin 9 (by decide)) dL_law_752 dL_law_753 ?_
  refine l_callM (pc := 754) (v := some (.int r)) X [.int (xs (i + 1).toNatClampNeg), .int (xs (i + 2).toNatClampNeg), .int (xs (i + 3).toNatClampNeg), .int (xs (i + 4).toNatClampNeg), .int (xs (i + 5).toNatClampNeg), .int (xs (i + 6).toNatClampNeg), .int (xs (i + 7).toNatClampNeg), .int (xs (i + 8).toNatClampNeg), .int (xs (i + 9).toNatClampNeg)] hVL_85 rfl rfl (Nat.le_of_ble_eq_true rfl) ⟨rfl, rfl, Nat.le_of_ble_eq_true rfl, Nat.le_of_ble_eq_true rfl⟩ dL_law_754 (cc9_choose e2) ?_
  refine l_icmp_eq (pc := 757) (tgt := 1159) X dL_law_757 (by decide) ?_
  exact K SC' SM' hB' hR'
set_option maxRecDepth 100000 in
set_option maxHeartbeats 4000000 in
theorem law_15 (X : lX p s m meth c D cA σ1 σ2 tS b Ls xs) {SC SM : St} {kk : Nat} {i : Int32} (hB : RB SC SM) (hR : Rru SC SM kk) (hk : kk < 999) (hin : ∀ n : Nat, n < 10 → vp_in (i + nI n) Ls) (K : ∀ SC' SM' : St, RB SC' SM' → Rru SC' SM' (kk + 1) → Lj p l e s m below meth c D cA σ1 σ2 b 1159 [(0, .ref b), (1, .ref (σ1 0)), (2, .ref (σ2 0)), (3, .int i)] [] SC' SM') : Lj p l e s m below meth c D cA σ1 σ2 b 762 [(0, .ref b), (1, .ref (σ1 0)), (2, .ref (σ2 0)), (3, .int i)] [] SC SM := by
  refine l_aload_n (pc := 762) X dL_law_762 rfl 1 rfl ?_
  obtain ⟨r, SC', SM', e1, e2, hB', hR'⟩ : SimR SC SM kk (J8_begin SC) (J9_begin SM) := simr_begin hB
  refine l_callC (pc := 763) (v := some (.int r)) X [] hVL_86 rfl rfl (Nat.le_of_ble_eq_true rfl) ⟨rfl, rfl, Nat.le_of_ble_eq_true rfl, Nat.le_of_ble_eq_true rfl⟩ dL_law_763 (cc8_begin e1) ?_
  refine l_aload_n (pc := 766) X dL_law_766 rfl 2 rfl ?_
  refine l_callM (pc := 767) (v := some (.int r)) X [] hVL_89 rfl rfl (Nat.le_of_ble_eq_true rfl) ⟨rfl, rfl, Nat.le_of_ble_eq_true rfl, Nat.le_of_ble_eq_true rfl⟩ dL_law_767 (cc9_begin e2) ?_
  refine l_icmp_eq (pc := 770) (tgt := 1159) X dL_law_770 (by decide) ?_
  exact K SC' SM' hB' hR'
set_option maxRecDepth 100000 in
set_option maxHeartbeats 4000000 in
theorem law_16 (X : lX p s m meth c D cA σ1 σ2 tS b Ls xs) {SC SM : St} {kk : Nat} {i : Int32} (hB : RB SC SM) (hR : Rru SC SM kk) (hk : kk < 999) (hin : ∀ n : Nat, n < 10 → vp_in (i + nI n) Ls) (K : ∀ SC' SM' : St, RB SC' SM' → Rru SC' SM' (kk + 1) → Lj p l e s m below meth c D cA σ1 σ2 b 1159 [(0, .ref b), (1, .ref (σ1 0)), (2, .ref (σ2 0)), (3, .int i)] [] SC' SM') : Lj p l e s m below meth c D cA σ1 σ2 b 775 [(0, .ref b), (1, .ref (σ1 0)), (2, .ref (σ2 0)), (3, .int i)] [] SC SM := by
  refine l_aload_n (pc := 775) X dL_law_775 rfl 1 rfl ?_
  refine l_aload_n (pc := 776) X dL_law_776 rfl 0 rfl ?_
  refine l_iload_n (pc := 777) X dL_law_777 rfl 3 rfl ?_
  refine l_iconst (pc := 778) (v := 1) X dL_law_778 (by decide) ?_
  refine l_arg (pc := 779) (n := 1) X (hin 1 (by decide)) dL_law_779 dL_law_780 ?_
  refine l_if_eq (pc := 781) (tgt := 788) X dL_law_781 (by decide) (fun hz => ?_) (fun hz => ?_)
  · refine l_iconst (pc := 788) (v := 0) X dL_law_788 (by decide) ?_
    obtain ⟨r, SC', SM', e1, e2, hB', hR'⟩ : SimR SC SM kk (J8_mending SC 0) (J9_mending SM 0) := simr_mending hB hR (Or.inl rfl)
    refine l_callC (pc := 789) (v := some (.int r)) X [.int 0] hVL_90 rfl rfl (Nat.le_of_ble_eq_true rfl) ⟨rfl, rfl, Nat.le_of_ble_eq_true rfl, Nat.le_of_ble_eq_true rfl⟩ dL_law_789 (cc8_mending e1) ?_
    refine l_aload_n (pc := 792) X dL_law_792 rfl 2 rfl ?_
    refine l_aload_n (pc := 793) X dL_law_793 rfl 0 rfl ?_
    refine l_iload_n (pc := 794) X dL_law_794 rfl 3 rfl ?_
    refine l_iconst (pc := 795) (v := 1) X dL_law_795 (by decide) ?_
    refine l_arg (pc := 796) (n := 1) X (hin 1 (by decide)) dL_law_796 dL_law_797 ?_
    refine l_if_eq (pc := 798) (tgt := 805) X dL_law_798 (by decide) (fun _ => ?_) (fun h9 => absurd hz h9)
    refine l_iconst (pc := 805) (v := 0) X dL_law_805 (by decide) ?_
    refine l_callM (pc := 806) (v := some (.int r)) X [.int 0] hVL_94 rfl rfl (Nat.le_of_ble_eq_true rfl) ⟨rfl, rfl, Nat.le_of_ble_eq_true rfl, Nat.le_of_ble_eq_true rfl⟩ dL_law_806 (cc9_mending e2) ?_
    refine l_icmp_eq (pc := 809) (tgt := 1159) X dL_law_809 (by decide) ?_
    exact K SC' SM' hB' hR'
  · refine l_iconst (pc := 784) (v := 1) X dL_law_784 (by decide) ?_
    refine l_goto (pc := 785) (tgt := 789) X dL_law_785 (by decide) ?_
    obtain ⟨r, SC', SM', e1, e2, hB', hR'⟩ : SimR SC SM kk (J8_mending SC 1) (J9_mending SM 1) := simr_mending hB hR (Or.inr rfl)
    refine l_callC (pc := 789) (v := some (.int r)) X [.int 1] hVL_90 rfl rfl (Nat.le_of_ble_eq_true rfl) ⟨rfl, rfl, Nat.le_of_ble_eq_true rfl, Nat.le_of_ble_eq_true rfl⟩ dL_law_789 (cc8_mending e1) ?_
    refine l_aload_n (pc := 792) X dL_law_792 rfl 2 rfl ?_
    refine l_aload_n (pc := 793) X dL_law_793 rfl 0 rfl ?_
    refine l_iload_n (pc := 794) X dL_law_794 rfl 3 rfl ?_
    refine l_iconst (pc := 795) (v := 1) X dL_law_795 (by decide) ?_
    refine l_arg (pc := 796) (n := 1) X (hin 1 (by decide)) dL_law_796 dL_law_797 ?_
    refine l_if_eq (pc := 798) (tgt := 805) X dL_law_798 (by decide) (fun h9 => absurd h9 hz) (fun _ => ?_)
    refine l_iconst (pc := 801) (v := 1) X dL_law_801 (by decide) ?_
    refine l_goto (pc := 802) (tgt := 806) X dL_law_802 (by decide) ?_
    refine l_callM (pc := 806) (v := some (.int r)) X [.int 1] hVL_94 rfl rfl (Nat.le_of_ble_eq_true rfl) ⟨rfl, rfl, Nat.le_of_ble_eq_true rfl, Nat.le_of_ble_eq_true rfl⟩ dL_law_806 (cc9_mending e2) ?_
    refine l_icmp_eq (pc := 809) (tgt := 1159) X dL_law_809 (by decide) ?_
    exact K SC' SM' hB' hR'
set_option maxRecDepth 100000 in
set_option maxHeartbeats 4000000 in
theorem law_17 (X : lX p s m meth c D cA σ1 σ2 tS b Ls xs) {SC SM : St} {kk : Nat} {i : Int32} (hB : RB SC SM) (hR : Rru SC SM kk) (hk : kk < 999) (hin : ∀ n : Nat, n < 10 → vp_in (i + nI n) Ls) (K : ∀ SC' SM' : St, RB SC' SM' → Rru SC' SM' (kk + 1) → Lj p l e s m below meth c D cA σ1 σ2 b 1159 [(0, .ref b), (1, .ref (σ1 0)), (2, .ref (σ2 0)), (3, .int i)] [] SC' SM') : Lj p l e s m below meth c D cA σ1 σ2 b 814 [(0, .ref b), (1, .ref (σ1 0)), (2, .ref (σ2 0)), (3, .int i)] [] SC SM := by
  refine l_aload_n (pc := 814) X dL_law_814 rfl 1 rfl ?_
  refine l_aload_n (pc := 815) X dL_law_815 rfl 0 rfl ?_
  refine l_iload_n (pc := 816) X dL_law_816 rfl 3 rfl ?_
  refine l_iconst (pc := 817) (v := 1) X dL_law_817 (by decide) ?_
  refine l_arg (pc := 818) (n := 1) X (hin 1 (by decide)) dL_law_818 dL_law_819 ?_
  refine l_aload_n (pc := 820) X dL_law_820 rfl 0 rfl ?_
  refine l_iload_n (pc := 821) X dL_law_821 rfl 3 rfl ?_
  refine l_iconst (pc := 822) (v := 2) X dL_law_822 (by decide) ?_
  refine l_arg (pc := 823) (n := 2) X (hin 2 (by decide)) dL_law_823 dL_law_824 ?_
  refine l_if_eq (pc := 825) (tgt := 832) X dL_law_825 (by decide) (fun hz => ?_) (fun hz => ?_)
  · refine l_iconst (pc := 832) (v := 0) X dL_law_832 (by decide) ?_
    obtain ⟨r, SC', SM', e1, e2, hB', hR'⟩ : SimR SC SM kk (J8_keep SC (xs (i + 1).toNatClampNeg) 0) (J9_keep SM (xs (i + 1).toNatClampNeg) 0) := simr_keep hB hR (xs (i + 1).toNatClampNeg) (Or.inl rfl)
    refine l_callC (pc := 833) (v := some (.int r)) X [.int (xs (i + 1).toNatClampNeg), .int 0] hVL_95 rfl rfl (Nat.le_of_ble_eq_true rfl) ⟨rfl, rfl, Nat.le_of_ble_eq_true rfl, Nat.le_of_ble_eq_true rfl⟩ dL_law_833 (cc8_keep e1) ?_
    refine l_aload_n (pc := 836) X dL_law_836 rfl 2 rfl ?_
    refine l_aload_n (pc := 837) X dL_law_837 rfl 0 rfl ?_
    refine l_iload_n (pc := 838) X dL_law_838 rfl 3 rfl ?_
    refine l_iconst (pc := 839) (v := 1) X dL_law_839 (by decide) ?_
    refine l_arg (pc := 840) (n := 1) X (hin 1 (by decide)) dL_law_840 dL_law_841 ?_
    refine l_aload_n (pc := 842) X dL_law_842 rfl 0 rfl ?_
    refine l_iload_n (pc := 843) X dL_law_843 rfl 3 rfl ?_
    refine l_iconst (pc := 844) (v := 2) X dL_law_844 (by decide) ?_
    refine l_arg (pc := 845) (n := 2) X (hin 2 (by decide)) dL_law_845 dL_law_846 ?_
    refine l_if_eq (pc := 847) (tgt := 854) X dL_law_847 (by decide) (fun _ => ?_) (fun h9 => absurd hz h9)
    refine l_iconst (pc := 854) (v := 0) X dL_law_854 (by decide) ?_
    refine l_callM (pc := 855) (v := some (.int r)) X [.int (xs (i + 1).toNatClampNeg), .int 0] hVL_99 rfl rfl (Nat.le_of_ble_eq_true rfl) ⟨rfl, rfl, Nat.le_of_ble_eq_true rfl, Nat.le_of_ble_eq_true rfl⟩ dL_law_855 (cc9_keep e2) ?_
    refine l_icmp_eq (pc := 858) (tgt := 1159) X dL_law_858 (by decide) ?_
    exact K SC' SM' hB' hR'
  · refine l_iconst (pc := 828) (v := 1) X dL_law_828 (by decide) ?_
    refine l_goto (pc := 829) (tgt := 833) X dL_law_829 (by decide) ?_
    obtain ⟨r, SC', SM', e1, e2, hB', hR'⟩ : SimR SC SM kk (J8_keep SC (xs (i + 1).toNatClampNeg) 1) (J9_keep SM (xs (i + 1).toNatClampNeg) 1) := simr_keep hB hR (xs (i + 1).toNatClampNeg) (Or.inr rfl)
    refine l_callC (pc := 833) (v := some (.int r)) X [.int (xs (i + 1).toNatClampNeg), .int 1] hVL_95 rfl rfl (Nat.le_of_ble_eq_true rfl) ⟨rfl, rfl, Nat.le_of_ble_eq_true rfl, Nat.le_of_ble_eq_true rfl⟩ dL_law_833 (cc8_keep e1) ?_
    refine l_aload_n (pc := 836) X dL_law_836 rfl 2 rfl ?_
    refine l_aload_n (pc := 837) X dL_law_837 rfl 0 rfl ?_
    refine l_iload_n (pc := 838) X dL_law_838 rfl 3 rfl ?_
    refine l_iconst (pc := 839) (v := 1) X dL_law_839 (by decide) ?_
    refine l_arg (pc := 840) (n := 1) X (hin 1 (by decide)) dL_law_840 dL_law_841 ?_
    refine l_aload_n (pc := 842) X dL_law_842 rfl 0 rfl ?_
    refine l_iload_n (pc := 843) X dL_law_843 rfl 3 rfl ?_
    refine l_iconst (pc := 844) (v := 2) X dL_law_844 (by decide) ?_
    refine l_arg (pc := 845) (n := 2) X (hin 2 (by decide)) dL_law_845 dL_law_846 ?_
    refine l_if_eq (pc := 847) (tgt := 854) X dL_law_847 (by decide) (fun h9 => absurd h9 hz) (fun _ => ?_)
    refine l_iconst (pc := 850) (v := 1) X dL_law_850 (by decide) ?_
    refine l_goto (pc := 851) (tgt := 855) X dL_law_851 (by decide) ?_
    refine l_callM (pc := 855) (v := some (.int r)) X [.int (xs (i + 1).toNatClampNeg), .int 1] hVL_99 rfl rfl (Nat.le_of_ble_eq_true rfl) ⟨rfl, rfl, Nat.le_of_ble_eq_true rfl, Nat.le_of_ble_eq_true rfl⟩ dL_law_855 (cc9_keep e2) ?_
    refine l_icmp_eq (pc := 858) (tgt := 1159) X dL_law_858 (by decide) ?_
    exact K SC' SM' hB' hR'
set_option maxRecDepth 100000 in
set_option maxHeartbeats 4000000 in
theorem law_18 (X : lX p s m meth c D cA σ1 σ2 tS b Ls xs) {SC SM : St} {kk : Nat} {i : Int32} (hB : RB SC SM) (hR : Rru SC SM kk) (hk : kk < 999) (hin : ∀ n : Nat, n < 10 → vp_in (i + nI n) Ls) (K : ∀ SC' SM' : St, RB SC' SM' → Rru SC' SM' (kk + 1) → Lj p l e s m below meth c D cA σ1 σ2 b 1159 [(0, .ref b), (1, .ref (σ1 0)), (2, .ref (σ2 0)), (3, .int i)] [] SC' SM') : Lj p l e s m below meth c D cA σ1 σ2 b 863 [(0, .ref b), (1, .ref (σ1 0)), (2, .ref (σ2 0)), (3, .int i)] [] SC SM := by
  refine l_aload_n (pc := 863) X dL_law_863 rfl 1 rfl ?_
  refine l_aload_n (pc := 864) X dL_law_864 rfl 0 rfl ?_
  refine l_iload_n (pc := 865) X dL_law_865 rfl 3 rfl ?_
  refine l_iconst (pc := 866) (v := 1) X dL_law_866 (by decide) ?_
  refine l_arg (pc := 867) (n := 1) X (hin 1 (by decide)) dL_law_867 dL_law_868 ?_
  obtain ⟨r, SC', SM', e1, e2, hB', hR'⟩ : SimR SC SM kk (J8_writes SC (xs (i + 1).toNatClampNeg)) (J9_writes SM (xs (i + 1).toNatClampNeg)) := simr_writes hB hR (xs (i + 1).toNatClampNeg)
  refine l_callC (pc := 869) (v := some (.int r)) X [.int (xs (i + 1).toNatClampNeg)] hVL_100 rfl rfl (Nat.le_of_ble_eq_true rfl) ⟨rfl, rfl, Nat.le_of_ble_eq_true rfl, Nat.le_of_ble_eq_true rfl⟩ dL_law_869 (cc8_writes e1) ?_
  refine l_aload_n (pc := 872) X dL_law_872 rfl 2 rfl ?_
  refine l_aload_n (pc := 873) X dL_law_873 rfl 0 rfl ?_
  refine l_iload_n (pc := 874) X dL_law_874 rfl 3 rfl ?_
  refine l_iconst (pc := 875) (v := 1) X dL_law_875 (by decide) ?_
  refine l_arg (pc := 876) (n := 1) X (hin 1 (by decide)) dL_law_876 dL_law_877 ?_
  refine l_callM (pc := 878) (v := some (.int r)) X [.int (xs (i + 1).toNatClampNeg)] hVL_104 rfl rfl (Nat.le_of_ble_eq_true rfl) ⟨rfl, rfl, Nat.le_of_ble_eq_true rfl, Nat.le_of_ble_eq_true rfl⟩ dL_law_878 (cc9_writes e2) ?_
  refine l_icmp_eq (pc := 881) (tgt := 1159) X dL_law_881 (by decide) ?_
  exact K SC' SM' hB' hR'
set_option maxRecDepth 100000 in
set_option maxHeartbeats 4000000 in
theorem law_19 (X : lX p s m meth c D cA σ1 σ2 tS b Ls xs) {SC SM : St} {kk : Nat} {i : Int32} (hB : RB SC SM) (hR : Rru SC SM kk) (hk : kk < 999) (hin : ∀ n : Nat, n < 10 → vp_in (i + nI n) Ls) (K : ∀ SC' SM' : St, RB SC' SM' → Rru SC' SM' (kk + 1) → Lj p l e s m below meth c D cA σ1 σ2 b 1159 [(0, .ref b), (1, .ref (σ1 0)), (2, .ref (σ2 0)), (3, .int i)] [] SC' SM') : Lj p l e s m below meth c D cA σ1 σ2 b 886 [(0, .ref b), (1, .ref (σ1 0)), (2, .ref (σ2 0)), (3, .int i)] [] SC SM := by
  refine l_aload_n (pc := 886) X dL_law_886 rfl 1 rfl ?_
  refine l_aload_n (pc := 887) X dL_law_887 rfl 0 rfl ?_
  refine l_iload_n (pc := 888) X dL_law_888 rfl 3 rfl ?_
  refine l_iconst (pc := 889) (v := 1) X dL_law_889 (by decide) ?_
  refine l_arg (pc := 890) (n := 1) X (hin 1 (by decide)) dL_law_890 dL_law_891 ?_
  refine l_aload_n (pc := 892) X dL_law_892 rfl 0 rfl ?_
  refine l_iload_n (pc := 893) X dL_law_893 rfl 3 rfl ?_
  refine l_iconst (pc := 894) (v := 2) X dL_law_894 (by decide) ?_
  refine l_arg (pc := 895) (n := 2) X (hin 2 (by decide)) dL_law_895 dL_law_896 ?_
  obtain ⟨r, SC', SM', e1, e2, hB', hR'⟩ : SimR SC SM kk (J8_reads SC (xs (i + 1).toNatClampNeg) (xs (i + 2).toNatClampNeg)) (J9_reads SM (xs (i + 1).toNatClampNeg) (xs (i + 2).toNatClampNeg)) := simr_reads hB hR (xs (i + 1).toNatClampNeg) (xs (i + 2).toNatClampNeg)
  refine l_callC (pc := 897) (v := some (.int r)) X [.int (xs (i + 1).toNatClampNeg), .int (xs (i + 2).toNatClampNeg)] hVL_105 rfl rfl (Nat.le_of_ble_eq_true rfl) ⟨rfl, rfl, Nat.le_of_ble_eq_true rfl, Nat.le_of_ble_eq_true rfl⟩ dL_law_897 (cc8_reads e1) ?_
  refine l_aload_n (pc := 900) X dL_law_900 rfl 2 rfl ?_
  refine l_aload_n (pc := 901) X dL_law_901 rfl 0 rfl ?_
  refine l_iload_n (pc := 902) X dL_law_902 rfl 3 rfl ?_
  refine l_iconst (pc := 903) (v := 1) X dL_law_903 (by decide) ?_
  refine l_arg (pc := 904) (n := 1) X (hin 1 (by decide)) dL_law_904 dL_law_905 ?_
  refine l_aload_n (pc := 906) X dL_law_906 rfl 0 rfl ?_
  refine l_iload_n (pc := 907) X dL_law_907 rfl 3 rfl ?_
  refine l_iconst (pc := 908) (v := 2) X dL_law_908 (by decide) ?_
  refine l_arg (pc := 909) (n := 2) X (hin 2 (by decide)) dL_law_909 dL_law_910 ?_
  refine l_callM (pc := 911) (v := some (.int r)) X [.int (xs (i + 1).toNatClampNeg), .int (xs (i + 2).toNatClampNeg)] hVL_109 rfl rfl (Nat.le_of_ble_eq_true rfl) ⟨rfl, rfl, Nat.le_of_ble_eq_true rfl, Nat.le_of_ble_eq_true rfl⟩ dL_law_911 (cc9_reads e2) ?_
  refine l_icmp_eq (pc := 914) (tgt := 1159) X dL_law_914 (by decide) ?_
  exact K SC' SM' hB' hR'
set_option maxRecDepth 100000 in
set_option maxHeartbeats 4000000 in
theorem law_20 (X : lX p s m meth c D cA σ1 σ2 tS b Ls xs) {SC SM : St} {kk : Nat} {i : Int32} (hB : RB SC SM) (hR : Rru SC SM kk) (hk : kk < 999) (hin : ∀ n : Nat, n < 10 → vp_in (i + nI n) Ls) (K : ∀ SC' SM' : St, RB SC' SM' → Rru SC' SM' (kk + 1) → Lj p l e s m below meth c D cA σ1 σ2 b 1159 [(0, .ref b), (1, .ref (σ1 0)), (2, .ref (σ2 0)), (3, .int i)] [] SC' SM') : Lj p l e s m below meth c D cA σ1 σ2 b 919 [(0, .ref b), (1, .ref (σ1 0)), (2, .ref (σ2 0)), (3, .int i)] [] SC SM := by
  refine l_aload_n (pc := 919) X dL_law_919 rfl 1 rfl ?_
  refine l_aload_n (pc := 920) X dL_law_920 rfl 0 rfl ?_
  refine l_iload_n (pc := 921) X dL_law_921 rfl 3 rfl ?_
  refine l_iconst (pc := 922) (v := 1) X dL_law_922 (by decide) ?_
  refine l_arg (pc := 923) (n := 1) X (hin 1 (by decide)) dL_law_923 dL_law_924 ?_
  obtain ⟨r, SC', SM', e1, e2, hB', hR'⟩ : SimR SC SM kk (J8_go SC (xs (i + 1).toNatClampNeg)) (J9_go SM (xs (i + 1).toNatClampNeg)) := simr_go hB hR hk (xs (i + 1).toNatClampNeg)
  refine l_callC (pc := 925) (v := some (.int r)) X [.int (xs (i + 1).toNatClampNeg)] hVL_110 rfl rfl (Nat.le_of_ble_eq_true rfl) ⟨rfl, rfl, Nat.le_of_ble_eq_true rfl, Nat.le_of_ble_eq_true rfl⟩ dL_law_925 (cc8_go e1) ?_
  refine l_aload_n (pc := 928) X dL_law_928 rfl 2 rfl ?_
  refine l_aload_n (pc := 929) X dL_law_929 rfl 0 rfl ?_
  refine l_iload_n (pc := 930) X dL_law_930 rfl 3 rfl ?_
  refine l_iconst (pc := 931) (v := 1) X dL_law_931 (by decide) ?_
  refine l_arg (pc := 932) (n := 1) X (hin 1 (by decide)) dL_law_932 dL_law_933 ?_
  refine l_callM (pc := 934) (v := some (.int r)) X [.int (xs (i + 1).toNatClampNeg)] hVL_113 rfl rfl (Nat.le_of_ble_eq_true rfl) ⟨rfl, rfl, Nat.le_of_ble_eq_true rfl, Nat.le_of_ble_eq_true rfl⟩ dL_law_934 (cc9_go e2) ?_
  refine l_icmp_eq (pc := 937) (tgt := 1159) X dL_law_937 (by decide) ?_
  exact K SC' SM' hB' hR'
set_option maxRecDepth 100000 in
set_option maxHeartbeats 4000000 in
theorem law_21 (X : lX p s m meth c D cA σ1 σ2 tS b Ls xs) {SC SM : St} {kk : Nat} {i : Int32} (hB : RB SC SM) (hR : Rru SC SM kk) (hk : kk < 999) (hin : ∀ n : Nat, n < 10 → vp_in (i + nI n) Ls) (K : ∀ SC' SM' : St, RB SC' SM' → Rru SC' SM' (kk + 1) → Lj p l e s m below meth c D cA σ1 σ2 b 1159 [(0, .ref b), (1, .ref (σ1 0)), (2, .ref (σ2 0)), (3, .int i)] [] SC' SM') : Lj p l e s m below meth c D cA σ1 σ2 b 942 [(0, .ref b), (1, .ref (σ1 0)), (2, .ref (σ2 0)), (3, .int i)] [] SC SM := by
  refine l_aload_n (pc := 942) X dL_law_942 rfl 1 rfl ?_
  refine l_aload_n (pc := 943) X dL_law_943 rfl 0 rfl ?_
  refine l_iload_n (pc := 944) X dL_law_944 rfl 3 rfl ?_
  refine l_iconst (pc := 945) (v := 1) X dL_law_945 (by decide) ?_
  refine l_arg (pc := 946) (n := 1) X (hin 1 (by decide)) dL_law_946 dL_law_947 ?_
  refine l_aload_n (pc := 948) X dL_law_948 rfl 0 rfl ?_
  refine l_iload_n (pc := 949) X dL_law_949 rfl 3 rfl ?_
  refine l_iconst (pc := 950) (v := 2) X dL_law_950 (by decide) ?_
  refine l_arg (pc := 951) (n := 2) X (hin 2 (by decide)) dL_law_951 dL_law_952 ?_
  refine l_if_eq (pc := 953) (tgt := 960) X dL_law_953 (by decide) (fun hz => ?_) (fun hz => ?_)
  · refine l_iconst (pc := 960) (v := 0) X dL_law_960 (by decide) ?_
    obtain ⟨r, SC', SM', e1, e2, hB', hR'⟩ : SimR SC SM kk (J8_down SC (xs (i + 1).toNatClampNeg) 0) (J9_down SM (xs (i + 1).toNatClampNeg) 0) := simr_down hB hR (xs (i + 1).toNatClampNeg) 0
    refine l_callC (pc := 961) (v := some (.int r)) X [.int (xs (i + 1).toNatClampNeg), .int 0] hVL_114 rfl rfl (Nat.le_of_ble_eq_true rfl) ⟨rfl, rfl, Nat.le_of_ble_eq_true rfl, Nat.le_of_ble_eq_true rfl⟩ dL_law_961 (cc8_down e1) ?_
    refine l_aload_n (pc := 964) X dL_law_964 rfl 2 rfl ?_
    refine l_aload_n (pc := 965) X dL_law_965 rfl 0 rfl ?_
    refine l_iload_n (pc := 966) X dL_law_966 rfl 3 rfl ?_
    refine l_iconst (pc := 967) (v := 1) X dL_law_967 (by decide) ?_
    refine l_arg (pc := 968) (n := 1) X (hin 1 (by decide)) dL_law_968 dL_law_969 ?_
    refine l_aload_n (pc := 970) X dL_law_970 rfl 0 rfl ?_
    refine l_iload_n (pc := 971) X dL_law_971 rfl 3 rfl ?_
    refine l_iconst (pc := 972) (v := 2) X dL_law_972 (by decide) ?_
    refine l_arg (pc := 973) (n := 2) X (hin 2 (by decide)) dL_law_973 dL_law_974 ?_
    refine l_if_eq (pc := 975) (tgt := 982) X dL_law_975 (by decide) (fun _ => ?_) (fun h9 => absurd hz h9)
    refine l_iconst (pc := 982) (v := 0) X dL_law_982 (by decide) ?_
    refine l_callM (pc := 983) (v := some (.int r)) X [.int (xs (i + 1).toNatClampNeg), .int 0] hVL_117 rfl rfl (Nat.le_of_ble_eq_true rfl) ⟨rfl, rfl, Nat.le_of_ble_eq_true rfl, Nat.le_of_ble_eq_true rfl⟩ dL_law_983 (cc9_down e2) ?_
    refine l_icmp_eq (pc := 986) (tgt := 1159) X dL_law_986 (by decide) ?_
    exact K SC' SM' hB' hR'
  · refine l_iconst (pc := 956) (v := 1) X dL_law_956 (by decide) ?_
    refine l_goto (pc := 957) (tgt := 961) X dL_law_957 (by decide) ?_
    obtain ⟨r, SC', SM', e1, e2, hB', hR'⟩ : SimR SC SM kk (J8_down SC (xs (i + 1).toNatClampNeg) 1) (J9_down SM (xs (i + 1).toNatClampNeg) 1) := simr_down hB hR (xs (i + 1).toNatClampNeg) 1
    refine l_callC (pc := 961) (v := some (.int r)) X [.int (xs (i + 1).toNatClampNeg), .int 1] hVL_114 rfl rfl (Nat.le_of_ble_eq_true rfl) ⟨rfl, rfl, Nat.le_of_ble_eq_true rfl, Nat.le_of_ble_eq_true rfl⟩ dL_law_961 (cc8_down e1) ?_
    refine l_aload_n (pc := 964) X dL_law_964 rfl 2 rfl ?_
    refine l_aload_n (pc := 965) X dL_law_965 rfl 0 rfl ?_
    refine l_iload_n (pc := 966) X dL_law_966 rfl 3 rfl ?_
    refine l_iconst (pc := 967) (v := 1) X dL_law_967 (by decide) ?_
    refine l_arg (pc := 968) (n := 1) X (hin 1 (by decide)) dL_law_968 dL_law_969 ?_
    refine l_aload_n (pc := 970) X dL_law_970 rfl 0 rfl ?_
    refine l_iload_n (pc := 971) X dL_law_971 rfl 3 rfl ?_
    refine l_iconst (pc := 972) (v := 2) X dL_law_972 (by decide) ?_
    refine l_arg (pc := 973) (n := 2) X (hin 2 (by decide)) dL_law_973 dL_law_974 ?_
    refine l_if_eq (pc := 975) (tgt := 982) X dL_law_975 (by decide) (fun h9 => absurd h9 hz) (fun _ => ?_)
    refine l_iconst (pc := 978) (v := 1) X dL_law_978 (by decide) ?_
    refine l_goto (pc := 979) (tgt := 983) X dL_law_979 (by decide) ?_
    refine l_callM (pc := 983) (v := some (.int r)) X [.int (xs (i + 1).toNatClampNeg), .int 1] hVL_117 rfl rfl (Nat.le_of_ble_eq_true rfl) ⟨rfl, rfl, Nat.le_of_ble_eq_true rfl, Nat.le_of_ble_eq_true rfl⟩ dL_law_983 (cc9_down e2) ?_
    refine l_icmp_eq (pc := 986) (tgt := 1159) X dL_law_986 (by decide) ?_
    exact K SC' SM' hB' hR'
set_option maxRecDepth 100000 in
set_option maxHeartbeats 4000000 in
theorem law_22 (X : lX p s m meth c D cA σ1 σ2 tS b Ls xs) {SC SM : St} {kk : Nat} {i : Int32} (hB : RB SC SM) (hR : Rru SC SM kk) (hk : kk < 999) (hin : ∀ n : Nat, n < 10 → vp_in (i + nI n) Ls) (K : ∀ SC' SM' : St, RB SC' SM' → Rru SC' SM' (kk + 1) → Lj p l e s m below meth c D cA σ1 σ2 b 1159 [(0, .ref b), (1, .ref (σ1 0)), (2, .ref (σ2 0)), (3, .int i)] [] SC' SM') : Lj p l e s m below meth c D cA σ1 σ2 b 991 [(0, .ref b), (1, .ref (σ1 0)), (2, .ref (σ2 0)), (3, .int i)] [] SC SM := by
  refine l_aload_n (pc := 991) X dL_law_991 rfl 1 rfl ?_
  refine l_aload_n (pc := 992) X dL_law_992 rfl 0 rfl ?_
  refine l_iload_n (pc := 993) X dL_law_993 rfl 3 rfl ?_
  refine l_iconst (pc := 994) (v := 1) X dL_law_994 (by decide) ?_
  refine l_arg (pc := 995) (n := 1) X (hin 1 (by decide)) dL_law_995 dL_law_996 ?_
  obtain ⟨r, SC', SM', e1, e2, hB', hR'⟩ : SimR SC SM kk (J8_up SC (xs (i + 1).toNatClampNeg)) (J9_up SM (xs (i + 1).toNatClampNeg)) := simr_up hB hR (xs (i + 1).toNatClampNeg)
  refine l_callC (pc := 997) (v := some (.int r)) X [.int (xs (i + 1).toNatClampNeg)] hVL_118 rfl rfl (Nat.le_of_ble_eq_true rfl) ⟨rfl, rfl, Nat.le_of_ble_eq_true rfl, Nat.le_of_ble_eq_true rfl⟩ dL_law_997 (cc8_up e1) ?_
  refine l_aload_n (pc := 1000) X dL_law_1000 rfl 2 rfl ?_
  refine l_aload_n (pc := 1001) X dL_law_1001 rfl 0 rfl ?_
  refine l_iload_n (pc := 1002) X dL_law_1002 rfl 3 rfl ?_
  refine l_iconst (pc := 1003) (v := 1) X dL_law_1003 (by decide) ?_
  refine l_arg (pc := 1004) (n := 1) X (hin 1 (by decide)) dL_law_1004 dL_law_1005 ?_
  refine l_callM (pc := 1006) (v := some (.int r)) X [.int (xs (i + 1).toNatClampNeg)] hVL_121 rfl rfl (Nat.le_of_ble_eq_true rfl) ⟨rfl, rfl, Nat.le_of_ble_eq_true rfl, Nat.le_of_ble_eq_true rfl⟩ dL_law_1006 (cc9_up e2) ?_
  refine l_icmp_eq (pc := 1009) (tgt := 1159) X dL_law_1009 (by decide) ?_
  exact K SC' SM' hB' hR'
set_option maxRecDepth 100000 in
set_option maxHeartbeats 4000000 in
theorem law_23 (X : lX p s m meth c D cA σ1 σ2 tS b Ls xs) {SC SM : St} {kk : Nat} {i : Int32} (hB : RB SC SM) (hR : Rru SC SM kk) (hk : kk < 999) (hin : ∀ n : Nat, n < 10 → vp_in (i + nI n) Ls) (K : ∀ SC' SM' : St, RB SC' SM' → Rru SC' SM' (kk + 1) → Lj p l e s m below meth c D cA σ1 σ2 b 1159 [(0, .ref b), (1, .ref (σ1 0)), (2, .ref (σ2 0)), (3, .int i)] [] SC' SM') : Lj p l e s m below meth c D cA σ1 σ2 b 1014 [(0, .ref b), (1, .ref (σ1 0)), (2, .ref (σ2 0)), (3, .int i)] [] SC SM := by
  refine l_aload_n (pc := 1014) X dL_law_1014 rfl 1 rfl ?_
  refine l_aload_n (pc := 1015) X dL_law_1015 rfl 0 rfl ?_
  refine l_iload_n (pc := 1016) X dL_law_1016 rfl 3 rfl ?_
  refine l_iconst (pc := 1017) (v := 1) X dL_law_1017 (by decide) ?_
  refine l_arg (pc := 1018) (n := 1) X (hin 1 (by decide)) dL_law_1018 dL_law_1019 ?_
  refine l_aload_n (pc := 1020) X dL_law_1020 rfl 0 rfl ?_
  refine l_iload_n (pc := 1021) X dL_law_1021 rfl 3 rfl ?_
  refine l_iconst (pc := 1022) (v := 2) X dL_law_1022 (by decide) ?_
  refine l_arg (pc := 1023) (n := 2) X (hin 2 (by decide)) dL_law_1023 dL_law_1024 ?_
  obtain ⟨r, SC', SM', e1, e2, hB', hR'⟩ : SimR SC SM kk (J8_sweep SC (xs (i + 1).toNatClampNeg) (xs (i + 2).toNatClampNeg)) (J9_sweep SM (xs (i + 1).toNatClampNeg) (xs (i + 2).toNatClampNeg)) := simr_sweep hB hR (xs (i + 1).toNatClampNeg) (xs (i + 2).toNatClampNeg)
  refine l_callC (pc := 1025) (v := some (.int r)) X [.int (xs (i + 1).toNatClampNeg), .int (xs (i + 2).toNatClampNeg)] hVL_122 rfl rfl (Nat.le_of_ble_eq_true rfl) ⟨rfl, rfl, Nat.le_of_ble_eq_true rfl, Nat.le_of_ble_eq_true rfl⟩ dL_law_1025 (cc8_sweep e1) ?_
  refine l_aload_n (pc := 1028) X dL_law_1028 rfl 2 rfl ?_
  refine l_aload_n (pc := 1029) X dL_law_1029 rfl 0 rfl ?_
  refine l_iload_n (pc := 1030) X dL_law_1030 rfl 3 rfl ?_
  refine l_iconst (pc := 1031) (v := 1) X dL_law_1031 (by decide) ?_
  refine l_arg (pc := 1032) (n := 1) X (hin 1 (by decide)) dL_law_1032 dL_law_1033 ?_
  refine l_aload_n (pc := 1034) X dL_law_1034 rfl 0 rfl ?_
  refine l_iload_n (pc := 1035) X dL_law_1035 rfl 3 rfl ?_
  refine l_iconst (pc := 1036) (v := 2) X dL_law_1036 (by decide) ?_
  refine l_arg (pc := 1037) (n := 2) X (hin 2 (by decide)) dL_law_1037 dL_law_1038 ?_
  refine l_callM (pc := 1039) (v := some (.int r)) X [.int (xs (i + 1).toNatClampNeg), .int (xs (i + 2).toNatClampNeg)] hVL_125 rfl rfl (Nat.le_of_ble_eq_true rfl) ⟨rfl, rfl, Nat.le_of_ble_eq_true rfl, Nat.le_of_ble_eq_true rfl⟩ dL_law_1039 (cc9_sweep e2) ?_
  refine l_icmp_eq (pc := 1042) (tgt := 1159) X dL_law_1042 (by decide) ?_
  exact K SC' SM' hB' hR'
set_option maxRecDepth 100000 in
set_option maxHeartbeats 4000000 in
theorem law_24 (X : lX p s m meth c D cA σ1 σ2 tS b Ls xs) {SC SM : St} {kk : Nat} {i : Int32} (hB : RB SC SM) (hR : Rru SC SM kk) (hk : kk < 999) (hin : ∀ n : Nat, n < 10 → vp_in (i + nI n) Ls) (K : ∀ SC' SM' : St, RB SC' SM' → Rru SC' SM' (kk + 1) → Lj p l e s m below meth c D cA σ1 σ2 b 1159 [(0, .ref b), (1, .ref (σ1 0)), (2, .ref (σ2 0)), (3, .int i)] [] SC' SM') : Lj p l e s m below meth c D cA σ1 σ2 b 1047 [(0, .ref b), (1, .ref (σ1 0)), (2, .ref (σ2 0)), (3, .int i)] [] SC SM := by
  refine l_aload_n (pc := 1047) X dL_law_1047 rfl 1 rfl ?_
  refine l_aload_n (pc := 1048) X dL_law_1048 rfl 0 rfl ?_
  refine l_iload_n (pc := 1049) X dL_law_1049 rfl 3 rfl ?_
  refine l_iconst (pc := 1050) (v := 1) X dL_law_1050 (by decide) ?_
  refine l_arg (pc := 1051) (n := 1) X (hin 1 (by decide)) dL_law_1051 dL_law_1052 ?_
  refine l_aload_n (pc := 1053) X dL_law_1053 rfl 0 rfl ?_
  refine l_iload_n (pc := 1054) X dL_law_1054 rfl 3 rfl ?_
  refine l_iconst (pc := 1055) (v := 2) X dL_law_1055 (by decide) ?_
  refine l_arg (pc := 1056) (n := 2) X (hin 2 (by decide)) dL_law_1056 dL_law_1057 ?_
  obtain ⟨r, SC', SM', e1, e2, hB', hR'⟩ : SimR SC SM kk (J8_of SC (xs (i + 1).toNatClampNeg) (xs (i + 2).toNatClampNeg)) (J9_of SM (xs (i + 1).toNatClampNeg) (xs (i + 2).toNatClampNeg)) := simr_of hB hR (xs (i + 1).toNatClampNeg) (xs (i + 2).toNatClampNeg)
  refine l_callC (pc := 1058) (v := some (.int r)) X [.int (xs (i + 1).toNatClampNeg), .int (xs (i + 2).toNatClampNeg)] hVL_126 rfl rfl (Nat.le_of_ble_eq_true rfl) ⟨rfl, rfl, Nat.le_of_ble_eq_true rfl, Nat.le_of_ble_eq_true rfl⟩ dL_law_1058 (cc8_of e1) ?_
  refine l_aload_n (pc := 1061) X dL_law_1061 rfl 2 rfl ?_
  refine l_aload_n (pc := 1062) X dL_law_1062 rfl 0 rfl ?_
  refine l_iload_n (pc := 1063) X dL_law_1063 rfl 3 rfl ?_
  refine l_iconst (pc := 1064) (v := 1) X dL_law_1064 (by decide) ?_
  refine l_arg (pc := 1065) (n := 1) X (hin 1 (by decide)) dL_law_1065 dL_law_1066 ?_
  refine l_aload_n (pc := 1067) X dL_law_1067 rfl 0 rfl ?_
  refine l_iload_n (pc := 1068) X dL_law_1068 rfl 3 rfl ?_
  refine l_iconst (pc := 1069) (v := 2) X dL_law_1069 (by decide) ?_
  refine l_arg (pc := 1070) (n := 2) X (hin 2 (by decide)) dL_law_1070 dL_law_1071 ?_
  refine l_callM (pc := 1072) (v := some (.int r)) X [.int (xs (i + 1).toNatClampNeg), .int (xs (i + 2).toNatClampNeg)] hVL_129 rfl rfl (Nat.le_of_ble_eq_true rfl) ⟨rfl, rfl, Nat.le_of_ble_eq_true rfl, Nat.le_of_ble_eq_true rfl⟩ dL_law_1072 (cc9_of e2) ?_
  refine l_icmp_eq (pc := 1075) (tgt := 1159) X dL_law_1075 (by decide) ?_
  exact K SC' SM' hB' hR'
set_option maxRecDepth 100000 in
set_option maxHeartbeats 4000000 in
theorem law_25 (X : lX p s m meth c D cA σ1 σ2 tS b Ls xs) {SC SM : St} {kk : Nat} {i : Int32} (hB : RB SC SM) (hR : Rru SC SM kk) (hk : kk < 999) (hin : ∀ n : Nat, n < 10 → vp_in (i + nI n) Ls) (K : ∀ SC' SM' : St, RB SC' SM' → Rru SC' SM' (kk + 1) → Lj p l e s m below meth c D cA σ1 σ2 b 1159 [(0, .ref b), (1, .ref (σ1 0)), (2, .ref (σ2 0)), (3, .int i)] [] SC' SM') : Lj p l e s m below meth c D cA σ1 σ2 b 1080 [(0, .ref b), (1, .ref (σ1 0)), (2, .ref (σ2 0)), (3, .int i)] [] SC SM := by
  refine l_aload_n (pc := 1080) X dL_law_1080 rfl 1 rfl ?_
  refine l_aload_n (pc := 1081) X dL_law_1081 rfl 0 rfl ?_
  refine l_iload_n (pc := 1082) X dL_law_1082 rfl 3 rfl ?_
  refine l_iconst (pc := 1083) (v := 1) X dL_law_1083 (by decide) ?_
  refine l_arg (pc := 1084) (n := 1) X (hin 1 (by decide)) dL_law_1084 dL_law_1085 ?_
  obtain ⟨r, SC', SM', e1, e2, hB', hR'⟩ : SimR SC SM kk (J8_done SC (xs (i + 1).toNatClampNeg)) (J9_done SM (xs (i + 1).toNatClampNeg)) := simr_done hB hR (xs (i + 1).toNatClampNeg)
  refine l_callC (pc := 1086) (v := some (.int r)) X [.int (xs (i + 1).toNatClampNeg)] hVL_130 rfl rfl (Nat.le_of_ble_eq_true rfl) ⟨rfl, rfl, Nat.le_of_ble_eq_true rfl, Nat.le_of_ble_eq_true rfl⟩ dL_law_1086 (cc8_done e1) ?_
  refine l_aload_n (pc := 1089) X dL_law_1089 rfl 2 rfl ?_
  refine l_aload_n (pc := 1090) X dL_law_1090 rfl 0 rfl ?_
  refine l_iload_n (pc := 1091) X dL_law_1091 rfl 3 rfl ?_
  refine l_iconst (pc := 1092) (v := 1) X dL_law_1092 (by decide) ?_
  refine l_arg (pc := 1093) (n := 1) X (hin 1 (by decide)) dL_law_1093 dL_law_1094 ?_
  refine l_callM (pc := 1095) (v := some (.int r)) X [.int (xs (i + 1).toNatClampNeg)] hVL_133 rfl rfl (Nat.le_of_ble_eq_true rfl) ⟨rfl, rfl, Nat.le_of_ble_eq_true rfl, Nat.le_of_ble_eq_true rfl⟩ dL_law_1095 (cc9_done e2) ?_
  refine l_icmp_eq (pc := 1098) (tgt := 1159) X dL_law_1098 (by decide) ?_
  exact K SC' SM' hB' hR'
set_option maxRecDepth 100000 in
set_option maxHeartbeats 4000000 in
theorem law_26 (X : lX p s m meth c D cA σ1 σ2 tS b Ls xs) {SC SM : St} {kk : Nat} {i : Int32} (hB : RB SC SM) (hR : Rru SC SM kk) (hk : kk < 999) (hin : ∀ n : Nat, n < 10 → vp_in (i + nI n) Ls) (K : ∀ SC' SM' : St, RB SC' SM' → Rru SC' SM' (kk + 1) → Lj p l e s m below meth c D cA σ1 σ2 b 1159 [(0, .ref b), (1, .ref (σ1 0)), (2, .ref (σ2 0)), (3, .int i)] [] SC' SM') : Lj p l e s m below meth c D cA σ1 σ2 b 1103 [(0, .ref b), (1, .ref (σ1 0)), (2, .ref (σ2 0)), (3, .int i)] [] SC SM := by
  refine l_aload_n (pc := 1103) X dL_law_1103 rfl 1 rfl ?_
  refine l_aload_n (pc := 1104) X dL_law_1104 rfl 0 rfl ?_
  refine l_iload_n (pc := 1105) X dL_law_1105 rfl 3 rfl ?_
  refine l_iconst (pc := 1106) (v := 1) X dL_law_1106 (by decide) ?_
  refine l_arg (pc := 1107) (n := 1) X (hin 1 (by decide)) dL_law_1107 dL_law_1108 ?_
  refine l_aload_n (pc := 1109) X dL_law_1109 rfl 0 rfl ?_
  refine l_iload_n (pc := 1110) X dL_law_1110 rfl 3 rfl ?_
  refine l_iconst (pc := 1111) (v := 2) X dL_law_1111 (by decide) ?_
  refine l_arg (pc := 1112) (n := 2) X (hin 2 (by decide)) dL_law_1112 dL_law_1113 ?_
  obtain ⟨r, SC', SM', e1, e2, hB', hR'⟩ : SimR SC SM kk (J8_got SC (xs (i + 1).toNatClampNeg) (xs (i + 2).toNatClampNeg)) (J9_got SM (xs (i + 1).toNatClampNeg) (xs (i + 2).toNatClampNeg)) := simr_got hB hR (xs (i + 1).toNatClampNeg) (xs (i + 2).toNatClampNeg)
  refine l_callC (pc := 1114) (v := some (.int r)) X [.int (xs (i + 1).toNatClampNeg), .int (xs (i + 2).toNatClampNeg)] hVL_134 rfl rfl (Nat.le_of_ble_eq_true rfl) ⟨rfl, rfl, Nat.le_of_ble_eq_true rfl, Nat.le_of_ble_eq_true rfl⟩ dL_law_1114 (cc8_got e1) ?_
  refine l_aload_n (pc := 1117) X dL_law_1117 rfl 2 rfl ?_
  refine l_aload_n (pc := 1118) X dL_law_1118 rfl 0 rfl ?_
  refine l_iload_n (pc := 1119) X dL_law_1119 rfl 3 rfl ?_
  refine l_iconst (pc := 1120) (v := 1) X dL_law_1120 (by decide) ?_
  refine l_arg (pc := 1121) (n := 1) X (hin 1 (by decide)) dL_law_1121 dL_law_1122 ?_
  refine l_aload_n (pc := 1123) X dL_law_1123 rfl 0 rfl ?_
  refine l_iload_n (pc := 1124) X dL_law_1124 rfl 3 rfl ?_
  refine l_iconst (pc := 1125) (v := 2) X dL_law_1125 (by decide) ?_
  refine l_arg (pc := 1126) (n := 2) X (hin 2 (by decide)) dL_law_1126 dL_law_1127 ?_
  refine l_callM (pc := 1128) (v := some (.int r)) X [.int (xs (i + 1).toNatClampNeg), .int (xs (i + 2).toNatClampNeg)] hVL_137 rfl rfl (Nat.le_of_ble_eq_true rfl) ⟨rfl, rfl, Nat.le_of_ble_eq_true rfl, Nat.le_of_ble_eq_true rfl⟩ dL_law_1128 (cc9_got e2) ?_
  refine l_icmp_eq (pc := 1131) (tgt := 1159) X dL_law_1131 (by decide) ?_
  exact K SC' SM' hB' hR'
set_option maxRecDepth 100000 in
set_option maxHeartbeats 4000000 in
theorem law_27 (X : lX p s m meth c D cA σ1 σ2 tS b Ls xs) {SC SM : St} {kk : Nat} {i : Int32} (hB : RB SC SM) (hR : Rru SC SM kk) (hk : kk < 999) (hin : ∀ n : Nat, n < 10 → vp_in (i + nI n) Ls) (K : ∀ SC' SM' : St, RB SC' SM' → Rru SC' SM' (kk + 1) → Lj p l e s m below meth c D cA σ1 σ2 b 1159 [(0, .ref b), (1, .ref (σ1 0)), (2, .ref (σ2 0)), (3, .int i)] [] SC' SM') : Lj p l e s m below meth c D cA σ1 σ2 b 1136 [(0, .ref b), (1, .ref (σ1 0)), (2, .ref (σ2 0)), (3, .int i)] [] SC SM := by
  refine l_aload_n (pc := 1136) X dL_law_1136 rfl 1 rfl ?_
  refine l_aload_n (pc := 1137) X dL_law_1137 rfl 0 rfl ?_
  refine l_iload_n (pc := 1138) X dL_law_1138 rfl 3 rfl ?_
  refine l_iconst (pc := 1139) (v := 1) X dL_law_1139 (by decide) ?_
  refine l_arg (pc := 1140) (n := 1) X (hin 1 (by decide)) dL_law_1140 dL_law_1141 ?_
  obtain ⟨r, SC', SM', e1, e2, hB', hR'⟩ : SimR SC SM kk (J8_tell SC (xs (i + 1).toNatClampNeg)) (J9_tell SM (xs (i + 1).toNatClampNeg)) := simr_tell hB hR (xs (i + 1).toNatClampNeg)
  refine l_callC (pc := 1142) (v := some (.int r)) X [.int (xs (i + 1).toNatClampNeg)] hVL_138 rfl rfl (Nat.le_of_ble_eq_true rfl) ⟨rfl, rfl, Nat.le_of_ble_eq_true rfl, Nat.le_of_ble_eq_true rfl⟩ dL_law_1142 (cc8_tell e1) ?_
  refine l_aload_n (pc := 1145) X dL_law_1145 rfl 2 rfl ?_
  refine l_aload_n (pc := 1146) X dL_law_1146 rfl 0 rfl ?_
  refine l_iload_n (pc := 1147) X dL_law_1147 rfl 3 rfl ?_
  refine l_iconst (pc := 1148) (v := 1) X dL_law_1148 (by decide) ?_
  refine l_arg (pc := 1149) (n := 1) X (hin 1 (by decide)) dL_law_1149 dL_law_1150 ?_
  refine l_callM (pc := 1151) (v := some (.int r)) X [.int (xs (i + 1).toNatClampNeg)] hVL_141 rfl rfl (Nat.le_of_ble_eq_true rfl) ⟨rfl, rfl, Nat.le_of_ble_eq_true rfl, Nat.le_of_ble_eq_true rfl⟩ dL_law_1151 (cc9_tell e2) ?_
  refine l_icmp_eq (pc := 1154) (tgt := 1159) X dL_law_1154 (by decide) ?_
  exact K SC' SM' hB' hR'
end LC
