/-! WORDS of methods and of calls, by their places in the list; written by a program -/
theorem tk_mw {w : Cond} (i : Nat) (h : lw_tbl[i]? = some w) (hg : goodWord w = true) : w ∈ tk_tbl := List.mem_filter.mpr ⟨List.mem_of_getElem? h, hg⟩
set_option maxRecDepth 100000 in
theorem wc_TK_init : Cond.code y_TK_init prog_1_method_1_code 2 none ∈ tk_tbl := tk_mw 46 rfl rfl
set_option maxRecDepth 100000 in
theorem wi_TK_init : Cond.instanceMethod y_TK_init ∈ tk_tbl := tk_mw 45 rfl rfl
set_option maxRecDepth 100000 in
theorem wc_TK_section : Cond.code y_TK_section prog_1_method_2_code 1 (some .int) ∈ tk_tbl := tk_mw 248 rfl rfl
set_option maxRecDepth 100000 in
theorem wi_TK_section : Cond.instanceMethod y_TK_section ∈ tk_tbl := tk_mw 246 rfl rfl
set_option maxRecDepth 100000 in
theorem wsl_TK_section : Cond.selects "TrackKeeper" y_TK_section y_TK_section ∈ tk_tbl := tk_mw 247 rfl rfl
set_option maxRecDepth 100000 in
theorem wc_TK_sub : Cond.code y_TK_sub prog_1_method_3_code 2 (some .int) ∈ tk_tbl := tk_mw 343 rfl rfl
set_option maxRecDepth 100000 in
theorem wi_TK_sub : Cond.instanceMethod y_TK_sub ∈ tk_tbl := tk_mw 341 rfl rfl
set_option maxRecDepth 100000 in
theorem wsl_TK_sub : Cond.selects "TrackKeeper" y_TK_sub y_TK_sub ∈ tk_tbl := tk_mw 342 rfl rfl
set_option maxRecDepth 100000 in
theorem wc_TK_begin : Cond.code y_TK_begin prog_1_method_4_code 5 (some .int) ∈ tk_tbl := tk_mw 373 rfl rfl
set_option maxRecDepth 100000 in
theorem wi_TK_begin : Cond.instanceMethod y_TK_begin ∈ tk_tbl := tk_mw 371 rfl rfl
set_option maxRecDepth 100000 in
theorem wsl_TK_begin : Cond.selects "TrackKeeper" y_TK_begin y_TK_begin ∈ tk_tbl := tk_mw 372 rfl rfl
set_option maxRecDepth 100000 in
theorem wc_TK_clear : Cond.code y_TK_clear prog_1_method_5_code 1 none ∈ tk_tbl := tk_mw 235 rfl rfl
set_option maxRecDepth 100000 in
theorem wi_TK_clear : Cond.instanceMethod y_TK_clear ∈ tk_tbl := tk_mw 233 rfl rfl
set_option maxRecDepth 100000 in
theorem wsl_TK_clear : Cond.selects "TrackKeeper" y_TK_clear y_TK_clear ∈ tk_tbl := tk_mw 234 rfl rfl
set_option maxRecDepth 100000 in
theorem wc_TK_detect : Cond.code y_TK_detect prog_1_method_6_code 3 none ∈ tk_tbl := tk_mw 392 rfl rfl
set_option maxRecDepth 100000 in
theorem wi_TK_detect : Cond.instanceMethod y_TK_detect ∈ tk_tbl := tk_mw 390 rfl rfl
set_option maxRecDepth 100000 in
theorem wsl_TK_detect : Cond.selects "TrackKeeper" y_TK_detect y_TK_detect ∈ tk_tbl := tk_mw 391 rfl rfl
set_option maxRecDepth 100000 in
theorem wc_TK_connect : Cond.code y_TK_connect prog_1_method_7_code 3 none ∈ tk_tbl := tk_mw 452 rfl rfl
set_option maxRecDepth 100000 in
theorem wi_TK_connect : Cond.instanceMethod y_TK_connect ∈ tk_tbl := tk_mw 450 rfl rfl
set_option maxRecDepth 100000 in
theorem wsl_TK_connect : Cond.selects "TrackKeeper" y_TK_connect y_TK_connect ∈ tk_tbl := tk_mw 451 rfl rfl
set_option maxRecDepth 100000 in
theorem wc_TK_report : Cond.code y_TK_report prog_1_method_8_code 4 (some .boolean) ∈ tk_tbl := tk_mw 467 rfl rfl
set_option maxRecDepth 100000 in
theorem wi_TK_report : Cond.instanceMethod y_TK_report ∈ tk_tbl := tk_mw 465 rfl rfl
set_option maxRecDepth 100000 in
theorem wsl_TK_report : Cond.selects "TrackKeeper" y_TK_report y_TK_report ∈ tk_tbl := tk_mw 466 rfl rfl
set_option maxRecDepth 100000 in
theorem wc_TK_leave : Cond.code y_TK_leave prog_1_method_9_code 2 none ∈ tk_tbl := tk_mw 508 rfl rfl
set_option maxRecDepth 100000 in
theorem wi_TK_leave : Cond.instanceMethod y_TK_leave ∈ tk_tbl := tk_mw 506 rfl rfl
set_option maxRecDepth 100000 in
theorem wsl_TK_leave : Cond.selects "TrackKeeper" y_TK_leave y_TK_leave ∈ tk_tbl := tk_mw 507 rfl rfl
set_option maxRecDepth 100000 in
theorem wc_TK_tick : Cond.code y_TK_tick prog_1_method_10_code 3 (some .int) ∈ tk_tbl := tk_mw 515 rfl rfl
set_option maxRecDepth 100000 in
theorem wi_TK_tick : Cond.instanceMethod y_TK_tick ∈ tk_tbl := tk_mw 513 rfl rfl
set_option maxRecDepth 100000 in
theorem wsl_TK_tick : Cond.selects "TrackKeeper" y_TK_tick y_TK_tick ∈ tk_tbl := tk_mw 514 rfl rfl
set_option maxRecDepth 100000 in
theorem wc_TK_request : Cond.code y_TK_request prog_1_method_11_code 3 (some .int) ∈ tk_tbl := tk_mw 531 rfl rfl
set_option maxRecDepth 100000 in
theorem wi_TK_request : Cond.instanceMethod y_TK_request ∈ tk_tbl := tk_mw 529 rfl rfl
set_option maxRecDepth 100000 in
theorem wsl_TK_request : Cond.selects "TrackKeeper" y_TK_request y_TK_request ∈ tk_tbl := tk_mw 530 rfl rfl
set_option maxRecDepth 100000 in
theorem wc_TK_state : Cond.code y_TK_state prog_1_method_12_code 2 (some .int) ∈ tk_tbl := tk_mw 554 rfl rfl
set_option maxRecDepth 100000 in
theorem wi_TK_state : Cond.instanceMethod y_TK_state ∈ tk_tbl := tk_mw 552 rfl rfl
set_option maxRecDepth 100000 in
theorem wsl_TK_state : Cond.selects "TrackKeeper" y_TK_state y_TK_state ∈ tk_tbl := tk_mw 553 rfl rfl
set_option maxRecDepth 100000 in
theorem wc_TK_train : Cond.code y_TK_train prog_1_method_13_code 3 (some .int) ∈ tk_tbl := tk_mw 561 rfl rfl
set_option maxRecDepth 100000 in
theorem wi_TK_train : Cond.instanceMethod y_TK_train ∈ tk_tbl := tk_mw 559 rfl rfl
set_option maxRecDepth 100000 in
theorem wsl_TK_train : Cond.selects "TrackKeeper" y_TK_train y_TK_train ∈ tk_tbl := tk_mw 560 rfl rfl
set_option maxRecDepth 100000 in
theorem wc_TK_count : Cond.code y_TK_count prog_1_method_14_code 3 (some .int) ∈ tk_tbl := tk_mw 572 rfl rfl
set_option maxRecDepth 100000 in
theorem wi_TK_count : Cond.instanceMethod y_TK_count ∈ tk_tbl := tk_mw 570 rfl rfl
set_option maxRecDepth 100000 in
theorem wsl_TK_count : Cond.selects "TrackKeeper" y_TK_count y_TK_count ∈ tk_tbl := tk_mw 571 rfl rfl
set_option maxRecDepth 100000 in
theorem wc_TK_countSinceBegin : Cond.code y_TK_countSinceBegin prog_1_method_15_code 3 (some .int) ∈ tk_tbl := tk_mw 576 rfl rfl
set_option maxRecDepth 100000 in
theorem wi_TK_countSinceBegin : Cond.instanceMethod y_TK_countSinceBegin ∈ tk_tbl := tk_mw 575 rfl rfl
set_option maxRecDepth 100000 in
theorem wsl_TK_countSinceBegin : Cond.selects "TrackKeeper" y_TK_countSinceBegin y_TK_countSinceBegin ∈ tk_tbl := tk_mw 12 rfl rfl
set_option maxRecDepth 100000 in
theorem wc_TK_requireBegun : Cond.code y_TK_requireBegun prog_1_method_16_code 1 none ∈ tk_tbl := tk_mw 396 rfl rfl
set_option maxRecDepth 100000 in
theorem wi_TK_requireBegun : Cond.instanceMethod y_TK_requireBegun ∈ tk_tbl := tk_mw 395 rfl rfl
set_option maxRecDepth 100000 in
theorem wsl_TK_requireBegun : Cond.selects "TrackKeeper" y_TK_requireBegun y_TK_requireBegun ∈ tk_tbl := tk_mw 1 rfl rfl
set_option maxRecDepth 100000 in
theorem wc_TK_requireConnected : Cond.code y_TK_requireConnected prog_1_method_17_code 2 none ∈ tk_tbl := tk_mw 471 rfl rfl
set_option maxRecDepth 100000 in
theorem wi_TK_requireConnected : Cond.instanceMethod y_TK_requireConnected ∈ tk_tbl := tk_mw 470 rfl rfl
set_option maxRecDepth 100000 in
theorem wsl_TK_requireConnected : Cond.selects "TrackKeeper" y_TK_requireConnected y_TK_requireConnected ∈ tk_tbl := tk_mw 9 rfl rfl
set_option maxRecDepth 100000 in
theorem wc_TK_isTrain : Cond.code y_TK_isTrain prog_1_method_18_code 1 (some .boolean) ∈ tk_tbl := tk_mw 455 rfl rfl
set_option maxRecDepth 100000 in
theorem wst_TK_isTrain : Cond.static y_TK_isTrain ∈ tk_tbl := tk_mw 454 rfl rfl
set_option maxRecDepth 100000 in
theorem wc_TK_isWithin : Cond.code y_TK_isWithin prog_1_method_19_code 3 (some .boolean) ∈ tk_tbl := tk_mw 347 rfl rfl
set_option maxRecDepth 100000 in
theorem wst_TK_isWithin : Cond.static y_TK_isWithin ∈ tk_tbl := tk_mw 346 rfl rfl
set_option maxRecDepth 100000 in
theorem wc_TK_findAllAnew : Cond.code y_TK_findAllAnew prog_1_method_20_code 2 none ∈ tk_tbl := tk_mw 405 rfl rfl
set_option maxRecDepth 100000 in
theorem wi_TK_findAllAnew : Cond.instanceMethod y_TK_findAllAnew ∈ tk_tbl := tk_mw 404 rfl rfl
set_option maxRecDepth 100000 in
theorem wsl_TK_findAllAnew : Cond.selects "TrackKeeper" y_TK_findAllAnew y_TK_findAllAnew ∈ tk_tbl := tk_mw 2 rfl rfl
set_option maxRecDepth 100000 in
theorem wc_Mo_init : Cond.code y_Mo_init prog_8_method_1_code 1 none ∈ tk_tbl := tk_mw 581 rfl rfl
set_option maxRecDepth 100000 in
theorem wi_Mo_init : Cond.instanceMethod y_Mo_init ∈ tk_tbl := tk_mw 580 rfl rfl
set_option maxRecDepth 100000 in
theorem wc_Mo_thrown : Cond.code y_Mo_thrown prog_8_method_2_code 1 (some .int) ∈ tk_tbl := tk_mw 694 rfl rfl
set_option maxRecDepth 100000 in
theorem wi_Mo_thrown : Cond.instanceMethod y_Mo_thrown ∈ tk_tbl := tk_mw 692 rfl rfl
set_option maxRecDepth 100000 in
theorem wsl_Mo_thrown : Cond.selects "TrackKeeperModel" y_Mo_thrown y_Mo_thrown ∈ tk_tbl := tk_mw 693 rfl rfl
set_option maxRecDepth 100000 in
theorem wc_Mo_in : Cond.code y_Mo_in prog_8_method_3_code 3 (some .boolean) ∈ tk_tbl := tk_mw 714 rfl rfl
set_option maxRecDepth 100000 in
theorem wst_Mo_in : Cond.static y_Mo_in ∈ tk_tbl := tk_mw 713 rfl rfl
set_option maxRecDepth 100000 in
theorem wc_Mo_fails : Cond.code y_Mo_fails prog_8_method_4_code 3 (some .boolean) ∈ tk_tbl := tk_mw 706 rfl rfl
set_option maxRecDepth 100000 in
theorem wi_Mo_fails : Cond.instanceMethod y_Mo_fails ∈ tk_tbl := tk_mw 705 rfl rfl
set_option maxRecDepth 100000 in
theorem wsl_Mo_fails : Cond.selects "TrackKeeperModel" y_Mo_fails y_Mo_fails ∈ tk_tbl := tk_mw 14 rfl rfl
set_option maxRecDepth 100000 in
theorem wc_Mo_isWaiting : Cond.code y_Mo_isWaiting prog_8_method_5_code 1 (some .boolean) ∈ tk_tbl := tk_mw 702 rfl rfl
set_option maxRecDepth 100000 in
theorem wi_Mo_isWaiting : Cond.instanceMethod y_Mo_isWaiting ∈ tk_tbl := tk_mw 701 rfl rfl
set_option maxRecDepth 100000 in
theorem wsl_Mo_isWaiting : Cond.selects "TrackKeeperModel" y_Mo_isWaiting y_Mo_isWaiting ∈ tk_tbl := tk_mw 13 rfl rfl
set_option maxRecDepth 100000 in
theorem wc_Mo_section : Cond.code y_Mo_section prog_8_method_6_code 1 (some .int) ∈ tk_tbl := tk_mw 698 rfl rfl
set_option maxRecDepth 100000 in
theorem wi_Mo_section : Cond.instanceMethod y_Mo_section ∈ tk_tbl := tk_mw 696 rfl rfl
set_option maxRecDepth 100000 in
theorem wsl_Mo_section : Cond.selects "TrackKeeperModel" y_Mo_section y_Mo_section ∈ tk_tbl := tk_mw 697 rfl rfl
set_option maxRecDepth 100000 in
theorem wc_Mo_sub : Cond.code y_Mo_sub prog_8_method_7_code 2 (some .int) ∈ tk_tbl := tk_mw 710 rfl rfl
set_option maxRecDepth 100000 in
theorem wi_Mo_sub : Cond.instanceMethod y_Mo_sub ∈ tk_tbl := tk_mw 708 rfl rfl
set_option maxRecDepth 100000 in
theorem wsl_Mo_sub : Cond.selects "TrackKeeperModel" y_Mo_sub y_Mo_sub ∈ tk_tbl := tk_mw 709 rfl rfl
set_option maxRecDepth 100000 in
theorem wc_Mo_begin : Cond.code y_Mo_begin prog_8_method_8_code 4 (some .int) ∈ tk_tbl := tk_mw 718 rfl rfl
set_option maxRecDepth 100000 in
theorem wi_Mo_begin : Cond.instanceMethod y_Mo_begin ∈ tk_tbl := tk_mw 716 rfl rfl
set_option maxRecDepth 100000 in
theorem wsl_Mo_begin : Cond.selects "TrackKeeperModel" y_Mo_begin y_Mo_begin ∈ tk_tbl := tk_mw 717 rfl rfl
set_option maxRecDepth 100000 in
theorem wc_Mo_reset : Cond.code y_Mo_reset prog_8_method_9_code 2 none ∈ tk_tbl := tk_mw 722 rfl rfl
set_option maxRecDepth 100000 in
theorem wi_Mo_reset : Cond.instanceMethod y_Mo_reset ∈ tk_tbl := tk_mw 721 rfl rfl
set_option maxRecDepth 100000 in
theorem wsl_Mo_reset : Cond.selects "TrackKeeperModel" y_Mo_reset y_Mo_reset ∈ tk_tbl := tk_mw 15 rfl rfl
set_option maxRecDepth 100000 in
theorem wc_Mo_clear : Cond.code y_Mo_clear prog_8_method_10_code 1 none ∈ tk_tbl := tk_mw 726 rfl rfl
set_option maxRecDepth 100000 in
theorem wi_Mo_clear : Cond.instanceMethod y_Mo_clear ∈ tk_tbl := tk_mw 724 rfl rfl
set_option maxRecDepth 100000 in
theorem wsl_Mo_clear : Cond.selects "TrackKeeperModel" y_Mo_clear y_Mo_clear ∈ tk_tbl := tk_mw 725 rfl rfl
set_option maxRecDepth 100000 in
theorem wc_Mo_subOf : Cond.code y_Mo_subOf prog_8_method_11_code 3 (some .int) ∈ tk_tbl := tk_mw 746 rfl rfl
set_option maxRecDepth 100000 in
theorem wi_Mo_subOf : Cond.instanceMethod y_Mo_subOf ∈ tk_tbl := tk_mw 745 rfl rfl
set_option maxRecDepth 100000 in
theorem wsl_Mo_subOf : Cond.selects "TrackKeeperModel" y_Mo_subOf y_Mo_subOf ∈ tk_tbl := tk_mw 19 rfl rfl
set_option maxRecDepth 100000 in
theorem wc_Mo_isLocated : Cond.code y_Mo_isLocated prog_8_method_12_code 2 (some .boolean) ∈ tk_tbl := tk_mw 742 rfl rfl
set_option maxRecDepth 100000 in
theorem wi_Mo_isLocated : Cond.instanceMethod y_Mo_isLocated ∈ tk_tbl := tk_mw 741 rfl rfl
set_option maxRecDepth 100000 in
theorem wsl_Mo_isLocated : Cond.selects "TrackKeeperModel" y_Mo_isLocated y_Mo_isLocated ∈ tk_tbl := tk_mw 18 rfl rfl
set_option maxRecDepth 100000 in
theorem wc_Mo_isWhole : Cond.code y_Mo_isWhole prog_8_method_13_code 2 (some .boolean) ∈ tk_tbl := tk_mw 763 rfl rfl
set_option maxRecDepth 100000 in
theorem wi_Mo_isWhole : Cond.instanceMethod y_Mo_isWhole ∈ tk_tbl := tk_mw 762 rfl rfl
set_option maxRecDepth 100000 in
theorem wsl_Mo_isWhole : Cond.selects "TrackKeeperModel" y_Mo_isWhole y_Mo_isWhole ∈ tk_tbl := tk_mw 21 rfl rfl
set_option maxRecDepth 100000 in
theorem wc_Mo_find : Cond.code y_Mo_find prog_8_method_14_code 3 none ∈ tk_tbl := tk_mw 738 rfl rfl
set_option maxRecDepth 100000 in
theorem wi_Mo_find : Cond.instanceMethod y_Mo_find ∈ tk_tbl := tk_mw 737 rfl rfl
set_option maxRecDepth 100000 in
theorem wsl_Mo_find : Cond.selects "TrackKeeperModel" y_Mo_find y_Mo_find ∈ tk_tbl := tk_mw 17 rfl rfl
set_option maxRecDepth 100000 in
theorem wc_Mo_only : Cond.code y_Mo_only prog_8_method_15_code 2 (some .int) ∈ tk_tbl := tk_mw 759 rfl rfl
set_option maxRecDepth 100000 in
theorem wst_Mo_only : Cond.static y_Mo_only ∈ tk_tbl := tk_mw 758 rfl rfl
set_option maxRecDepth 100000 in
theorem wc_Mo_found : Cond.code y_Mo_found prog_8_method_16_code 7 (some .int) ∈ tk_tbl := tk_mw 750 rfl rfl
set_option maxRecDepth 100000 in
theorem wi_Mo_found : Cond.instanceMethod y_Mo_found ∈ tk_tbl := tk_mw 749 rfl rfl
set_option maxRecDepth 100000 in
theorem wsl_Mo_found : Cond.selects "TrackKeeperModel" y_Mo_found y_Mo_found ∈ tk_tbl := tk_mw 20 rfl rfl
set_option maxRecDepth 100000 in
theorem wc_Mo_authority : Cond.code y_Mo_authority prog_8_method_17_code 4 none ∈ tk_tbl := tk_mw 767 rfl rfl
set_option maxRecDepth 100000 in
theorem wi_Mo_authority : Cond.instanceMethod y_Mo_authority ∈ tk_tbl := tk_mw 766 rfl rfl
set_option maxRecDepth 100000 in
theorem wsl_Mo_authority : Cond.selects "TrackKeeperModel" y_Mo_authority y_Mo_authority ∈ tk_tbl := tk_mw 22 rfl rfl
set_option maxRecDepth 100000 in
theorem wc_Mo_holds : Cond.code y_Mo_holds prog_8_method_18_code 4 (some .boolean) ∈ tk_tbl := tk_mw 771 rfl rfl
set_option maxRecDepth 100000 in
theorem wi_Mo_holds : Cond.instanceMethod y_Mo_holds ∈ tk_tbl := tk_mw 770 rfl rfl
set_option maxRecDepth 100000 in
theorem wsl_Mo_holds : Cond.selects "TrackKeeperModel" y_Mo_holds y_Mo_holds ∈ tk_tbl := tk_mw 23 rfl rfl
set_option maxRecDepth 100000 in
theorem wc_Mo_settle : Cond.code y_Mo_settle prog_8_method_19_code 2 none ∈ tk_tbl := tk_mw 734 rfl rfl
set_option maxRecDepth 100000 in
theorem wi_Mo_settle : Cond.instanceMethod y_Mo_settle ∈ tk_tbl := tk_mw 733 rfl rfl
set_option maxRecDepth 100000 in
theorem wsl_Mo_settle : Cond.selects "TrackKeeperModel" y_Mo_settle y_Mo_settle ∈ tk_tbl := tk_mw 16 rfl rfl
set_option maxRecDepth 100000 in
theorem wc_Mo_detect : Cond.code y_Mo_detect prog_8_method_20_code 3 none ∈ tk_tbl := tk_mw 730 rfl rfl
set_option maxRecDepth 100000 in
theorem wi_Mo_detect : Cond.instanceMethod y_Mo_detect ∈ tk_tbl := tk_mw 728 rfl rfl
set_option maxRecDepth 100000 in
theorem wsl_Mo_detect : Cond.selects "TrackKeeperModel" y_Mo_detect y_Mo_detect ∈ tk_tbl := tk_mw 729 rfl rfl
set_option maxRecDepth 100000 in
theorem wc_Mo_connect : Cond.code y_Mo_connect prog_8_method_21_code 3 none ∈ tk_tbl := tk_mw 775 rfl rfl
set_option maxRecDepth 100000 in
theorem wi_Mo_connect : Cond.instanceMethod y_Mo_connect ∈ tk_tbl := tk_mw 773 rfl rfl
set_option maxRecDepth 100000 in
theorem wsl_Mo_connect : Cond.selects "TrackKeeperModel" y_Mo_connect y_Mo_connect ∈ tk_tbl := tk_mw 774 rfl rfl
set_option maxRecDepth 100000 in
theorem wc_Mo_report : Cond.code y_Mo_report prog_8_method_22_code 5 (some .boolean) ∈ tk_tbl := tk_mw 779 rfl rfl
set_option maxRecDepth 100000 in
theorem wi_Mo_report : Cond.instanceMethod y_Mo_report ∈ tk_tbl := tk_mw 777 rfl rfl
set_option maxRecDepth 100000 in
theorem wsl_Mo_report : Cond.selects "TrackKeeperModel" y_Mo_report y_Mo_report ∈ tk_tbl := tk_mw 778 rfl rfl
set_option maxRecDepth 100000 in
theorem wc_Mo_leave : Cond.code y_Mo_leave prog_8_method_23_code 2 none ∈ tk_tbl := tk_mw 783 rfl rfl
set_option maxRecDepth 100000 in
theorem wi_Mo_leave : Cond.instanceMethod y_Mo_leave ∈ tk_tbl := tk_mw 781 rfl rfl
set_option maxRecDepth 100000 in
theorem wsl_Mo_leave : Cond.selects "TrackKeeperModel" y_Mo_leave y_Mo_leave ∈ tk_tbl := tk_mw 782 rfl rfl
set_option maxRecDepth 100000 in
theorem wc_Mo_tick : Cond.code y_Mo_tick prog_8_method_24_code 4 (some .int) ∈ tk_tbl := tk_mw 787 rfl rfl
set_option maxRecDepth 100000 in
theorem wi_Mo_tick : Cond.instanceMethod y_Mo_tick ∈ tk_tbl := tk_mw 785 rfl rfl
set_option maxRecDepth 100000 in
theorem wsl_Mo_tick : Cond.selects "TrackKeeperModel" y_Mo_tick y_Mo_tick ∈ tk_tbl := tk_mw 786 rfl rfl
set_option maxRecDepth 100000 in
theorem wc_Mo_request : Cond.code y_Mo_request prog_8_method_25_code 4 (some .int) ∈ tk_tbl := tk_mw 792 rfl rfl
set_option maxRecDepth 100000 in
theorem wi_Mo_request : Cond.instanceMethod y_Mo_request ∈ tk_tbl := tk_mw 790 rfl rfl
set_option maxRecDepth 100000 in
theorem wsl_Mo_request : Cond.selects "TrackKeeperModel" y_Mo_request y_Mo_request ∈ tk_tbl := tk_mw 791 rfl rfl
set_option maxRecDepth 100000 in
theorem wc_Mo_isTaken : Cond.code y_Mo_isTaken prog_8_method_26_code 4 (some .boolean) ∈ tk_tbl := tk_mw 796 rfl rfl
set_option maxRecDepth 100000 in
theorem wi_Mo_isTaken : Cond.instanceMethod y_Mo_isTaken ∈ tk_tbl := tk_mw 795 rfl rfl
set_option maxRecDepth 100000 in
theorem wsl_Mo_isTaken : Cond.selects "TrackKeeperModel" y_Mo_isTaken y_Mo_isTaken ∈ tk_tbl := tk_mw 24 rfl rfl
set_option maxRecDepth 100000 in
theorem wc_Mo_state : Cond.code y_Mo_state prog_8_method_27_code 2 (some .int) ∈ tk_tbl := tk_mw 800 rfl rfl
set_option maxRecDepth 100000 in
theorem wi_Mo_state : Cond.instanceMethod y_Mo_state ∈ tk_tbl := tk_mw 798 rfl rfl
set_option maxRecDepth 100000 in
theorem wsl_Mo_state : Cond.selects "TrackKeeperModel" y_Mo_state y_Mo_state ∈ tk_tbl := tk_mw 799 rfl rfl
set_option maxRecDepth 100000 in
theorem wc_Mo_train : Cond.code y_Mo_train prog_8_method_28_code 3 (some .int) ∈ tk_tbl := tk_mw 804 rfl rfl
set_option maxRecDepth 100000 in
theorem wi_Mo_train : Cond.instanceMethod y_Mo_train ∈ tk_tbl := tk_mw 802 rfl rfl
set_option maxRecDepth 100000 in
theorem wsl_Mo_train : Cond.selects "TrackKeeperModel" y_Mo_train y_Mo_train ∈ tk_tbl := tk_mw 803 rfl rfl
set_option maxRecDepth 100000 in
theorem wc_Mo_count : Cond.code y_Mo_count prog_8_method_29_code 3 (some .int) ∈ tk_tbl := tk_mw 808 rfl rfl
set_option maxRecDepth 100000 in
theorem wi_Mo_count : Cond.instanceMethod y_Mo_count ∈ tk_tbl := tk_mw 806 rfl rfl
set_option maxRecDepth 100000 in
theorem wsl_Mo_count : Cond.selects "TrackKeeperModel" y_Mo_count y_Mo_count ∈ tk_tbl := tk_mw 807 rfl rfl
set_option maxRecDepth 100000 in
theorem wc_Au_init : Cond.code y_Au_init prog_2_method_1_code 1 none ∈ tk_tbl := tk_mw 139 rfl rfl
set_option maxRecDepth 100000 in
theorem wi_Au_init : Cond.instanceMethod y_Au_init ∈ tk_tbl := tk_mw 138 rfl rfl
set_option maxRecDepth 100000 in
theorem wc_Au_forgetCounts : Cond.code y_Au_forgetCounts prog_2_method_2_code 1 none ∈ tk_tbl := tk_mw 381 rfl rfl
set_option maxRecDepth 100000 in
theorem wi_Au_forgetCounts : Cond.instanceMethod y_Au_forgetCounts ∈ tk_tbl := tk_mw 379 rfl rfl
set_option maxRecDepth 100000 in
theorem wsl_Au_forgetCounts : Cond.selects "TrackKeeper$Authorities" y_Au_forgetCounts y_Au_forgetCounts ∈ tk_tbl := tk_mw 380 rfl rfl
set_option maxRecDepth 100000 in
theorem wc_Au_extend : Cond.code y_Au_extend prog_2_method_3_code 7 none ∈ tk_tbl := tk_mw 539 rfl rfl
set_option maxRecDepth 100000 in
theorem wi_Au_extend : Cond.instanceMethod y_Au_extend ∈ tk_tbl := tk_mw 537 rfl rfl
set_option maxRecDepth 100000 in
theorem wsl_Au_extend : Cond.selects "TrackKeeper$Authorities" y_Au_extend y_Au_extend ∈ tk_tbl := tk_mw 538 rfl rfl
set_option maxRecDepth 100000 in
theorem wc_Au_isHeldByOther : Cond.code y_Au_isHeldByOther prog_2_method_4_code 5 (some .boolean) ∈ tk_tbl := tk_mw 543 rfl rfl
set_option maxRecDepth 100000 in
theorem wi_Au_isHeldByOther : Cond.instanceMethod y_Au_isHeldByOther ∈ tk_tbl := tk_mw 542 rfl rfl
set_option maxRecDepth 100000 in
theorem wsl_Au_isHeldByOther : Cond.selects "TrackKeeper$Authorities" y_Au_isHeldByOther y_Au_isHeldByOther ∈ tk_tbl := tk_mw 11 rfl rfl
set_option maxRecDepth 100000 in
theorem wc_Au_settle : Cond.code y_Au_settle prog_2_method_5_code 4 none ∈ tk_tbl := tk_mw 441 rfl rfl
set_option maxRecDepth 100000 in
theorem wi_Au_settle : Cond.instanceMethod y_Au_settle ∈ tk_tbl := tk_mw 439 rfl rfl
set_option maxRecDepth 100000 in
theorem wsl_Au_settle : Cond.selects "TrackKeeper$Authorities" y_Au_settle y_Au_settle ∈ tk_tbl := tk_mw 440 rfl rfl
set_option maxRecDepth 100000 in
theorem wc_Au_settleOne : Cond.code y_Au_settleOne prog_2_method_6_code 4 none ∈ tk_tbl := tk_mw 445 rfl rfl
set_option maxRecDepth 100000 in
theorem wi_Au_settleOne : Cond.instanceMethod y_Au_settleOne ∈ tk_tbl := tk_mw 444 rfl rfl
set_option maxRecDepth 100000 in
theorem wsl_Au_settleOne : Cond.selects "TrackKeeper$Authorities" y_Au_settleOne y_Au_settleOne ∈ tk_tbl := tk_mw 8 rfl rfl
set_option maxRecDepth 100000 in
theorem wc_Se_init : Cond.code y_Se_init prog_3_method_1_code 1 none ∈ tk_tbl := tk_mw 63 rfl rfl
set_option maxRecDepth 100000 in
theorem wi_Se_init : Cond.instanceMethod y_Se_init ∈ tk_tbl := tk_mw 62 rfl rfl
set_option maxRecDepth 100000 in
theorem wc_Su_init : Cond.code y_Su_init prog_4_method_1_code 1 none ∈ tk_tbl := tk_mw 89 rfl rfl
set_option maxRecDepth 100000 in
theorem wi_Su_init : Cond.instanceMethod y_Su_init ∈ tk_tbl := tk_mw 88 rfl rfl
set_option maxRecDepth 100000 in
theorem wc_Tr_init : Cond.code y_Tr_init prog_5_method_1_code 2 none ∈ tk_tbl := tk_mw 54 rfl rfl
set_option maxRecDepth 100000 in
theorem wi_Tr_init : Cond.instanceMethod y_Tr_init ∈ tk_tbl := tk_mw 53 rfl rfl
set_option maxRecDepth 100000 in
theorem wc_Tr_removeAll : Cond.code y_Tr_removeAll prog_5_method_2_code 1 none ∈ tk_tbl := tk_mw 239 rfl rfl
set_option maxRecDepth 100000 in
theorem wi_Tr_removeAll : Cond.instanceMethod y_Tr_removeAll ∈ tk_tbl := tk_mw 237 rfl rfl
set_option maxRecDepth 100000 in
theorem wsl_Tr_removeAll : Cond.selects "TrackKeeper$Track" y_Tr_removeAll y_Tr_removeAll ∈ tk_tbl := tk_mw 238 rfl rfl
set_option maxRecDepth 100000 in
theorem wc_Tr_latestIsBare : Cond.code y_Tr_latestIsBare prog_5_method_3_code 1 (some .boolean) ∈ tk_tbl := tk_mw 252 rfl rfl
set_option maxRecDepth 100000 in
theorem wi_Tr_latestIsBare : Cond.instanceMethod y_Tr_latestIsBare ∈ tk_tbl := tk_mw 250 rfl rfl
set_option maxRecDepth 100000 in
theorem wsl_Tr_latestIsBare : Cond.selects "TrackKeeper$Track" y_Tr_latestIsBare y_Tr_latestIsBare ∈ tk_tbl := tk_mw 251 rfl rfl
set_option maxRecDepth 100000 in
theorem wc_Tr_hasSection : Cond.code y_Tr_hasSection prog_5_method_4_code 2 (some .boolean) ∈ tk_tbl := tk_mw 400 rfl rfl
set_option maxRecDepth 100000 in
theorem wi_Tr_hasSection : Cond.instanceMethod y_Tr_hasSection ∈ tk_tbl := tk_mw 398 rfl rfl
set_option maxRecDepth 100000 in
theorem wsl_Tr_hasSection : Cond.selects "TrackKeeper$Track" y_Tr_hasSection y_Tr_hasSection ∈ tk_tbl := tk_mw 399 rfl rfl
set_option maxRecDepth 100000 in
theorem wc_Tr_hasSubsection : Cond.code y_Tr_hasSubsection prog_5_method_5_code 2 (some .boolean) ∈ tk_tbl := tk_mw 535 rfl rfl
set_option maxRecDepth 100000 in
theorem wi_Tr_hasSubsection : Cond.instanceMethod y_Tr_hasSubsection ∈ tk_tbl := tk_mw 533 rfl rfl
set_option maxRecDepth 100000 in
theorem wsl_Tr_hasSubsection : Cond.selects "TrackKeeper$Track" y_Tr_hasSubsection y_Tr_hasSubsection ∈ tk_tbl := tk_mw 534 rfl rfl
set_option maxRecDepth 100000 in
theorem wc_Tr_addSection : Cond.code y_Tr_addSection prog_5_method_6_code 1 (some .int) ∈ tk_tbl := tk_mw 335 rfl rfl
set_option maxRecDepth 100000 in
theorem wi_Tr_addSection : Cond.instanceMethod y_Tr_addSection ∈ tk_tbl := tk_mw 333 rfl rfl
set_option maxRecDepth 100000 in
theorem wsl_Tr_addSection : Cond.selects "TrackKeeper$Track" y_Tr_addSection y_Tr_addSection ∈ tk_tbl := tk_mw 334 rfl rfl
set_option maxRecDepth 100000 in
theorem wc_Tr_addSubsection : Cond.code y_Tr_addSubsection prog_5_method_7_code 2 (some .int) ∈ tk_tbl := tk_mw 366 rfl rfl
set_option maxRecDepth 100000 in
theorem wi_Tr_addSubsection : Cond.instanceMethod y_Tr_addSubsection ∈ tk_tbl := tk_mw 364 rfl rfl
set_option maxRecDepth 100000 in
theorem wsl_Tr_addSubsection : Cond.selects "TrackKeeper$Track" y_Tr_addSubsection y_Tr_addSubsection ∈ tk_tbl := tk_mw 365 rfl rfl
set_option maxRecDepth 100000 in
theorem wc_Tr_emptyAll : Cond.code y_Tr_emptyAll prog_5_method_8_code 2 none ∈ tk_tbl := tk_mw 377 rfl rfl
set_option maxRecDepth 100000 in
theorem wi_Tr_emptyAll : Cond.instanceMethod y_Tr_emptyAll ∈ tk_tbl := tk_mw 375 rfl rfl
set_option maxRecDepth 100000 in
theorem wsl_Tr_emptyAll : Cond.selects "TrackKeeper$Track" y_Tr_emptyAll y_Tr_emptyAll ∈ tk_tbl := tk_mw 376 rfl rfl
set_option maxRecDepth 100000 in
theorem wc_Tr_subsectionAt : Cond.code y_Tr_subsectionAt prog_5_method_9_code 3 (some .int) ∈ tk_tbl := tk_mw 501 rfl rfl
set_option maxRecDepth 100000 in
theorem wi_Tr_subsectionAt : Cond.instanceMethod y_Tr_subsectionAt ∈ tk_tbl := tk_mw 499 rfl rfl
set_option maxRecDepth 100000 in
theorem wsl_Tr_subsectionAt : Cond.selects "TrackKeeper$Track" y_Tr_subsectionAt y_Tr_subsectionAt ∈ tk_tbl := tk_mw 500 rfl rfl
set_option maxRecDepth 100000 in
theorem wc_Tr_countForSpreads : Cond.code y_Tr_countForSpreads prog_5_method_10_code 3 none ∈ tk_tbl := tk_mw 520 rfl rfl
set_option maxRecDepth 100000 in
theorem wi_Tr_countForSpreads : Cond.instanceMethod y_Tr_countForSpreads ∈ tk_tbl := tk_mw 518 rfl rfl
set_option maxRecDepth 100000 in
theorem wsl_Tr_countForSpreads : Cond.selects "TrackKeeper$Track" y_Tr_countForSpreads y_Tr_countForSpreads ∈ tk_tbl := tk_mw 519 rfl rfl
set_option maxRecDepth 100000 in
theorem wc_Tr_countForSpread : Cond.code y_Tr_countForSpread prog_5_method_11_code 3 none ∈ tk_tbl := tk_mw 524 rfl rfl
set_option maxRecDepth 100000 in
theorem wi_Tr_countForSpread : Cond.instanceMethod y_Tr_countForSpread ∈ tk_tbl := tk_mw 523 rfl rfl
set_option maxRecDepth 100000 in
theorem wsl_Tr_countForSpread : Cond.selects "TrackKeeper$Track" y_Tr_countForSpread y_Tr_countForSpread ∈ tk_tbl := tk_mw 10 rfl rfl
set_option maxRecDepth 100000 in
theorem wc_Tr_isUnsure : Cond.code y_Tr_isUnsure prog_5_method_12_code 3 (some .boolean) ∈ tk_tbl := tk_mw 437 rfl rfl
set_option maxRecDepth 100000 in
theorem wi_Tr_isUnsure : Cond.instanceMethod y_Tr_isUnsure ∈ tk_tbl := tk_mw 436 rfl rfl
set_option maxRecDepth 100000 in
theorem wsl_Tr_isUnsure : Cond.selects "TrackKeeper$Track" y_Tr_isUnsure y_Tr_isUnsure ∈ tk_tbl := tk_mw 7 rfl rfl
set_option maxRecDepth 100000 in
theorem wc_Tr_findStates : Cond.code y_Tr_findStates prog_5_method_13_code 3 none ∈ tk_tbl := tk_mw 413 rfl rfl
set_option maxRecDepth 100000 in
theorem wi_Tr_findStates : Cond.instanceMethod y_Tr_findStates ∈ tk_tbl := tk_mw 411 rfl rfl
set_option maxRecDepth 100000 in
theorem wsl_Tr_findStates : Cond.selects "TrackKeeper$Track" y_Tr_findStates y_Tr_findStates ∈ tk_tbl := tk_mw 412 rfl rfl
set_option maxRecDepth 100000 in
theorem wc_Tr_markTrains : Cond.code y_Tr_markTrains prog_5_method_14_code 3 none ∈ tk_tbl := tk_mw 417 rfl rfl
set_option maxRecDepth 100000 in
theorem wi_Tr_markTrains : Cond.instanceMethod y_Tr_markTrains ∈ tk_tbl := tk_mw 416 rfl rfl
set_option maxRecDepth 100000 in
theorem wsl_Tr_markTrains : Cond.selects "TrackKeeper$Track" y_Tr_markTrains y_Tr_markTrains ∈ tk_tbl := tk_mw 3 rfl rfl
set_option maxRecDepth 100000 in
theorem wc_Tr_markTrain : Cond.code y_Tr_markTrain prog_5_method_15_code 4 none ∈ tk_tbl := tk_mw 421 rfl rfl
set_option maxRecDepth 100000 in
theorem wi_Tr_markTrain : Cond.instanceMethod y_Tr_markTrain ∈ tk_tbl := tk_mw 420 rfl rfl
set_option maxRecDepth 100000 in
theorem wsl_Tr_markTrain : Cond.selects "TrackKeeper$Track" y_Tr_markTrain y_Tr_markTrain ∈ tk_tbl := tk_mw 4 rfl rfl
set_option maxRecDepth 100000 in
theorem wc_Tr_nothingCanFollow : Cond.code y_Tr_nothingCanFollow prog_5_method_16_code 2 (some .boolean) ∈ tk_tbl := tk_mw 425 rfl rfl
set_option maxRecDepth 100000 in
theorem wi_Tr_nothingCanFollow : Cond.instanceMethod y_Tr_nothingCanFollow ∈ tk_tbl := tk_mw 424 rfl rfl
set_option maxRecDepth 100000 in
theorem wsl_Tr_nothingCanFollow : Cond.selects "TrackKeeper$Track" y_Tr_nothingCanFollow y_Tr_nothingCanFollow ∈ tk_tbl := tk_mw 5 rfl rfl
set_option maxRecDepth 100000 in
theorem wc_Tr_newState : Cond.code y_Tr_newState prog_5_method_17_code 5 (some .int) ∈ tk_tbl := tk_mw 429 rfl rfl
set_option maxRecDepth 100000 in
theorem wi_Tr_newState : Cond.instanceMethod y_Tr_newState ∈ tk_tbl := tk_mw 428 rfl rfl
set_option maxRecDepth 100000 in
theorem wsl_Tr_newState : Cond.selects "TrackKeeper$Track" y_Tr_newState y_Tr_newState ∈ tk_tbl := tk_mw 6 rfl rfl
set_option maxRecDepth 100000 in
theorem wc_Ti_init : Cond.code y_Ti_init prog_6_method_1_code 1 none ∈ tk_tbl := tk_mw 155 rfl rfl
set_option maxRecDepth 100000 in
theorem wi_Ti_init : Cond.instanceMethod y_Ti_init ∈ tk_tbl := tk_mw 154 rfl rfl
set_option maxRecDepth 100000 in
theorem wc_Ti_forgetAll : Cond.code y_Ti_forgetAll prog_6_method_2_code 1 none ∈ tk_tbl := tk_mw 385 rfl rfl
set_option maxRecDepth 100000 in
theorem wi_Ti_forgetAll : Cond.instanceMethod y_Ti_forgetAll ∈ tk_tbl := tk_mw 383 rfl rfl
set_option maxRecDepth 100000 in
theorem wsl_Ti_forgetAll : Cond.selects "TrackKeeper$Train" y_Ti_forgetAll y_Ti_forgetAll ∈ tk_tbl := tk_mw 384 rfl rfl
set_option maxRecDepth 100000 in
theorem wc_Ti_join : Cond.code y_Ti_join prog_6_method_3_code 2 none ∈ tk_tbl := tk_mw 459 rfl rfl
set_option maxRecDepth 100000 in
theorem wi_Ti_join : Cond.instanceMethod y_Ti_join ∈ tk_tbl := tk_mw 457 rfl rfl
set_option maxRecDepth 100000 in
theorem wsl_Ti_join : Cond.selects "TrackKeeper$Train" y_Ti_join y_Ti_join ∈ tk_tbl := tk_mw 458 rfl rfl
set_option maxRecDepth 100000 in
theorem wc_Ti_wasBeyond : Cond.code y_Ti_wasBeyond prog_6_method_4_code 2 (some .boolean) ∈ tk_tbl := tk_mw 490 rfl rfl
set_option maxRecDepth 100000 in
theorem wi_Ti_wasBeyond : Cond.instanceMethod y_Ti_wasBeyond ∈ tk_tbl := tk_mw 488 rfl rfl
set_option maxRecDepth 100000 in
theorem wsl_Ti_wasBeyond : Cond.selects "TrackKeeper$Train" y_Ti_wasBeyond y_Ti_wasBeyond ∈ tk_tbl := tk_mw 489 rfl rfl
set_option maxRecDepth 100000 in
theorem wc_Ti_take : Cond.code y_Ti_take prog_6_method_5_code 5 none ∈ tk_tbl := tk_mw 494 rfl rfl
set_option maxRecDepth 100000 in
theorem wi_Ti_take : Cond.instanceMethod y_Ti_take ∈ tk_tbl := tk_mw 492 rfl rfl
set_option maxRecDepth 100000 in
theorem wsl_Ti_take : Cond.selects "TrackKeeper$Train" y_Ti_take y_Ti_take ∈ tk_tbl := tk_mw 493 rfl rfl
set_option maxRecDepth 100000 in
theorem wc_Ti_judge : Cond.code y_Ti_judge prog_6_method_6_code 4 none ∈ tk_tbl := tk_mw 409 rfl rfl
set_option maxRecDepth 100000 in
theorem wi_Ti_judge : Cond.instanceMethod y_Ti_judge ∈ tk_tbl := tk_mw 407 rfl rfl
set_option maxRecDepth 100000 in
theorem wsl_Ti_judge : Cond.selects "TrackKeeper$Train" y_Ti_judge y_Ti_judge ∈ tk_tbl := tk_mw 408 rfl rfl
set_option maxRecDepth 100000 in
theorem wc_Ti_hasLeft : Cond.code y_Ti_hasLeft prog_6_method_7_code 2 (some .boolean) ∈ tk_tbl := tk_mw 433 rfl rfl
set_option maxRecDepth 100000 in
theorem wi_Ti_hasLeft : Cond.instanceMethod y_Ti_hasLeft ∈ tk_tbl := tk_mw 431 rfl rfl
set_option maxRecDepth 100000 in
theorem wsl_Ti_hasLeft : Cond.selects "TrackKeeper$Train" y_Ti_hasLeft y_Ti_hasLeft ∈ tk_tbl := tk_mw 432 rfl rfl
set_option maxRecDepth 100000 in
theorem wc_Ti_holds : Cond.code y_Ti_holds prog_6_method_8_code 2 (some .boolean) ∈ tk_tbl := tk_mw 547 rfl rfl
set_option maxRecDepth 100000 in
theorem wi_Ti_holds : Cond.instanceMethod y_Ti_holds ∈ tk_tbl := tk_mw 545 rfl rfl
set_option maxRecDepth 100000 in
theorem wsl_Ti_holds : Cond.selects "TrackKeeper$Train" y_Ti_holds y_Ti_holds ∈ tk_tbl := tk_mw 546 rfl rfl
set_option maxRecDepth 100000 in
theorem wc_Ti_tell : Cond.code y_Ti_tell prog_6_method_9_code 2 (some .int) ∈ tk_tbl := tk_mw 565 rfl rfl
set_option maxRecDepth 100000 in
theorem wi_Ti_tell : Cond.instanceMethod y_Ti_tell ∈ tk_tbl := tk_mw 563 rfl rfl
set_option maxRecDepth 100000 in
theorem wsl_Ti_tell : Cond.selects "TrackKeeper$Train" y_Ti_tell y_Ti_tell ∈ tk_tbl := tk_mw 564 rfl rfl
set_option maxRecDepth 100000 in
theorem wst_La_section : Cond.static y_La_section ∈ tk_tbl := tk_mw 241 rfl rfl
set_option maxRecDepth 100000 in
theorem wst_La_sub : Cond.static y_La_sub ∈ tk_tbl := tk_mw 337 rfl rfl
set_option maxRecDepth 100000 in
theorem wst_La_begin : Cond.static y_La_begin ∈ tk_tbl := tk_mw 368 rfl rfl
set_option maxRecDepth 100000 in
theorem wst_La_detect : Cond.static y_La_detect ∈ tk_tbl := tk_mw 387 rfl rfl
set_option maxRecDepth 100000 in
theorem wst_La_connect : Cond.static y_La_connect ∈ tk_tbl := tk_mw 447 rfl rfl
set_option maxRecDepth 100000 in
theorem wst_La_report : Cond.static y_La_report ∈ tk_tbl := tk_mw 461 rfl rfl
set_option maxRecDepth 100000 in
theorem wst_La_leave : Cond.static y_La_leave ∈ tk_tbl := tk_mw 503 rfl rfl
set_option maxRecDepth 100000 in
theorem wst_La_tick : Cond.static y_La_tick ∈ tk_tbl := tk_mw 510 rfl rfl
set_option maxRecDepth 100000 in
theorem wst_La_request : Cond.static y_La_request ∈ tk_tbl := tk_mw 526 rfl rfl
set_option maxRecDepth 100000 in
theorem wst_La_state : Cond.static y_La_state ∈ tk_tbl := tk_mw 549 rfl rfl
set_option maxRecDepth 100000 in
theorem wst_La_train : Cond.static y_La_train ∈ tk_tbl := tk_mw 556 rfl rfl
set_option maxRecDepth 100000 in
theorem wst_La_count : Cond.static y_La_count ∈ tk_tbl := tk_mw 567 rfl rfl
set_option maxRecDepth 100000 in
theorem wc_In_bitCount : Cond.code y_In_bitCount prog_13_method_49_code 1 (some .int) ∈ tk_tbl := tk_mw 753 rfl rfl
set_option maxRecDepth 100000 in
theorem wst_In_bitCount : Cond.static y_In_bitCount ∈ tk_tbl := tk_mw 752 rfl rfl
set_option maxRecDepth 100000 in
theorem wn_TK : Cond.initialized "TrackKeeper" ∈ tk_tbl := tk_mw 26 rfl rfl
set_option maxRecDepth 100000 in
theorem wn_Au : Cond.initialized "TrackKeeper$Authorities" ∈ tk_tbl := tk_mw 30 rfl rfl
set_option maxRecDepth 100000 in
theorem wn_Se : Cond.initialized "TrackKeeper$Section" ∈ tk_tbl := tk_mw 28 rfl rfl
set_option maxRecDepth 100000 in
theorem wn_Su : Cond.initialized "TrackKeeper$Subsection" ∈ tk_tbl := tk_mw 29 rfl rfl
set_option maxRecDepth 100000 in
theorem wn_Tr : Cond.initialized "TrackKeeper$Track" ∈ tk_tbl := tk_mw 27 rfl rfl
set_option maxRecDepth 100000 in
theorem wn_Ti : Cond.initialized "TrackKeeper$Train" ∈ tk_tbl := tk_mw 31 rfl rfl
set_option maxRecDepth 100000 in
theorem wn_Mo : Cond.initialized "TrackKeeperModel" ∈ tk_tbl := tk_mw 32 rfl rfl
set_option maxRecDepth 100000 in
theorem wn_La : Cond.initialized "TrackKeeperLaw" ∈ tk_tbl := tk_mw 25 rfl rfl
set_option maxRecDepth 100000 in
theorem wn_In : Cond.initialized "java/lang/Integer" ∈ tk_tbl := tk_mw 39 rfl rfl
set_option maxRecDepth 100000 in
theorem lk_La_61 : tk_lnk "TrackKeeperLaw" 61 y_TK_init 0 := ⟨tk_mw 44 rfl rfl, by decide, by decide +kernel, by decide +kernel⟩
set_option maxRecDepth 100000 in
theorem lk_TK_9 : tk_lnk "TrackKeeper" 9 y_Tr_init 0 := ⟨tk_mw 52 rfl rfl, by decide, by decide +kernel, by decide +kernel⟩
set_option maxRecDepth 100000 in
theorem lk_La_82 : tk_lnk "TrackKeeperLaw" 82 y_TK_clear 0 := ⟨tk_mw 232 rfl rfl, by decide, by decide +kernel, by decide +kernel⟩
set_option maxRecDepth 100000 in
theorem lk_TK_91 : tk_lnk "TrackKeeper" 91 y_Tr_removeAll 0 := ⟨tk_mw 236 rfl rfl, by decide, by decide +kernel, by decide +kernel⟩
set_option maxRecDepth 100000 in
theorem lk_La_65 : tk_lnk "TrackKeeperLaw" 65 y_La_section 2 := ⟨tk_mw 240 rfl rfl, by decide, by decide +kernel, by decide +kernel⟩
set_option maxRecDepth 100000 in
theorem lk_La_7 : tk_lnk "TrackKeeperLaw" 7 y_TK_section 0 := ⟨tk_mw 245 rfl rfl, by decide, by decide +kernel, by decide +kernel⟩
set_option maxRecDepth 100000 in
theorem lk_TK_34 : tk_lnk "TrackKeeper" 34 y_Tr_latestIsBare 0 := ⟨tk_mw 249 rfl rfl, by decide, by decide +kernel, by decide +kernel⟩
set_option maxRecDepth 100000 in
theorem lk_TK_48 : tk_lnk "TrackKeeper" 48 y_Tr_addSection 0 := ⟨tk_mw 332 rfl rfl, by decide, by decide +kernel, by decide +kernel⟩
set_option maxRecDepth 100000 in
theorem lk_La_74 : tk_lnk "TrackKeeperLaw" 74 y_La_sub 3 := ⟨tk_mw 336 rfl rfl, by decide, by decide +kernel, by decide +kernel⟩
set_option maxRecDepth 100000 in
theorem lk_La_17 : tk_lnk "TrackKeeperLaw" 17 y_TK_sub 1 := ⟨tk_mw 340 rfl rfl, by decide, by decide +kernel, by decide +kernel⟩
set_option maxRecDepth 100000 in
theorem lk_TK_53 : tk_lnk "TrackKeeper" 53 y_TK_isWithin 3 := ⟨tk_mw 345 rfl rfl, by decide, by decide +kernel, by decide +kernel⟩
set_option maxRecDepth 100000 in
theorem lk_TK_63 : tk_lnk "TrackKeeper" 63 y_Tr_addSubsection 1 := ⟨tk_mw 363 rfl rfl, by decide, by decide +kernel, by decide +kernel⟩
set_option maxRecDepth 100000 in
theorem lk_La_78 : tk_lnk "TrackKeeperLaw" 78 y_La_begin 5 := ⟨tk_mw 367 rfl rfl, by decide, by decide +kernel, by decide +kernel⟩
set_option maxRecDepth 100000 in
theorem lk_La_23 : tk_lnk "TrackKeeperLaw" 23 y_TK_begin 3 := ⟨tk_mw 370 rfl rfl, by decide, by decide +kernel, by decide +kernel⟩
set_option maxRecDepth 100000 in
theorem lk_TK_79 : tk_lnk "TrackKeeper" 79 y_Tr_emptyAll 0 := ⟨tk_mw 374 rfl rfl, by decide, by decide +kernel, by decide +kernel⟩
set_option maxRecDepth 100000 in
theorem lk_TK_82 : tk_lnk "TrackKeeper" 82 y_Au_forgetCounts 0 := ⟨tk_mw 378 rfl rfl, by decide, by decide +kernel, by decide +kernel⟩
set_option maxRecDepth 100000 in
theorem lk_TK_85 : tk_lnk "TrackKeeper" 85 y_Ti_forgetAll 0 := ⟨tk_mw 382 rfl rfl, by decide, by decide +kernel, by decide +kernel⟩
set_option maxRecDepth 100000 in
theorem lk_La_86 : tk_lnk "TrackKeeperLaw" 86 y_La_detect 3 := ⟨tk_mw 386 rfl rfl, by decide, by decide +kernel, by decide +kernel⟩
set_option maxRecDepth 100000 in
theorem lk_La_27 : tk_lnk "TrackKeeperLaw" 27 y_TK_detect 2 := ⟨tk_mw 389 rfl rfl, by decide, by decide +kernel, by decide +kernel⟩
set_option maxRecDepth 100000 in
theorem lk_TK_94 : tk_lnk "TrackKeeper" 94 y_TK_requireBegun 0 := ⟨tk_mw 393 rfl rfl, by decide, by decide +kernel, by decide +kernel⟩
set_option maxRecDepth 100000 in
theorem lk_TK_97 : tk_lnk "TrackKeeper" 97 y_Tr_hasSection 1 := ⟨tk_mw 397 rfl rfl, by decide, by decide +kernel, by decide +kernel⟩
set_option maxRecDepth 100000 in
theorem lk_TK_110 : tk_lnk "TrackKeeper" 110 y_TK_findAllAnew 0 := ⟨tk_mw 402 rfl rfl, by decide, by decide +kernel, by decide +kernel⟩
set_option maxRecDepth 100000 in
theorem lk_TK_181 : tk_lnk "TrackKeeper" 181 y_Ti_judge 3 := ⟨tk_mw 406 rfl rfl, by decide, by decide +kernel, by decide +kernel⟩
set_option maxRecDepth 100000 in
theorem lk_TK_185 : tk_lnk "TrackKeeper" 185 y_Tr_findStates 1 := ⟨tk_mw 410 rfl rfl, by decide, by decide +kernel, by decide +kernel⟩
set_option maxRecDepth 100000 in
theorem lk_Tr_75 : tk_lnk "TrackKeeper$Track" 75 y_Tr_markTrains 1 := ⟨tk_mw 414 rfl rfl, by decide, by decide +kernel, by decide +kernel⟩
set_option maxRecDepth 100000 in
theorem lk_Tr_94 : tk_lnk "TrackKeeper$Track" 94 y_Tr_markTrain 2 := ⟨tk_mw 418 rfl rfl, by decide, by decide +kernel, by decide +kernel⟩
set_option maxRecDepth 100000 in
theorem lk_Tr_104 : tk_lnk "TrackKeeper$Track" 104 y_Tr_nothingCanFollow 1 := ⟨tk_mw 422 rfl rfl, by decide, by decide +kernel, by decide +kernel⟩
set_option maxRecDepth 100000 in
theorem lk_Tr_79 : tk_lnk "TrackKeeper$Track" 79 y_Tr_newState 3 := ⟨tk_mw 426 rfl rfl, by decide, by decide +kernel, by decide +kernel⟩
set_option maxRecDepth 100000 in
theorem lk_Tr_117 : tk_lnk "TrackKeeper$Track" 117 y_Ti_hasLeft 1 := ⟨tk_mw 430 rfl rfl, by decide, by decide +kernel, by decide +kernel⟩
set_option maxRecDepth 100000 in
theorem lk_Tr_64 : tk_lnk "TrackKeeper$Track" 64 y_Tr_isUnsure 1 := ⟨tk_mw 434 rfl rfl, by decide, by decide +kernel, by decide +kernel⟩
set_option maxRecDepth 100000 in
theorem lk_TK_189 : tk_lnk "TrackKeeper" 189 y_Au_settle 2 := ⟨tk_mw 438 rfl rfl, by decide, by decide +kernel, by decide +kernel⟩
set_option maxRecDepth 100000 in
theorem lk_Au_45 : tk_lnk "TrackKeeper$Authorities" 45 y_Au_settleOne 2 := ⟨tk_mw 442 rfl rfl, by decide, by decide +kernel, by decide +kernel⟩
set_option maxRecDepth 100000 in
theorem lk_La_90 : tk_lnk "TrackKeeperLaw" 90 y_La_connect 3 := ⟨tk_mw 446 rfl rfl, by decide, by decide +kernel, by decide +kernel⟩
set_option maxRecDepth 100000 in
theorem lk_La_31 : tk_lnk "TrackKeeperLaw" 31 y_TK_connect 2 := ⟨tk_mw 449 rfl rfl, by decide, by decide +kernel, by decide +kernel⟩
set_option maxRecDepth 100000 in
theorem lk_TK_113 : tk_lnk "TrackKeeper" 113 y_TK_isTrain 1 := ⟨tk_mw 453 rfl rfl, by decide, by decide +kernel, by decide +kernel⟩
set_option maxRecDepth 100000 in
theorem lk_TK_116 : tk_lnk "TrackKeeper" 116 y_Ti_join 1 := ⟨tk_mw 456 rfl rfl, by decide, by decide +kernel, by decide +kernel⟩
set_option maxRecDepth 100000 in
theorem lk_La_94 : tk_lnk "TrackKeeperLaw" 94 y_La_report 5 := ⟨tk_mw 460 rfl rfl, by decide, by decide +kernel, by decide +kernel⟩
set_option maxRecDepth 100000 in
theorem lk_La_35 : tk_lnk "TrackKeeperLaw" 35 y_TK_report 3 := ⟨tk_mw 464 rfl rfl, by decide, by decide +kernel, by decide +kernel⟩
set_option maxRecDepth 100000 in
theorem lk_TK_120 : tk_lnk "TrackKeeper" 120 y_TK_requireConnected 1 := ⟨tk_mw 468 rfl rfl, by decide, by decide +kernel, by decide +kernel⟩
set_option maxRecDepth 100000 in
theorem lk_TK_123 : tk_lnk "TrackKeeper" 123 y_Ti_wasBeyond 1 := ⟨tk_mw 487 rfl rfl, by decide, by decide +kernel, by decide +kernel⟩
set_option maxRecDepth 100000 in
theorem lk_TK_126 : tk_lnk "TrackKeeper" 126 y_Ti_take 4 := ⟨tk_mw 491 rfl rfl, by decide, by decide +kernel, by decide +kernel⟩
set_option maxRecDepth 100000 in
theorem lk_Ti_43 : tk_lnk "TrackKeeper$Train" 43 y_Tr_subsectionAt 1 := ⟨tk_mw 498 rfl rfl, by decide, by decide +kernel, by decide +kernel⟩
set_option maxRecDepth 100000 in
theorem lk_La_97 : tk_lnk "TrackKeeperLaw" 97 y_La_leave 2 := ⟨tk_mw 502 rfl rfl, by decide, by decide +kernel, by decide +kernel⟩
set_option maxRecDepth 100000 in
theorem lk_La_41 : tk_lnk "TrackKeeperLaw" 41 y_TK_leave 1 := ⟨tk_mw 505 rfl rfl, by decide, by decide +kernel, by decide +kernel⟩
set_option maxRecDepth 100000 in
theorem lk_La_101 : tk_lnk "TrackKeeperLaw" 101 y_La_tick 3 := ⟨tk_mw 509 rfl rfl, by decide, by decide +kernel, by decide +kernel⟩
set_option maxRecDepth 100000 in
theorem lk_La_45 : tk_lnk "TrackKeeperLaw" 45 y_TK_tick 1 := ⟨tk_mw 512 rfl rfl, by decide, by decide +kernel, by decide +kernel⟩
set_option maxRecDepth 100000 in
theorem lk_TK_134 : tk_lnk "TrackKeeper" 134 y_Tr_countForSpreads 1 := ⟨tk_mw 517 rfl rfl, by decide, by decide +kernel, by decide +kernel⟩
set_option maxRecDepth 100000 in
theorem lk_Tr_68 : tk_lnk "TrackKeeper$Track" 68 y_Tr_countForSpread 2 := ⟨tk_mw 521 rfl rfl, by decide, by decide +kernel, by decide +kernel⟩
set_option maxRecDepth 100000 in
theorem lk_La_104 : tk_lnk "TrackKeeperLaw" 104 y_La_request 4 := ⟨tk_mw 525 rfl rfl, by decide, by decide +kernel, by decide +kernel⟩
set_option maxRecDepth 100000 in
theorem lk_La_48 : tk_lnk "TrackKeeperLaw" 48 y_TK_request 2 := ⟨tk_mw 528 rfl rfl, by decide, by decide +kernel, by decide +kernel⟩
set_option maxRecDepth 100000 in
theorem lk_TK_137 : tk_lnk "TrackKeeper" 137 y_Tr_hasSubsection 1 := ⟨tk_mw 532 rfl rfl, by decide, by decide +kernel, by decide +kernel⟩
set_option maxRecDepth 100000 in
theorem lk_TK_146 : tk_lnk "TrackKeeper" 146 y_Au_extend 4 := ⟨tk_mw 536 rfl rfl, by decide, by decide +kernel, by decide +kernel⟩
set_option maxRecDepth 100000 in
theorem lk_Au_34 : tk_lnk "TrackKeeper$Authorities" 34 y_Au_isHeldByOther 3 := ⟨tk_mw 540 rfl rfl, by decide, by decide +kernel, by decide +kernel⟩
set_option maxRecDepth 100000 in
theorem lk_Au_41 : tk_lnk "TrackKeeper$Authorities" 41 y_Ti_holds 1 := ⟨tk_mw 544 rfl rfl, by decide, by decide +kernel, by decide +kernel⟩
set_option maxRecDepth 100000 in
theorem lk_La_108 : tk_lnk "TrackKeeperLaw" 108 y_La_state 3 := ⟨tk_mw 548 rfl rfl, by decide, by decide +kernel, by decide +kernel⟩
set_option maxRecDepth 100000 in
theorem lk_La_52 : tk_lnk "TrackKeeperLaw" 52 y_TK_state 1 := ⟨tk_mw 551 rfl rfl, by decide, by decide +kernel, by decide +kernel⟩
set_option maxRecDepth 100000 in
theorem lk_La_111 : tk_lnk "TrackKeeperLaw" 111 y_La_train 4 := ⟨tk_mw 555 rfl rfl, by decide, by decide +kernel, by decide +kernel⟩
set_option maxRecDepth 100000 in
theorem lk_La_55 : tk_lnk "TrackKeeperLaw" 55 y_TK_train 2 := ⟨tk_mw 558 rfl rfl, by decide, by decide +kernel, by decide +kernel⟩
set_option maxRecDepth 100000 in
theorem lk_TK_162 : tk_lnk "TrackKeeper" 162 y_Ti_tell 1 := ⟨tk_mw 562 rfl rfl, by decide, by decide +kernel, by decide +kernel⟩
set_option maxRecDepth 100000 in
theorem lk_La_114 : tk_lnk "TrackKeeperLaw" 114 y_La_count 4 := ⟨tk_mw 566 rfl rfl, by decide, by decide +kernel, by decide +kernel⟩
set_option maxRecDepth 100000 in
theorem lk_La_58 : tk_lnk "TrackKeeperLaw" 58 y_TK_count 2 := ⟨tk_mw 569 rfl rfl, by decide, by decide +kernel, by decide +kernel⟩
set_option maxRecDepth 100000 in
theorem lk_TK_165 : tk_lnk "TrackKeeper" 165 y_TK_countSinceBegin 2 := ⟨tk_mw 573 rfl rfl, by decide, by decide +kernel, by decide +kernel⟩
set_option maxRecDepth 100000 in
theorem lk_La_64 : tk_lnk "TrackKeeperLaw" 64 y_Mo_init 0 := ⟨tk_mw 579 rfl rfl, by decide, by decide +kernel, by decide +kernel⟩
set_option maxRecDepth 100000 in
theorem lk_La_71 : tk_lnk "TrackKeeperLaw" 71 y_Mo_thrown 0 := ⟨tk_mw 691 rfl rfl, by decide, by decide +kernel, by decide +kernel⟩
set_option maxRecDepth 100000 in
theorem lk_La_70 : tk_lnk "TrackKeeperLaw" 70 y_Mo_section 0 := ⟨tk_mw 695 rfl rfl, by decide, by decide +kernel, by decide +kernel⟩
set_option maxRecDepth 100000 in
theorem lk_Mo_94 : tk_lnk "TrackKeeperModel" 94 y_Mo_isWaiting 0 := ⟨tk_mw 699 rfl rfl, by decide, by decide +kernel, by decide +kernel⟩
set_option maxRecDepth 100000 in
theorem lk_Mo_98 : tk_lnk "TrackKeeperModel" 98 y_Mo_fails 2 := ⟨tk_mw 703 rfl rfl, by decide, by decide +kernel, by decide +kernel⟩
set_option maxRecDepth 100000 in
theorem lk_La_77 : tk_lnk "TrackKeeperLaw" 77 y_Mo_sub 1 := ⟨tk_mw 707 rfl rfl, by decide, by decide +kernel, by decide +kernel⟩
set_option maxRecDepth 100000 in
theorem lk_Mo_103 : tk_lnk "TrackKeeperModel" 103 y_Mo_in 3 := ⟨tk_mw 712 rfl rfl, by decide, by decide +kernel, by decide +kernel⟩
set_option maxRecDepth 100000 in
theorem lk_La_81 : tk_lnk "TrackKeeperLaw" 81 y_Mo_begin 3 := ⟨tk_mw 715 rfl rfl, by decide, by decide +kernel, by decide +kernel⟩
set_option maxRecDepth 100000 in
theorem lk_Mo_119 : tk_lnk "TrackKeeperModel" 119 y_Mo_reset 0 := ⟨tk_mw 719 rfl rfl, by decide, by decide +kernel, by decide +kernel⟩
set_option maxRecDepth 100000 in
theorem lk_La_85 : tk_lnk "TrackKeeperLaw" 85 y_Mo_clear 0 := ⟨tk_mw 723 rfl rfl, by decide, by decide +kernel, by decide +kernel⟩
set_option maxRecDepth 100000 in
theorem lk_La_89 : tk_lnk "TrackKeeperLaw" 89 y_Mo_detect 2 := ⟨tk_mw 727 rfl rfl, by decide, by decide +kernel, by decide +kernel⟩
set_option maxRecDepth 100000 in
theorem lk_Mo_166 : tk_lnk "TrackKeeperModel" 166 y_Mo_settle 0 := ⟨tk_mw 731 rfl rfl, by decide, by decide +kernel, by decide +kernel⟩
set_option maxRecDepth 100000 in
theorem lk_Mo_160 : tk_lnk "TrackKeeperModel" 160 y_Mo_find 0 := ⟨tk_mw 735 rfl rfl, by decide, by decide +kernel, by decide +kernel⟩
set_option maxRecDepth 100000 in
theorem lk_Mo_134 : tk_lnk "TrackKeeperModel" 134 y_Mo_isLocated 1 := ⟨tk_mw 739 rfl rfl, by decide, by decide +kernel, by decide +kernel⟩
set_option maxRecDepth 100000 in
theorem lk_Mo_138 : tk_lnk "TrackKeeperModel" 138 y_Mo_subOf 1 := ⟨tk_mw 743 rfl rfl, by decide, by decide +kernel, by decide +kernel⟩
set_option maxRecDepth 100000 in
theorem lk_Mo_142 : tk_lnk "TrackKeeperModel" 142 y_Mo_found 1 := ⟨tk_mw 747 rfl rfl, by decide, by decide +kernel, by decide +kernel⟩
set_option maxRecDepth 100000 in
theorem lk_Mo_149 : tk_lnk "TrackKeeperModel" 149 y_In_bitCount 1 := ⟨tk_mw 751 rfl rfl, by decide, by decide +kernel, by decide +kernel⟩
set_option maxRecDepth 100000 in
theorem lk_Mo_154 : tk_lnk "TrackKeeperModel" 154 y_Mo_only 1 := ⟨tk_mw 757 rfl rfl, by decide, by decide +kernel, by decide +kernel⟩
set_option maxRecDepth 100000 in
theorem lk_Mo_157 : tk_lnk "TrackKeeperModel" 157 y_Mo_isWhole 1 := ⟨tk_mw 760 rfl rfl, by decide, by decide +kernel, by decide +kernel⟩
set_option maxRecDepth 100000 in
theorem lk_Mo_145 : tk_lnk "TrackKeeperModel" 145 y_Mo_authority 1 := ⟨tk_mw 764 rfl rfl, by decide, by decide +kernel, by decide +kernel⟩
set_option maxRecDepth 100000 in
theorem lk_Mo_163 : tk_lnk "TrackKeeperModel" 163 y_Mo_holds 1 := ⟨tk_mw 768 rfl rfl, by decide, by decide +kernel, by decide +kernel⟩
set_option maxRecDepth 100000 in
theorem lk_La_93 : tk_lnk "TrackKeeperLaw" 93 y_Mo_connect 2 := ⟨tk_mw 772 rfl rfl, by decide, by decide +kernel, by decide +kernel⟩
set_option maxRecDepth 100000 in
theorem lk_La_96 : tk_lnk "TrackKeeperLaw" 96 y_Mo_report 3 := ⟨tk_mw 776 rfl rfl, by decide, by decide +kernel, by decide +kernel⟩
set_option maxRecDepth 100000 in
theorem lk_La_100 : tk_lnk "TrackKeeperLaw" 100 y_Mo_leave 1 := ⟨tk_mw 780 rfl rfl, by decide, by decide +kernel, by decide +kernel⟩
set_option maxRecDepth 100000 in
theorem lk_La_103 : tk_lnk "TrackKeeperLaw" 103 y_Mo_tick 1 := ⟨tk_mw 784 rfl rfl, by decide, by decide +kernel, by decide +kernel⟩
set_option maxRecDepth 100000 in
theorem lk_La_107 : tk_lnk "TrackKeeperLaw" 107 y_Mo_request 2 := ⟨tk_mw 789 rfl rfl, by decide, by decide +kernel, by decide +kernel⟩
set_option maxRecDepth 100000 in
theorem lk_Mo_170 : tk_lnk "TrackKeeperModel" 170 y_Mo_isTaken 2 := ⟨tk_mw 793 rfl rfl, by decide, by decide +kernel, by decide +kernel⟩
set_option maxRecDepth 100000 in
theorem lk_La_110 : tk_lnk "TrackKeeperLaw" 110 y_Mo_state 1 := ⟨tk_mw 797 rfl rfl, by decide, by decide +kernel, by decide +kernel⟩
set_option maxRecDepth 100000 in
theorem lk_La_113 : tk_lnk "TrackKeeperLaw" 113 y_Mo_train 2 := ⟨tk_mw 801 rfl rfl, by decide, by decide +kernel, by decide +kernel⟩
set_option maxRecDepth 100000 in
theorem lk_La_116 : tk_lnk "TrackKeeperLaw" 116 y_Mo_count 2 := ⟨tk_mw 805 rfl rfl, by decide, by decide +kernel, by decide +kernel⟩
