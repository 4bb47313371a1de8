theorem wq_699 : Cond.code yX8_node cX8_node 1 (some .int) ∈ xW := xW_at 392 (by decide +kernel) rfl
theorem wq_700 : Cond.methodLink RL 13 yX8_node ∈ xW := xW_at 389 (by decide +kernel) rfl
theorem wq_701 : Cond.instanceMethod yX8_node ∈ xW := xW_at 390 (by decide +kernel) rfl
theorem wq_702 : Cond.selects RX8 yX8_node yX8_node ∈ xW := xW_at 391 (by decide +kernel) rfl
theorem wq_703 : Cond.code yX9_node cX9_node 1 (some .int) ∈ xW := xW_at 1043 (by decide +kernel) rfl
theorem wq_704 : Cond.methodLink RL 17 yX9_node ∈ xW := xW_at 1040 (by decide +kernel) rfl
theorem wq_705 : Cond.instanceMethod yX9_node ∈ xW := xW_at 1041 (by decide +kernel) rfl
theorem wq_706 : Cond.selects RX9 yX9_node yX9_node ∈ xW := xW_at 1042 (by decide +kernel) rfl
theorem wq_707 : Cond.code yX8_arc cX8_arc 4 (some .int) ∈ xW := xW_at 408 (by decide +kernel) rfl
theorem wq_708 : Cond.methodLink RL 18 yX8_arc ∈ xW := xW_at 405 (by decide +kernel) rfl
theorem wq_709 : Cond.instanceMethod yX8_arc ∈ xW := xW_at 406 (by decide +kernel) rfl
theorem wq_710 : Cond.selects RX8 yX8_arc yX8_arc ∈ xW := xW_at 407 (by decide +kernel) rfl
theorem wq_711 : Cond.code yX9_arc cX9_arc 3 (some .int) ∈ xW := xW_at 1047 (by decide +kernel) rfl
theorem wq_712 : Cond.methodLink RL 22 yX9_arc ∈ xW := xW_at 1044 (by decide +kernel) rfl
theorem wq_713 : Cond.instanceMethod yX9_arc ∈ xW := xW_at 1045 (by decide +kernel) rfl
theorem wq_714 : Cond.selects RX9 yX9_arc yX9_arc ∈ xW := xW_at 1046 (by decide +kernel) rfl
theorem wq_715 : Cond.code yX8_cut cX8_cut 2 (some .int) ∈ xW := xW_at 435 (by decide +kernel) rfl
theorem wq_716 : Cond.methodLink RL 23 yX8_cut ∈ xW := xW_at 432 (by decide +kernel) rfl
theorem wq_717 : Cond.instanceMethod yX8_cut ∈ xW := xW_at 433 (by decide +kernel) rfl
theorem wq_718 : Cond.selects RX8 yX8_cut yX8_cut ∈ xW := xW_at 434 (by decide +kernel) rfl
theorem wq_719 : Cond.code yX9_cut cX9_cut 2 (some .int) ∈ xW := xW_at 1059 (by decide +kernel) rfl
theorem wq_720 : Cond.methodLink RL 27 yX9_cut ∈ xW := xW_at 1056 (by decide +kernel) rfl
theorem wq_721 : Cond.instanceMethod yX9_cut ∈ xW := xW_at 1057 (by decide +kernel) rfl
theorem wq_722 : Cond.selects RX9 yX9_cut yX9_cut ∈ xW := xW_at 1058 (by decide +kernel) rfl
theorem wq_723 : Cond.code yX8_clear cX8_clear 2 (some .int) ∈ xW := xW_at 451 (by decide +kernel) rfl
theorem wq_724 : Cond.methodLink RL 28 yX8_clear ∈ xW := xW_at 448 (by decide +kernel) rfl
theorem wq_725 : Cond.instanceMethod yX8_clear ∈ xW := xW_at 449 (by decide +kernel) rfl
theorem wq_726 : Cond.selects RX8 yX8_clear yX8_clear ∈ xW := xW_at 450 (by decide +kernel) rfl
theorem wq_727 : Cond.code yX9_clear cX9_clear 2 (some .int) ∈ xW := xW_at 1075 (by decide +kernel) rfl
theorem wq_728 : Cond.methodLink RL 31 yX9_clear ∈ xW := xW_at 1072 (by decide +kernel) rfl
theorem wq_729 : Cond.instanceMethod yX9_clear ∈ xW := xW_at 1073 (by decide +kernel) rfl
theorem wq_730 : Cond.selects RX9 yX9_clear yX9_clear ∈ xW := xW_at 1074 (by decide +kernel) rfl
theorem wq_731 : Cond.code yX8_test cX8_test 1 (some .int) ∈ xW := xW_at 463 (by decide +kernel) rfl
theorem wq_732 : Cond.methodLink RL 32 yX8_test ∈ xW := xW_at 460 (by decide +kernel) rfl
theorem wq_733 : Cond.instanceMethod yX8_test ∈ xW := xW_at 461 (by decide +kernel) rfl
theorem wq_734 : Cond.selects RX8 yX8_test yX8_test ∈ xW := xW_at 462 (by decide +kernel) rfl
theorem wq_735 : Cond.code yX9_test cX9_test 1 (some .int) ∈ xW := xW_at 1079 (by decide +kernel) rfl
theorem wq_736 : Cond.methodLink RL 35 yX9_test ∈ xW := xW_at 1076 (by decide +kernel) rfl
theorem wq_737 : Cond.instanceMethod yX9_test ∈ xW := xW_at 1077 (by decide +kernel) rfl
theorem wq_738 : Cond.selects RX9 yX9_test yX9_test ∈ xW := xW_at 1078 (by decide +kernel) rfl
theorem wq_739 : Cond.code yX8_outer cX8_outer 3 (some .int) ∈ xW := xW_at 525 (by decide +kernel) rfl
theorem wq_740 : Cond.methodLink RL 36 yX8_outer ∈ xW := xW_at 522 (by decide +kernel) rfl
theorem wq_741 : Cond.instanceMethod yX8_outer ∈ xW := xW_at 523 (by decide +kernel) rfl
theorem wq_742 : Cond.selects RX8 yX8_outer yX8_outer ∈ xW := xW_at 524 (by decide +kernel) rfl
theorem wq_743 : Cond.code yX9_outer cX9_outer 2 (some .int) ∈ xW := xW_at 1215 (by decide +kernel) rfl
theorem wq_744 : Cond.methodLink RL 39 yX9_outer ∈ xW := xW_at 1212 (by decide +kernel) rfl
theorem wq_745 : Cond.instanceMethod yX9_outer ∈ xW := xW_at 1213 (by decide +kernel) rfl
theorem wq_746 : Cond.selects RX9 yX9_outer yX9_outer ∈ xW := xW_at 1214 (by decide +kernel) rfl
theorem wq_747 : Cond.code yX8_degree cX8_degree 2 (some .int) ∈ xW := xW_at 529 (by decide +kernel) rfl
theorem wq_748 : Cond.methodLink RL 40 yX8_degree ∈ xW := xW_at 526 (by decide +kernel) rfl
theorem wq_749 : Cond.instanceMethod yX8_degree ∈ xW := xW_at 527 (by decide +kernel) rfl
theorem wq_750 : Cond.selects RX8 yX8_degree yX8_degree ∈ xW := xW_at 528 (by decide +kernel) rfl
theorem wq_751 : Cond.code yX9_degree cX9_degree 2 (some .int) ∈ xW := xW_at 1219 (by decide +kernel) rfl
theorem wq_752 : Cond.methodLink RL 43 yX9_degree ∈ xW := xW_at 1216 (by decide +kernel) rfl
theorem wq_753 : Cond.instanceMethod yX9_degree ∈ xW := xW_at 1217 (by decide +kernel) rfl
theorem wq_754 : Cond.selects RX9 yX9_degree yX9_degree ∈ xW := xW_at 1218 (by decide +kernel) rfl
theorem wq_755 : Cond.code yX8_turn cX8_turn 3 (some .int) ∈ xW := xW_at 537 (by decide +kernel) rfl
theorem wq_756 : Cond.methodLink RL 44 yX8_turn ∈ xW := xW_at 534 (by decide +kernel) rfl
theorem wq_757 : Cond.instanceMethod yX8_turn ∈ xW := xW_at 535 (by decide +kernel) rfl
theorem wq_758 : Cond.selects RX8 yX8_turn yX8_turn ∈ xW := xW_at 536 (by decide +kernel) rfl
theorem wq_759 : Cond.code yX9_turn cX9_turn 3 (some .int) ∈ xW := xW_at 1223 (by decide +kernel) rfl
theorem wq_760 : Cond.methodLink RL 47 yX9_turn ∈ xW := xW_at 1220 (by decide +kernel) rfl
theorem wq_761 : Cond.instanceMethod yX9_turn ∈ xW := xW_at 1221 (by decide +kernel) rfl
theorem wq_762 : Cond.selects RX9 yX9_turn yX9_turn ∈ xW := xW_at 1222 (by decide +kernel) rfl
theorem wq_763 : Cond.code yX8_faces cX8_faces 1 (some .int) ∈ xW := xW_at 662 (by decide +kernel) rfl
theorem wq_764 : Cond.methodLink RL 48 yX8_faces ∈ xW := xW_at 659 (by decide +kernel) rfl
theorem wq_765 : Cond.instanceMethod yX8_faces ∈ xW := xW_at 660 (by decide +kernel) rfl
theorem wq_766 : Cond.selects RX8 yX8_faces yX8_faces ∈ xW := xW_at 661 (by decide +kernel) rfl
theorem wq_767 : Cond.code yX9_faces cX9_faces 1 (some .int) ∈ xW := xW_at 1227 (by decide +kernel) rfl
theorem wq_768 : Cond.methodLink RL 51 yX9_faces ∈ xW := xW_at 1224 (by decide +kernel) rfl
theorem wq_769 : Cond.instanceMethod yX9_faces ∈ xW := xW_at 1225 (by decide +kernel) rfl
theorem wq_770 : Cond.selects RX9 yX9_faces yX9_faces ∈ xW := xW_at 1226 (by decide +kernel) rfl
theorem wq_771 : Cond.code yX8_face cX8_face 3 (some .int) ∈ xW := xW_at 666 (by decide +kernel) rfl
theorem wq_772 : Cond.methodLink RL 52 yX8_face ∈ xW := xW_at 663 (by decide +kernel) rfl
theorem wq_773 : Cond.instanceMethod yX8_face ∈ xW := xW_at 664 (by decide +kernel) rfl
theorem wq_774 : Cond.selects RX8 yX8_face yX8_face ∈ xW := xW_at 665 (by decide +kernel) rfl
theorem wq_775 : Cond.code yX9_face cX9_face 3 (some .int) ∈ xW := xW_at 1247 (by decide +kernel) rfl
theorem wq_776 : Cond.methodLink RL 55 yX9_face ∈ xW := xW_at 1244 (by decide +kernel) rfl
theorem wq_777 : Cond.instanceMethod yX9_face ∈ xW := xW_at 1245 (by decide +kernel) rfl
theorem wq_778 : Cond.selects RX9 yX9_face yX9_face ∈ xW := xW_at 1246 (by decide +kernel) rfl
theorem wq_779 : Cond.code yX8_round cX8_round 3 (some .int) ∈ xW := xW_at 670 (by decide +kernel) rfl
theorem wq_780 : Cond.methodLink RL 56 yX8_round ∈ xW := xW_at 667 (by decide +kernel) rfl
theorem wq_781 : Cond.instanceMethod yX8_round ∈ xW := xW_at 668 (by decide +kernel) rfl
theorem wq_782 : Cond.selects RX8 yX8_round yX8_round ∈ xW := xW_at 669 (by decide +kernel) rfl
theorem wq_783 : Cond.code yX9_round cX9_round 3 (some .int) ∈ xW := xW_at 1251 (by decide +kernel) rfl
theorem wq_784 : Cond.methodLink RL 59 yX9_round ∈ xW := xW_at 1248 (by decide +kernel) rfl
theorem wq_785 : Cond.instanceMethod yX9_round ∈ xW := xW_at 1249 (by decide +kernel) rfl
theorem wq_786 : Cond.selects RX9 yX9_round yX9_round ∈ xW := xW_at 1250 (by decide +kernel) rfl
theorem wq_787 : Cond.code yX8_dual cX8_dual 3 (some .int) ∈ xW := xW_at 678 (by decide +kernel) rfl
theorem wq_788 : Cond.methodLink RL 60 yX8_dual ∈ xW := xW_at 675 (by decide +kernel) rfl
theorem wq_789 : Cond.instanceMethod yX8_dual ∈ xW := xW_at 676 (by decide +kernel) rfl
theorem wq_790 : Cond.selects RX8 yX8_dual yX8_dual ∈ xW := xW_at 677 (by decide +kernel) rfl
theorem wq_791 : Cond.code yX9_dual cX9_dual 3 (some .int) ∈ xW := xW_at 1255 (by decide +kernel) rfl
theorem wq_792 : Cond.methodLink RL 63 yX9_dual ∈ xW := xW_at 1252 (by decide +kernel) rfl
theorem wq_793 : Cond.instanceMethod yX9_dual ∈ xW := xW_at 1253 (by decide +kernel) rfl
theorem wq_794 : Cond.selects RX9 yX9_dual yX9_dual ∈ xW := xW_at 1254 (by decide +kernel) rfl
theorem wq_795 : Cond.code yX8_dualBack cX8_dualBack 3 (some .int) ∈ xW := xW_at 691 (by decide +kernel) rfl
theorem wq_796 : Cond.methodLink RL 64 yX8_dualBack ∈ xW := xW_at 688 (by decide +kernel) rfl
theorem wq_797 : Cond.instanceMethod yX8_dualBack ∈ xW := xW_at 689 (by decide +kernel) rfl
theorem wq_798 : Cond.selects RX8 yX8_dualBack yX8_dualBack ∈ xW := xW_at 690 (by decide +kernel) rfl
theorem wq_799 : Cond.code yX9_dualBack cX9_dualBack 6 (some .int) ∈ xW := xW_at 1267 (by decide +kernel) rfl
theorem wq_800 : Cond.methodLink RL 67 yX9_dualBack ∈ xW := xW_at 1264 (by decide +kernel) rfl
theorem wq_801 : Cond.instanceMethod yX9_dualBack ∈ xW := xW_at 1265 (by decide +kernel) rfl
theorem wq_802 : Cond.selects RX9 yX9_dualBack yX9_dualBack ∈ xW := xW_at 1266 (by decide +kernel) rfl
theorem wq_803 : Cond.code yX8_place cX8_place 3 (some .int) ∈ xW := xW_at 699 (by decide +kernel) rfl
theorem wq_804 : Cond.methodLink RL 68 yX8_place ∈ xW := xW_at 696 (by decide +kernel) rfl
theorem wq_805 : Cond.instanceMethod yX8_place ∈ xW := xW_at 697 (by decide +kernel) rfl
theorem wq_806 : Cond.selects RX8 yX8_place yX8_place ∈ xW := xW_at 698 (by decide +kernel) rfl
theorem wq_807 : Cond.code yX9_place cX9_place 3 (some .int) ∈ xW := xW_at 1275 (by decide +kernel) rfl
theorem wq_808 : Cond.methodLink RL 71 yX9_place ∈ xW := xW_at 1272 (by decide +kernel) rfl
theorem wq_809 : Cond.instanceMethod yX9_place ∈ xW := xW_at 1273 (by decide +kernel) rfl
theorem wq_810 : Cond.selects RX9 yX9_place yX9_place ∈ xW := xW_at 1274 (by decide +kernel) rfl
theorem wq_811 : Cond.code yX8_crossing cX8_crossing 3 (some .int) ∈ xW := xW_at 748 (by decide +kernel) rfl
theorem wq_812 : Cond.methodLink RL 72 yX8_crossing ∈ xW := xW_at 745 (by decide +kernel) rfl
theorem wq_813 : Cond.instanceMethod yX8_crossing ∈ xW := xW_at 746 (by decide +kernel) rfl
theorem wq_814 : Cond.selects RX8 yX8_crossing yX8_crossing ∈ xW := xW_at 747 (by decide +kernel) rfl
theorem wq_815 : Cond.code yX9_crossing cX9_crossing 5 (some .int) ∈ xW := xW_at 1279 (by decide +kernel) rfl
theorem wq_816 : Cond.methodLink RL 75 yX9_crossing ∈ xW := xW_at 1276 (by decide +kernel) rfl
theorem wq_817 : Cond.instanceMethod yX9_crossing ∈ xW := xW_at 1277 (by decide +kernel) rfl
theorem wq_818 : Cond.selects RX9 yX9_crossing yX9_crossing ∈ xW := xW_at 1278 (by decide +kernel) rfl
theorem wq_819 : Cond.code yX8_piece cX8_piece 2 (some .int) ∈ xW := xW_at 783 (by decide +kernel) rfl
theorem wq_820 : Cond.methodLink RL 76 yX8_piece ∈ xW := xW_at 780 (by decide +kernel) rfl
theorem wq_821 : Cond.instanceMethod yX8_piece ∈ xW := xW_at 781 (by decide +kernel) rfl
theorem wq_822 : Cond.selects RX8 yX8_piece yX8_piece ∈ xW := xW_at 782 (by decide +kernel) rfl
theorem wq_823 : Cond.code yX9_piece cX9_piece 4 (some .int) ∈ xW := xW_at 1295 (by decide +kernel) rfl
theorem wq_824 : Cond.methodLink RL 79 yX9_piece ∈ xW := xW_at 1292 (by decide +kernel) rfl
theorem wq_825 : Cond.instanceMethod yX9_piece ∈ xW := xW_at 1293 (by decide +kernel) rfl
theorem wq_826 : Cond.selects RX9 yX9_piece yX9_piece ∈ xW := xW_at 1294 (by decide +kernel) rfl
theorem wq_827 : Cond.code yX8_barred cX8_barred 1 (some .int) ∈ xW := xW_at 803 (by decide +kernel) rfl
theorem wq_828 : Cond.methodLink RL 80 yX8_barred ∈ xW := xW_at 800 (by decide +kernel) rfl
theorem wq_829 : Cond.instanceMethod yX8_barred ∈ xW := xW_at 801 (by decide +kernel) rfl
theorem wq_830 : Cond.selects RX8 yX8_barred yX8_barred ∈ xW := xW_at 802 (by decide +kernel) rfl
theorem wq_831 : Cond.code yX9_barred cX9_barred 3 (some .int) ∈ xW := xW_at 1299 (by decide +kernel) rfl
theorem wq_832 : Cond.methodLink RL 83 yX9_barred ∈ xW := xW_at 1296 (by decide +kernel) rfl
theorem wq_833 : Cond.instanceMethod yX9_barred ∈ xW := xW_at 1297 (by decide +kernel) rfl
theorem wq_834 : Cond.selects RX9 yX9_barred yX9_barred ∈ xW := xW_at 1298 (by decide +kernel) rfl
theorem wq_835 : Cond.code yX8_branch cX8_branch 2 (some .int) ∈ xW := xW_at 811 (by decide +kernel) rfl
theorem wq_836 : Cond.methodLink RL 84 yX8_branch ∈ xW := xW_at 808 (by decide +kernel) rfl
theorem wq_837 : Cond.instanceMethod yX8_branch ∈ xW := xW_at 809 (by decide +kernel) rfl
theorem wq_838 : Cond.selects RX8 yX8_branch yX8_branch ∈ xW := xW_at 810 (by decide +kernel) rfl
theorem wq_839 : Cond.code yX9_branch cX9_branch 4 (some .int) ∈ xW := xW_at 1303 (by decide +kernel) rfl
theorem wq_840 : Cond.methodLink RL 87 yX9_branch ∈ xW := xW_at 1300 (by decide +kernel) rfl
theorem wq_841 : Cond.instanceMethod yX9_branch ∈ xW := xW_at 1301 (by decide +kernel) rfl
theorem wq_842 : Cond.selects RX9 yX9_branch yX9_branch ∈ xW := xW_at 1302 (by decide +kernel) rfl
theorem wq_843 : Cond.code yX8_strand cX8_strand 4 (some .int) ∈ xW := xW_at 819 (by decide +kernel) rfl
theorem wq_844 : Cond.methodLink RL 88 yX8_strand ∈ xW := xW_at 816 (by decide +kernel) rfl
theorem wq_845 : Cond.instanceMethod yX8_strand ∈ xW := xW_at 817 (by decide +kernel) rfl
theorem wq_846 : Cond.selects RX8 yX8_strand yX8_strand ∈ xW := xW_at 818 (by decide +kernel) rfl
theorem wq_847 : Cond.code yX9_strand cX9_strand 4 (some .int) ∈ xW := xW_at 1307 (by decide +kernel) rfl
theorem wq_848 : Cond.methodLink RL 91 yX9_strand ∈ xW := xW_at 1304 (by decide +kernel) rfl
theorem wq_849 : Cond.instanceMethod yX9_strand ∈ xW := xW_at 1305 (by decide +kernel) rfl
theorem wq_850 : Cond.selects RX9 yX9_strand yX9_strand ∈ xW := xW_at 1306 (by decide +kernel) rfl
theorem wq_851 : Cond.code yX8_told cX8_told 3 (some .int) ∈ xW := xW_at 833 (by decide +kernel) rfl
theorem wq_852 : Cond.methodLink RL 92 yX8_told ∈ xW := xW_at 830 (by decide +kernel) rfl
theorem wq_853 : Cond.instanceMethod yX8_told ∈ xW := xW_at 831 (by decide +kernel) rfl
theorem wq_854 : Cond.selects RX8 yX8_told yX8_told ∈ xW := xW_at 832 (by decide +kernel) rfl
theorem wq_855 : Cond.code yX9_told cX9_told 3 (some .int) ∈ xW := xW_at 1315 (by decide +kernel) rfl
theorem wq_856 : Cond.methodLink RL 95 yX9_told ∈ xW := xW_at 1312 (by decide +kernel) rfl
theorem wq_857 : Cond.instanceMethod yX9_told ∈ xW := xW_at 1313 (by decide +kernel) rfl
theorem wq_858 : Cond.selects RX9 yX9_told yX9_told ∈ xW := xW_at 1314 (by decide +kernel) rfl
theorem wq_859 : Cond.code yX8_swap cX8_swap 4 (some .int) ∈ xW := xW_at 837 (by decide +kernel) rfl
theorem wq_860 : Cond.methodLink RL 96 yX8_swap ∈ xW := xW_at 834 (by decide +kernel) rfl
theorem wq_861 : Cond.instanceMethod yX8_swap ∈ xW := xW_at 835 (by decide +kernel) rfl
theorem wq_862 : Cond.selects RX8 yX8_swap yX8_swap ∈ xW := xW_at 836 (by decide +kernel) rfl
theorem wq_863 : Cond.code yX9_swap cX9_swap 5 (some .int) ∈ xW := xW_at 1319 (by decide +kernel) rfl
theorem wq_864 : Cond.methodLink RL 100 yX9_swap ∈ xW := xW_at 1316 (by decide +kernel) rfl
theorem wq_865 : Cond.instanceMethod yX9_swap ∈ xW := xW_at 1317 (by decide +kernel) rfl
theorem wq_866 : Cond.selects RX9 yX9_swap yX9_swap ∈ xW := xW_at 1318 (by decide +kernel) rfl
theorem wq_867 : Cond.code yX8_take cX8_take 1 (some .int) ∈ xW := xW_at 845 (by decide +kernel) rfl
theorem wq_868 : Cond.methodLink RL 101 yX8_take ∈ xW := xW_at 842 (by decide +kernel) rfl
theorem wq_869 : Cond.instanceMethod yX8_take ∈ xW := xW_at 843 (by decide +kernel) rfl
theorem wq_870 : Cond.selects RX8 yX8_take yX8_take ∈ xW := xW_at 844 (by decide +kernel) rfl
theorem wq_871 : Cond.code yX9_take cX9_take 3 (some .int) ∈ xW := xW_at 1323 (by decide +kernel) rfl
theorem wq_872 : Cond.methodLink RL 104 yX9_take ∈ xW := xW_at 1320 (by decide +kernel) rfl
theorem wq_873 : Cond.instanceMethod yX9_take ∈ xW := xW_at 1321 (by decide +kernel) rfl
theorem wq_874 : Cond.selects RX9 yX9_take yX9_take ∈ xW := xW_at 1322 (by decide +kernel) rfl
theorem wq_875 : Cond.code yX8_genus cX8_genus 2 (some .int) ∈ xW := xW_at 854 (by decide +kernel) rfl
theorem wq_876 : Cond.methodLink RL 105 yX8_genus ∈ xW := xW_at 851 (by decide +kernel) rfl
theorem wq_877 : Cond.instanceMethod yX8_genus ∈ xW := xW_at 852 (by decide +kernel) rfl
theorem wq_878 : Cond.selects RX8 yX8_genus yX8_genus ∈ xW := xW_at 853 (by decide +kernel) rfl
theorem wq_879 : Cond.code yX9_genus cX9_genus 1 (some .int) ∈ xW := xW_at 1327 (by decide +kernel) rfl
theorem wq_880 : Cond.methodLink RL 108 yX9_genus ∈ xW := xW_at 1324 (by decide +kernel) rfl
theorem wq_881 : Cond.instanceMethod yX9_genus ∈ xW := xW_at 1325 (by decide +kernel) rfl
theorem wq_882 : Cond.selects RX9 yX9_genus yX9_genus ∈ xW := xW_at 1326 (by decide +kernel) rfl
theorem wq_883 : Cond.code yX8_toldFaces cX8_toldFaces 1 (some .int) ∈ xW := xW_at 858 (by decide +kernel) rfl
theorem wq_884 : Cond.methodLink RL 109 yX8_toldFaces ∈ xW := xW_at 855 (by decide +kernel) rfl
theorem wq_885 : Cond.instanceMethod yX8_toldFaces ∈ xW := xW_at 856 (by decide +kernel) rfl
theorem wq_886 : Cond.selects RX8 yX8_toldFaces yX8_toldFaces ∈ xW := xW_at 857 (by decide +kernel) rfl
theorem wq_887 : Cond.code yX9_toldFaces cX9_toldFaces 1 (some .int) ∈ xW := xW_at 1331 (by decide +kernel) rfl
theorem wq_888 : Cond.methodLink RL 112 yX9_toldFaces ∈ xW := xW_at 1328 (by decide +kernel) rfl
theorem wq_889 : Cond.instanceMethod yX9_toldFaces ∈ xW := xW_at 1329 (by decide +kernel) rfl
theorem wq_890 : Cond.selects RX9 yX9_toldFaces yX9_toldFaces ∈ xW := xW_at 1330 (by decide +kernel) rfl
theorem dL_law_18 : decode cL_law 18 = .ok (.iload_n 3, 1) := by decide +kernel
theorem dL_law_19 : decode cL_law 19 = .ok (.aload_n 0, 1) := by decide +kernel
theorem dL_law_20 : decode cL_law 20 = .ok (.arraylength, 1) := by decide +kernel
theorem dL_law_21 : decode cL_law 21 = .ok (.iconst 4, 1) := by decide +kernel
theorem dL_law_22 : decode cL_law 22 = .ok (.isub, 1) := by decide +kernel
theorem dL_law_23 : decode cL_law 23 = .ok (.if_icmp .gt 659, 3) := by decide +kernel
theorem dL_law_26 : decode cL_law 26 = .ok (.aload_n 0, 1) := by decide +kernel
theorem dL_law_27 : decode cL_law 27 = .ok (.iload_n 3, 1) := by decide +kernel
theorem dL_law_28 : decode cL_law 28 = .ok (.iaload, 1) := by decide +kernel
theorem dL_law_29 : decode cL_law 29 = .ok (.bipush 31, 2) := by decide +kernel
theorem dL_law_31 : decode cL_law 31 = .ok (.iand, 1) := by decide +kernel
theorem dL_law_32 : decode cL_law 32 = .ok (.tableswitch 644 0 23 #[112, 125, 158, 181, 194, 207, 220, 243, 276, 289, 322, 355, 388, 401, 434, 447, 470, 483, 506, 529, 562, 605, 618, 631], 112) := by decide +kernel
theorem dL_law_144 : decode cL_law 144 = .ok (.aload_n 1, 1) := by decide +kernel
theorem dL_law_145 : decode cL_law 145 = .ok (.invokevirtual 13, 3) := by decide +kernel
theorem dL_law_148 : decode cL_law 148 = .ok (.aload_n 2, 1) := by decide +kernel
theorem dL_law_149 : decode cL_law 149 = .ok (.invokevirtual 17, 3) := by decide +kernel
theorem dL_law_152 : decode cL_law 152 = .ok (.if_icmp .eq 524, 3) := by decide +kernel
theorem dL_law_155 : decode cL_law 155 = .ok (.iconst 0, 1) := by decide +kernel
theorem dL_law_156 : decode cL_law 156 = .ok (.ireturn, 1) := by decide +kernel
theorem dL_law_157 : decode cL_law 157 = .ok (.aload_n 1, 1) := by decide +kernel
theorem dL_law_158 : decode cL_law 158 = .ok (.aload_n 0, 1) := by decide +kernel
theorem dL_law_159 : decode cL_law 159 = .ok (.iload_n 3, 1) := by decide +kernel
theorem dL_law_160 : decode cL_law 160 = .ok (.iconst 1, 1) := by decide +kernel
theorem dL_law_161 : decode cL_law 161 = .ok (.iadd, 1) := by decide +kernel
theorem dL_law_162 : decode cL_law 162 = .ok (.iaload, 1) := by decide +kernel
theorem dL_law_163 : decode cL_law 163 = .ok (.aload_n 0, 1) := by decide +kernel
theorem dL_law_164 : decode cL_law 164 = .ok (.iload_n 3, 1) := by decide +kernel
theorem dL_law_165 : decode cL_law 165 = .ok (.iconst 2, 1) := by decide +kernel
theorem dL_law_166 : decode cL_law 166 = .ok (.iadd, 1) := by decide +kernel
theorem dL_law_167 : decode cL_law 167 = .ok (.iaload, 1) := by decide +kernel
theorem dL_law_168 : decode cL_law 168 = .ok (.invokevirtual 18, 3) := by decide +kernel
theorem dL_law_171 : decode cL_law 171 = .ok (.aload_n 2, 1) := by decide +kernel
theorem dL_law_172 : decode cL_law 172 = .ok (.aload_n 0, 1) := by decide +kernel
theorem dL_law_173 : decode cL_law 173 = .ok (.iload_n 3, 1) := by decide +kernel
theorem dL_law_174 : decode cL_law 174 = .ok (.iconst 1, 1) := by decide +kernel
theorem dL_law_175 : decode cL_law 175 = .ok (.iadd, 1) := by decide +kernel
theorem dL_law_176 : decode cL_law 176 = .ok (.iaload, 1) := by decide +kernel
theorem dL_law_177 : decode cL_law 177 = .ok (.aload_n 0, 1) := by decide +kernel
theorem dL_law_178 : decode cL_law 178 = .ok (.iload_n 3, 1) := by decide +kernel
theorem dL_law_179 : decode cL_law 179 = .ok (.iconst 2, 1) := by decide +kernel
theorem dL_law_180 : decode cL_law 180 = .ok (.iadd, 1) := by decide +kernel
theorem dL_law_181 : decode cL_law 181 = .ok (.iaload, 1) := by decide +kernel
theorem dL_law_182 : decode cL_law 182 = .ok (.invokevirtual 22, 3) := by decide +kernel
theorem dL_law_185 : decode cL_law 185 = .ok (.if_icmp .eq 491, 3) := by decide +kernel
theorem dL_law_188 : decode cL_law 188 = .ok (.iconst 0, 1) := by decide +kernel
theorem dL_law_189 : decode cL_law 189 = .ok (.ireturn, 1) := by decide +kernel
theorem dL_law_190 : decode cL_law 190 = .ok (.aload_n 1, 1) := by decide +kernel
theorem dL_law_191 : decode cL_law 191 = .ok (.aload_n 0, 1) := by decide +kernel
theorem dL_law_192 : decode cL_law 192 = .ok (.iload_n 3, 1) := by decide +kernel
theorem dL_law_193 : decode cL_law 193 = .ok (.iconst 1, 1) := by decide +kernel
theorem dL_law_194 : decode cL_law 194 = .ok (.iadd, 1) := by decide +kernel
theorem dL_law_195 : decode cL_law 195 = .ok (.iaload, 1) := by decide +kernel
theorem dL_law_196 : decode cL_law 196 = .ok (.invokevirtual 23, 3) := by decide +kernel
theorem dL_law_199 : decode cL_law 199 = .ok (.aload_n 2, 1) := by decide +kernel
theorem dL_law_200 : decode cL_law 200 = .ok (.aload_n 0, 1) := by decide +kernel
theorem dL_law_201 : decode cL_law 201 = .ok (.iload_n 3, 1) := by decide +kernel
theorem dL_law_202 : decode cL_law 202 = .ok (.iconst 1, 1) := by decide +kernel
theorem dL_law_203 : decode cL_law 203 = .ok (.iadd, 1) := by decide +kernel
theorem dL_law_204 : decode cL_law 204 = .ok (.iaload, 1) := by decide +kernel
theorem dL_law_205 : decode cL_law 205 = .ok (.invokevirtual 27, 3) := by decide +kernel
theorem dL_law_208 : decode cL_law 208 = .ok (.if_icmp .eq 468, 3) := by decide +kernel
theorem dL_law_211 : decode cL_law 211 = .ok (.iconst 0, 1) := by decide +kernel
theorem dL_law_212 : decode cL_law 212 = .ok (.ireturn, 1) := by decide +kernel
theorem dL_law_213 : decode cL_law 213 = .ok (.aload_n 1, 1) := by decide +kernel
theorem dL_law_214 : decode cL_law 214 = .ok (.invokevirtual 28, 3) := by decide +kernel
theorem dL_law_217 : decode cL_law 217 = .ok (.aload_n 2, 1) := by decide +kernel
theorem dL_law_218 : decode cL_law 218 = .ok (.invokevirtual 31, 3) := by decide +kernel
theorem dL_law_221 : decode cL_law 221 = .ok (.if_icmp .eq 455, 3) := by decide +kernel
theorem dL_law_224 : decode cL_law 224 = .ok (.iconst 0, 1) := by decide +kernel
theorem dL_law_225 : decode cL_law 225 = .ok (.ireturn, 1) := by decide +kernel
theorem dL_law_226 : decode cL_law 226 = .ok (.aload_n 1, 1) := by decide +kernel
theorem dL_law_227 : decode cL_law 227 = .ok (.invokevirtual 32, 3) := by decide +kernel
theorem dL_law_230 : decode cL_law 230 = .ok (.aload_n 2, 1) := by decide +kernel
theorem dL_law_231 : decode cL_law 231 = .ok (.invokevirtual 35, 3) := by decide +kernel
theorem dL_law_234 : decode cL_law 234 = .ok (.if_icmp .eq 442, 3) := by decide +kernel
theorem dL_law_237 : decode cL_law 237 = .ok (.iconst 0, 1) := by decide +kernel
theorem dL_law_238 : decode cL_law 238 = .ok (.ireturn, 1) := by decide +kernel
theorem dL_law_239 : decode cL_law 239 = .ok (.aload_n 1, 1) := by decide +kernel
theorem dL_law_240 : decode cL_law 240 = .ok (.invokevirtual 36, 3) := by decide +kernel
theorem dL_law_243 : decode cL_law 243 = .ok (.aload_n 2, 1) := by decide +kernel
theorem dL_law_244 : decode cL_law 244 = .ok (.invokevirtual 39, 3) := by decide +kernel
theorem dL_law_247 : decode cL_law 247 = .ok (.if_icmp .eq 429, 3) := by decide +kernel
theorem dL_law_250 : decode cL_law 250 = .ok (.iconst 0, 1) := by decide +kernel
theorem dL_law_251 : decode cL_law 251 = .ok (.ireturn, 1) := by decide +kernel
theorem dL_law_252 : decode cL_law 252 = .ok (.aload_n 1, 1) := by decide +kernel
theorem dL_law_253 : decode cL_law 253 = .ok (.aload_n 0, 1) := by decide +kernel
theorem dL_law_254 : decode cL_law 254 = .ok (.iload_n 3, 1) := by decide +kernel
theorem dL_law_255 : decode cL_law 255 = .ok (.iconst 1, 1) := by decide +kernel
theorem dL_law_256 : decode cL_law 256 = .ok (.iadd, 1) := by decide +kernel
theorem dL_law_257 : decode cL_law 257 = .ok (.iaload, 1) := by decide +kernel
theorem dL_law_258 : decode cL_law 258 = .ok (.invokevirtual 40, 3) := by decide +kernel
theorem dL_law_261 : decode cL_law 261 = .ok (.aload_n 2, 1) := by decide +kernel
theorem dL_law_262 : decode cL_law 262 = .ok (.aload_n 0, 1) := by decide +kernel
theorem dL_law_263 : decode cL_law 263 = .ok (.iload_n 3, 1) := by decide +kernel
theorem dL_law_264 : decode cL_law 264 = .ok (.iconst 1, 1) := by decide +kernel
theorem dL_law_265 : decode cL_law 265 = .ok (.iadd, 1) := by decide +kernel
theorem dL_law_266 : decode cL_law 266 = .ok (.iaload, 1) := by decide +kernel
theorem dL_law_267 : decode cL_law 267 = .ok (.invokevirtual 43, 3) := by decide +kernel
theorem dL_law_270 : decode cL_law 270 = .ok (.if_icmp .eq 406, 3) := by decide +kernel
theorem dL_law_273 : decode cL_law 273 = .ok (.iconst 0, 1) := by decide +kernel
theorem dL_law_274 : decode cL_law 274 = .ok (.ireturn, 1) := by decide +kernel
theorem dL_law_275 : decode cL_law 275 = .ok (.aload_n 1, 1) := by decide +kernel
theorem dL_law_276 : decode cL_law 276 = .ok (.aload_n 0, 1) := by decide +kernel
theorem dL_law_277 : decode cL_law 277 = .ok (.iload_n 3, 1) := by decide +kernel
theorem dL_law_278 : decode cL_law 278 = .ok (.iconst 1, 1) := by decide +kernel
theorem dL_law_279 : decode cL_law 279 = .ok (.iadd, 1) := by decide +kernel
theorem dL_law_280 : decode cL_law 280 = .ok (.iaload, 1) := by decide +kernel
theorem dL_law_281 : decode cL_law 281 = .ok (.aload_n 0, 1) := by decide +kernel
theorem dL_law_282 : decode cL_law 282 = .ok (.iload_n 3, 1) := by decide +kernel
theorem dL_law_283 : decode cL_law 283 = .ok (.iconst 2, 1) := by decide +kernel
theorem dL_law_284 : decode cL_law 284 = .ok (.iadd, 1) := by decide +kernel
theorem dL_law_285 : decode cL_law 285 = .ok (.iaload, 1) := by decide +kernel
theorem dL_law_286 : decode cL_law 286 = .ok (.invokevirtual 44, 3) := by decide +kernel
theorem dL_law_289 : decode cL_law 289 = .ok (.aload_n 2, 1) := by decide +kernel
theorem dL_law_290 : decode cL_law 290 = .ok (.aload_n 0, 1) := by decide +kernel
theorem dL_law_291 : decode cL_law 291 = .ok (.iload_n 3, 1) := by decide +kernel
theorem dL_law_292 : decode cL_law 292 = .ok (.iconst 1, 1) := by decide +kernel
theorem dL_law_293 : decode cL_law 293 = .ok (.iadd, 1) := by decide +kernel
theorem dL_law_294 : decode cL_law 294 = .ok (.iaload, 1) := by decide +kernel
theorem dL_law_295 : decode cL_law 295 = .ok (.aload_n 0, 1) := by decide +kernel
theorem dL_law_296 : decode cL_law 296 = .ok (.iload_n 3, 1) := by decide +kernel
theorem dL_law_297 : decode cL_law 297 = .ok (.iconst 2, 1) := by decide +kernel
theorem dL_law_298 : decode cL_law 298 = .ok (.iadd, 1) := by decide +kernel
theorem dL_law_299 : decode cL_law 299 = .ok (.iaload, 1) := by decide +kernel
theorem dL_law_300 : decode cL_law 300 = .ok (.invokevirtual 47, 3) := by decide +kernel
theorem dL_law_303 : decode cL_law 303 = .ok (.if_icmp .eq 373, 3) := by decide +kernel
theorem dL_law_306 : decode cL_law 306 = .ok (.iconst 0, 1) := by decide +kernel
theorem dL_law_307 : decode cL_law 307 = .ok (.ireturn, 1) := by decide +kernel
theorem dL_law_308 : decode cL_law 308 = .ok (.aload_n 1, 1) := by decide +kernel
theorem dL_law_309 : decode cL_law 309 = .ok (.invokevirtual 48, 3) := by decide +kernel
theorem dL_law_312 : decode cL_law 312 = .ok (.aload_n 2, 1) := by decide +kernel
theorem dL_law_313 : decode cL_law 313 = .ok (.invokevirtual 51, 3) := by decide +kernel
theorem dL_law_316 : decode cL_law 316 = .ok (.if_icmp .eq 360, 3) := by decide +kernel
theorem dL_law_319 : decode cL_law 319 = .ok (.iconst 0, 1) := by decide +kernel
theorem dL_law_320 : decode cL_law 320 = .ok (.ireturn, 1) := by decide +kernel
theorem dL_law_321 : decode cL_law 321 = .ok (.aload_n 1, 1) := by decide +kernel
theorem dL_law_322 : decode cL_law 322 = .ok (.aload_n 0, 1) := by decide +kernel
theorem dL_law_323 : decode cL_law 323 = .ok (.iload_n 3, 1) := by decide +kernel
theorem dL_law_324 : decode cL_law 324 = .ok (.iconst 1, 1) := by decide +kernel
theorem dL_law_325 : decode cL_law 325 = .ok (.iadd, 1) := by decide +kernel
theorem dL_law_326 : decode cL_law 326 = .ok (.iaload, 1) := by decide +kernel
theorem dL_law_327 : decode cL_law 327 = .ok (.aload_n 0, 1) := by decide +kernel
theorem dL_law_328 : decode cL_law 328 = .ok (.iload_n 3, 1) := by decide +kernel
theorem dL_law_329 : decode cL_law 329 = .ok (.iconst 2, 1) := by decide +kernel
theorem dL_law_330 : decode cL_law 330 = .ok (.iadd, 1) := by decide +kernel
theorem dL_law_331 : decode cL_law 331 = .ok (.iaload, 1) := by decide +kernel
theorem dL_law_332 : decode cL_law 332 = .ok (.invokevirtual 52, 3) := by decide +kernel
theorem dL_law_335 : decode cL_law 335 = .ok (.aload_n 2, 1) := by decide +kernel
theorem dL_law_336 : decode cL_law 336 = .ok (.aload_n 0, 1) := by decide +kernel
theorem dL_law_337 : decode cL_law 337 = .ok (.iload_n 3, 1) := by decide +kernel
theorem dL_law_338 : decode cL_law 338 = .ok (.iconst 1, 1) := by decide +kernel
theorem dL_law_339 : decode cL_law 339 = .ok (.iadd, 1) := by decide +kernel
theorem dL_law_340 : decode cL_law 340 = .ok (.iaload, 1) := by decide +kernel
theorem dL_law_341 : decode cL_law 341 = .ok (.aload_n 0, 1) := by decide +kernel
theorem dL_law_342 : decode cL_law 342 = .ok (.iload_n 3, 1) := by decide +kernel
theorem dL_law_343 : decode cL_law 343 = .ok (.iconst 2, 1) := by decide +kernel
theorem dL_law_344 : decode cL_law 344 = .ok (.iadd, 1) := by decide +kernel
theorem dL_law_345 : decode cL_law 345 = .ok (.iaload, 1) := by decide +kernel
theorem dL_law_346 : decode cL_law 346 = .ok (.invokevirtual 55, 3) := by decide +kernel
theorem dL_law_349 : decode cL_law 349 = .ok (.if_icmp .eq 327, 3) := by decide +kernel
theorem dL_law_352 : decode cL_law 352 = .ok (.iconst 0, 1) := by decide +kernel
theorem dL_law_353 : decode cL_law 353 = .ok (.ireturn, 1) := by decide +kernel
theorem dL_law_354 : decode cL_law 354 = .ok (.aload_n 1, 1) := by decide +kernel
theorem dL_law_355 : decode cL_law 355 = .ok (.aload_n 0, 1) := by decide +kernel
theorem dL_law_356 : decode cL_law 356 = .ok (.iload_n 3, 1) := by decide +kernel
theorem dL_law_357 : decode cL_law 357 = .ok (.iconst 1, 1) := by decide +kernel
theorem dL_law_358 : decode cL_law 358 = .ok (.iadd, 1) := by decide +kernel
theorem dL_law_359 : decode cL_law 359 = .ok (.iaload, 1) := by decide +kernel
theorem dL_law_360 : decode cL_law 360 = .ok (.aload_n 0, 1) := by decide +kernel
theorem dL_law_361 : decode cL_law 361 = .ok (.iload_n 3, 1) := by decide +kernel
theorem dL_law_362 : decode cL_law 362 = .ok (.iconst 2, 1) := by decide +kernel
theorem dL_law_363 : decode cL_law 363 = .ok (.iadd, 1) := by decide +kernel
theorem dL_law_364 : decode cL_law 364 = .ok (.iaload, 1) := by decide +kernel
theorem dL_law_365 : decode cL_law 365 = .ok (.invokevirtual 56, 3) := by decide +kernel
theorem dL_law_368 : decode cL_law 368 = .ok (.aload_n 2, 1) := by decide +kernel
theorem dL_law_369 : decode cL_law 369 = .ok (.aload_n 0, 1) := by decide +kernel
theorem dL_law_370 : decode cL_law 370 = .ok (.iload_n 3, 1) := by decide +kernel
theorem dL_law_371 : decode cL_law 371 = .ok (.iconst 1, 1) := by decide +kernel
theorem dL_law_372 : decode cL_law 372 = .ok (.iadd, 1) := by decide +kernel
theorem dL_law_373 : decode cL_law 373 = .ok (.iaload, 1) := by decide +kernel
theorem dL_law_374 : decode cL_law 374 = .ok (.aload_n 0, 1) := by decide +kernel
theorem dL_law_375 : decode cL_law 375 = .ok (.iload_n 3, 1) := by decide +kernel
theorem dL_law_376 : decode cL_law 376 = .ok (.iconst 2, 1) := by decide +kernel
theorem dL_law_377 : decode cL_law 377 = .ok (.iadd, 1) := by decide +kernel
theorem dL_law_378 : decode cL_law 378 = .ok (.iaload, 1) := by decide +kernel
theorem dL_law_379 : decode cL_law 379 = .ok (.invokevirtual 59, 3) := by decide +kernel
theorem dL_law_382 : decode cL_law 382 = .ok (.if_icmp .eq 294, 3) := by decide +kernel
theorem dL_law_385 : decode cL_law 385 = .ok (.iconst 0, 1) := by decide +kernel
theorem dL_law_386 : decode cL_law 386 = .ok (.ireturn, 1) := by decide +kernel
theorem dL_law_387 : decode cL_law 387 = .ok (.aload_n 1, 1) := by decide +kernel
theorem dL_law_388 : decode cL_law 388 = .ok (.aload_n 0, 1) := by decide +kernel
theorem dL_law_389 : decode cL_law 389 = .ok (.iload_n 3, 1) := by decide +kernel
theorem dL_law_390 : decode cL_law 390 = .ok (.iconst 1, 1) := by decide +kernel
theorem dL_law_391 : decode cL_law 391 = .ok (.iadd, 1) := by decide +kernel
theorem dL_law_392 : decode cL_law 392 = .ok (.iaload, 1) := by decide +kernel
theorem dL_law_393 : decode cL_law 393 = .ok (.aload_n 0, 1) := by decide +kernel
theorem dL_law_394 : decode cL_law 394 = .ok (.iload_n 3, 1) := by decide +kernel
theorem dL_law_395 : decode cL_law 395 = .ok (.iconst 2, 1) := by decide +kernel
theorem dL_law_396 : decode cL_law 396 = .ok (.iadd, 1) := by decide +kernel
theorem dL_law_397 : decode cL_law 397 = .ok (.iaload, 1) := by decide +kernel
theorem dL_law_398 : decode cL_law 398 = .ok (.invokevirtual 60, 3) := by decide +kernel
theorem dL_law_401 : decode cL_law 401 = .ok (.aload_n 2, 1) := by decide +kernel
theorem dL_law_402 : decode cL_law 402 = .ok (.aload_n 0, 1) := by decide +kernel
theorem dL_law_403 : decode cL_law 403 = .ok (.iload_n 3, 1) := by decide +kernel
theorem dL_law_404 : decode cL_law 404 = .ok (.iconst 1, 1) := by decide +kernel
theorem dL_law_405 : decode cL_law 405 = .ok (.iadd, 1) := by decide +kernel
theorem dL_law_406 : decode cL_law 406 = .ok (.iaload, 1) := by decide +kernel
theorem dL_law_407 : decode cL_law 407 = .ok (.aload_n 0, 1) := by decide +kernel
theorem dL_law_408 : decode cL_law 408 = .ok (.iload_n 3, 1) := by decide +kernel
theorem dL_law_409 : decode cL_law 409 = .ok (.iconst 2, 1) := by decide +kernel
theorem dL_law_410 : decode cL_law 410 = .ok (.iadd, 1) := by decide +kernel
theorem dL_law_411 : decode cL_law 411 = .ok (.iaload, 1) := by decide +kernel
theorem dL_law_412 : decode cL_law 412 = .ok (.invokevirtual 63, 3) := by decide +kernel
theorem dL_law_415 : decode cL_law 415 = .ok (.if_icmp .eq 261, 3) := by decide +kernel
theorem dL_law_418 : decode cL_law 418 = .ok (.iconst 0, 1) := by decide +kernel
theorem dL_law_419 : decode cL_law 419 = .ok (.ireturn, 1) := by decide +kernel
theorem dL_law_420 : decode cL_law 420 = .ok (.aload_n 1, 1) := by decide +kernel
theorem dL_law_421 : decode cL_law 421 = .ok (.invokevirtual 64, 3) := by decide +kernel
theorem dL_law_424 : decode cL_law 424 = .ok (.aload_n 2, 1) := by decide +kernel
theorem dL_law_425 : decode cL_law 425 = .ok (.invokevirtual 67, 3) := by decide +kernel
theorem dL_law_428 : decode cL_law 428 = .ok (.if_icmp .eq 248, 3) := by decide +kernel
theorem dL_law_431 : decode cL_law 431 = .ok (.iconst 0, 1) := by decide +kernel
theorem dL_law_432 : decode cL_law 432 = .ok (.ireturn, 1) := by decide +kernel
theorem dL_law_433 : decode cL_law 433 = .ok (.aload_n 1, 1) := by decide +kernel
theorem dL_law_434 : decode cL_law 434 = .ok (.aload_n 0, 1) := by decide +kernel
theorem dL_law_435 : decode cL_law 435 = .ok (.iload_n 3, 1) := by decide +kernel
theorem dL_law_436 : decode cL_law 436 = .ok (.iconst 1, 1) := by decide +kernel
theorem dL_law_437 : decode cL_law 437 = .ok (.iadd, 1) := by decide +kernel
theorem dL_law_438 : decode cL_law 438 = .ok (.iaload, 1) := by decide +kernel
theorem dL_law_439 : decode cL_law 439 = .ok (.aload_n 0, 1) := by decide +kernel
theorem dL_law_440 : decode cL_law 440 = .ok (.iload_n 3, 1) := by decide +kernel
theorem dL_law_441 : decode cL_law 441 = .ok (.iconst 2, 1) := by decide +kernel
theorem dL_law_442 : decode cL_law 442 = .ok (.iadd, 1) := by decide +kernel
theorem dL_law_443 : decode cL_law 443 = .ok (.iaload, 1) := by decide +kernel
theorem dL_law_444 : decode cL_law 444 = .ok (.invokevirtual 68, 3) := by decide +kernel
theorem dL_law_447 : decode cL_law 447 = .ok (.aload_n 2, 1) := by decide +kernel
theorem dL_law_448 : decode cL_law 448 = .ok (.aload_n 0, 1) := by decide +kernel
theorem dL_law_449 : decode cL_law 449 = .ok (.iload_n 3, 1) := by decide +kernel
theorem dL_law_450 : decode cL_law 450 = .ok (.iconst 1, 1) := by decide +kernel
theorem dL_law_451 : decode cL_law 451 = .ok (.iadd, 1) := by decide +kernel
theorem dL_law_452 : decode cL_law 452 = .ok (.iaload, 1) := by decide +kernel
theorem dL_law_453 : decode cL_law 453 = .ok (.aload_n 0, 1) := by decide +kernel
theorem dL_law_454 : decode cL_law 454 = .ok (.iload_n 3, 1) := by decide +kernel
theorem dL_law_455 : decode cL_law 455 = .ok (.iconst 2, 1) := by decide +kernel
theorem dL_law_456 : decode cL_law 456 = .ok (.iadd, 1) := by decide +kernel
theorem dL_law_457 : decode cL_law 457 = .ok (.iaload, 1) := by decide +kernel
theorem dL_law_458 : decode cL_law 458 = .ok (.invokevirtual 71, 3) := by decide +kernel
theorem dL_law_461 : decode cL_law 461 = .ok (.if_icmp .eq 215, 3) := by decide +kernel
theorem dL_law_464 : decode cL_law 464 = .ok (.iconst 0, 1) := by decide +kernel
theorem dL_law_465 : decode cL_law 465 = .ok (.ireturn, 1) := by decide +kernel
theorem dL_law_466 : decode cL_law 466 = .ok (.aload_n 1, 1) := by decide +kernel
theorem dL_law_467 : decode cL_law 467 = .ok (.invokevirtual 72, 3) := by decide +kernel
theorem dL_law_470 : decode cL_law 470 = .ok (.aload_n 2, 1) := by decide +kernel
theorem dL_law_471 : decode cL_law 471 = .ok (.invokevirtual 75, 3) := by decide +kernel
theorem dL_law_474 : decode cL_law 474 = .ok (.if_icmp .eq 202, 3) := by decide +kernel
theorem dL_law_477 : decode cL_law 477 = .ok (.iconst 0, 1) := by decide +kernel
theorem dL_law_478 : decode cL_law 478 = .ok (.ireturn, 1) := by decide +kernel
theorem dL_law_479 : decode cL_law 479 = .ok (.aload_n 1, 1) := by decide +kernel
theorem dL_law_480 : decode cL_law 480 = .ok (.aload_n 0, 1) := by decide +kernel
theorem dL_law_481 : decode cL_law 481 = .ok (.iload_n 3, 1) := by decide +kernel
theorem dL_law_482 : decode cL_law 482 = .ok (.iconst 1, 1) := by decide +kernel
theorem dL_law_483 : decode cL_law 483 = .ok (.iadd, 1) := by decide +kernel
theorem dL_law_484 : decode cL_law 484 = .ok (.iaload, 1) := by decide +kernel
theorem dL_law_485 : decode cL_law 485 = .ok (.invokevirtual 76, 3) := by decide +kernel
theorem dL_law_488 : decode cL_law 488 = .ok (.aload_n 2, 1) := by decide +kernel
theorem dL_law_489 : decode cL_law 489 = .ok (.aload_n 0, 1) := by decide +kernel
theorem dL_law_490 : decode cL_law 490 = .ok (.iload_n 3, 1) := by decide +kernel
theorem dL_law_491 : decode cL_law 491 = .ok (.iconst 1, 1) := by decide +kernel
theorem dL_law_492 : decode cL_law 492 = .ok (.iadd, 1) := by decide +kernel
theorem dL_law_493 : decode cL_law 493 = .ok (.iaload, 1) := by decide +kernel
theorem dL_law_494 : decode cL_law 494 = .ok (.invokevirtual 79, 3) := by decide +kernel
theorem dL_law_497 : decode cL_law 497 = .ok (.if_icmp .eq 179, 3) := by decide +kernel
theorem dL_law_500 : decode cL_law 500 = .ok (.iconst 0, 1) := by decide +kernel
theorem dL_law_501 : decode cL_law 501 = .ok (.ireturn, 1) := by decide +kernel
theorem dL_law_502 : decode cL_law 502 = .ok (.aload_n 1, 1) := by decide +kernel
theorem dL_law_503 : decode cL_law 503 = .ok (.invokevirtual 80, 3) := by decide +kernel
theorem dL_law_506 : decode cL_law 506 = .ok (.aload_n 2, 1) := by decide +kernel
theorem dL_law_507 : decode cL_law 507 = .ok (.invokevirtual 83, 3) := by decide +kernel
theorem dL_law_510 : decode cL_law 510 = .ok (.if_icmp .eq 166, 3) := by decide +kernel
theorem dL_law_513 : decode cL_law 513 = .ok (.iconst 0, 1) := by decide +kernel
theorem dL_law_514 : decode cL_law 514 = .ok (.ireturn, 1) := by decide +kernel
theorem dL_law_515 : decode cL_law 515 = .ok (.aload_n 1, 1) := by decide +kernel
theorem dL_law_516 : decode cL_law 516 = .ok (.aload_n 0, 1) := by decide +kernel
theorem dL_law_517 : decode cL_law 517 = .ok (.iload_n 3, 1) := by decide +kernel
theorem dL_law_518 : decode cL_law 518 = .ok (.iconst 1, 1) := by decide +kernel
theorem dL_law_519 : decode cL_law 519 = .ok (.iadd, 1) := by decide +kernel
theorem dL_law_520 : decode cL_law 520 = .ok (.iaload, 1) := by decide +kernel
theorem dL_law_521 : decode cL_law 521 = .ok (.invokevirtual 84, 3) := by decide +kernel
theorem dL_law_524 : decode cL_law 524 = .ok (.aload_n 2, 1) := by decide +kernel
theorem dL_law_525 : decode cL_law 525 = .ok (.aload_n 0, 1) := by decide +kernel
theorem dL_law_526 : decode cL_law 526 = .ok (.iload_n 3, 1) := by decide +kernel
theorem dL_law_527 : decode cL_law 527 = .ok (.iconst 1, 1) := by decide +kernel
theorem dL_law_528 : decode cL_law 528 = .ok (.iadd, 1) := by decide +kernel
theorem dL_law_529 : decode cL_law 529 = .ok (.iaload, 1) := by decide +kernel
theorem dL_law_530 : decode cL_law 530 = .ok (.invokevirtual 87, 3) := by decide +kernel
theorem dL_law_533 : decode cL_law 533 = .ok (.if_icmp .eq 143, 3) := by decide +kernel
theorem dL_law_536 : decode cL_law 536 = .ok (.iconst 0, 1) := by decide +kernel
theorem dL_law_537 : decode cL_law 537 = .ok (.ireturn, 1) := by decide +kernel
theorem dL_law_538 : decode cL_law 538 = .ok (.aload_n 1, 1) := by decide +kernel
theorem dL_law_539 : decode cL_law 539 = .ok (.aload_n 0, 1) := by decide +kernel
theorem dL_law_540 : decode cL_law 540 = .ok (.iload_n 3, 1) := by decide +kernel
theorem dL_law_541 : decode cL_law 541 = .ok (.iconst 1, 1) := by decide +kernel
theorem dL_law_542 : decode cL_law 542 = .ok (.iadd, 1) := by decide +kernel
theorem dL_law_543 : decode cL_law 543 = .ok (.iaload, 1) := by decide +kernel
theorem dL_law_544 : decode cL_law 544 = .ok (.invokevirtual 88, 3) := by decide +kernel
theorem dL_law_547 : decode cL_law 547 = .ok (.aload_n 2, 1) := by decide +kernel
theorem dL_law_548 : decode cL_law 548 = .ok (.aload_n 0, 1) := by decide +kernel
theorem dL_law_549 : decode cL_law 549 = .ok (.iload_n 3, 1) := by decide +kernel
theorem dL_law_550 : decode cL_law 550 = .ok (.iconst 1, 1) := by decide +kernel
theorem dL_law_551 : decode cL_law 551 = .ok (.iadd, 1) := by decide +kernel
theorem dL_law_552 : decode cL_law 552 = .ok (.iaload, 1) := by decide +kernel
theorem dL_law_553 : decode cL_law 553 = .ok (.invokevirtual 91, 3) := by decide +kernel
theorem dL_law_556 : decode cL_law 556 = .ok (.if_icmp .eq 120, 3) := by decide +kernel
theorem dL_law_559 : decode cL_law 559 = .ok (.iconst 0, 1) := by decide +kernel
theorem dL_law_560 : decode cL_law 560 = .ok (.ireturn, 1) := by decide +kernel
theorem dL_law_561 : decode cL_law 561 = .ok (.aload_n 1, 1) := by decide +kernel
theorem dL_law_562 : decode cL_law 562 = .ok (.aload_n 0, 1) := by decide +kernel
theorem dL_law_563 : decode cL_law 563 = .ok (.iload_n 3, 1) := by decide +kernel
theorem dL_law_564 : decode cL_law 564 = .ok (.iconst 1, 1) := by decide +kernel
theorem dL_law_565 : decode cL_law 565 = .ok (.iadd, 1) := by decide +kernel
theorem dL_law_566 : decode cL_law 566 = .ok (.iaload, 1) := by decide +kernel
theorem dL_law_567 : decode cL_law 567 = .ok (.aload_n 0, 1) := by decide +kernel
theorem dL_law_568 : decode cL_law 568 = .ok (.iload_n 3, 1) := by decide +kernel
theorem dL_law_569 : decode cL_law 569 = .ok (.iconst 2, 1) := by decide +kernel
theorem dL_law_570 : decode cL_law 570 = .ok (.iadd, 1) := by decide +kernel
theorem dL_law_571 : decode cL_law 571 = .ok (.iaload, 1) := by decide +kernel
theorem dL_law_572 : decode cL_law 572 = .ok (.invokevirtual 92, 3) := by decide +kernel
theorem dL_law_575 : decode cL_law 575 = .ok (.aload_n 2, 1) := by decide +kernel
theorem dL_law_576 : decode cL_law 576 = .ok (.aload_n 0, 1) := by decide +kernel
theorem dL_law_577 : decode cL_law 577 = .ok (.iload_n 3, 1) := by decide +kernel
theorem dL_law_578 : decode cL_law 578 = .ok (.iconst 1, 1) := by decide +kernel
theorem dL_law_579 : decode cL_law 579 = .ok (.iadd, 1) := by decide +kernel
theorem dL_law_580 : decode cL_law 580 = .ok (.iaload, 1) := by decide +kernel
theorem dL_law_581 : decode cL_law 581 = .ok (.aload_n 0, 1) := by decide +kernel
theorem dL_law_582 : decode cL_law 582 = .ok (.iload_n 3, 1) := by decide +kernel
theorem dL_law_583 : decode cL_law 583 = .ok (.iconst 2, 1) := by decide +kernel
theorem dL_law_584 : decode cL_law 584 = .ok (.iadd, 1) := by decide +kernel
theorem dL_law_585 : decode cL_law 585 = .ok (.iaload, 1) := by decide +kernel
theorem dL_law_586 : decode cL_law 586 = .ok (.invokevirtual 95, 3) := by decide +kernel
theorem dL_law_589 : decode cL_law 589 = .ok (.if_icmp .eq 87, 3) := by decide +kernel
theorem dL_law_592 : decode cL_law 592 = .ok (.iconst 0, 1) := by decide +kernel
theorem dL_law_593 : decode cL_law 593 = .ok (.ireturn, 1) := by decide +kernel
theorem dL_law_594 : decode cL_law 594 = .ok (.aload_n 1, 1) := by decide +kernel
theorem dL_law_595 : decode cL_law 595 = .ok (.aload_n 0, 1) := by decide +kernel
theorem dL_law_596 : decode cL_law 596 = .ok (.iload_n 3, 1) := by decide +kernel
theorem dL_law_597 : decode cL_law 597 = .ok (.iconst 1, 1) := by decide +kernel
theorem dL_law_598 : decode cL_law 598 = .ok (.iadd, 1) := by decide +kernel
theorem dL_law_599 : decode cL_law 599 = .ok (.iaload, 1) := by decide +kernel
theorem dL_law_600 : decode cL_law 600 = .ok (.aload_n 0, 1) := by decide +kernel
theorem dL_law_601 : decode cL_law 601 = .ok (.iload_n 3, 1) := by decide +kernel
theorem dL_law_602 : decode cL_law 602 = .ok (.iconst 2, 1) := by decide +kernel
theorem dL_law_603 : decode cL_law 603 = .ok (.iadd, 1) := by decide +kernel
theorem dL_law_604 : decode cL_law 604 = .ok (.iaload, 1) := by decide +kernel
theorem dL_law_605 : decode cL_law 605 = .ok (.aload_n 0, 1) := by decide +kernel
theorem dL_law_606 : decode cL_law 606 = .ok (.iload_n 3, 1) := by decide +kernel
theorem dL_law_607 : decode cL_law 607 = .ok (.iconst 3, 1) := by decide +kernel
theorem dL_law_608 : decode cL_law 608 = .ok (.iadd, 1) := by decide +kernel
theorem dL_law_609 : decode cL_law 609 = .ok (.iaload, 1) := by decide +kernel
theorem dL_law_610 : decode cL_law 610 = .ok (.invokevirtual 96, 3) := by decide +kernel
theorem dL_law_613 : decode cL_law 613 = .ok (.aload_n 2, 1) := by decide +kernel
theorem dL_law_614 : decode cL_law 614 = .ok (.aload_n 0, 1) := by decide +kernel
theorem dL_law_615 : decode cL_law 615 = .ok (.iload_n 3, 1) := by decide +kernel
theorem dL_law_616 : decode cL_law 616 = .ok (.iconst 1, 1) := by decide +kernel
theorem dL_law_617 : decode cL_law 617 = .ok (.iadd, 1) := by decide +kernel
theorem dL_law_618 : decode cL_law 618 = .ok (.iaload, 1) := by decide +kernel
theorem dL_law_619 : decode cL_law 619 = .ok (.aload_n 0, 1) := by decide +kernel
theorem dL_law_620 : decode cL_law 620 = .ok (.iload_n 3, 1) := by decide +kernel
theorem dL_law_621 : decode cL_law 621 = .ok (.iconst 2, 1) := by decide +kernel
theorem dL_law_622 : decode cL_law 622 = .ok (.iadd, 1) := by decide +kernel
theorem dL_law_623 : decode cL_law 623 = .ok (.iaload, 1) := by decide +kernel
theorem dL_law_624 : decode cL_law 624 = .ok (.aload_n 0, 1) := by decide +kernel
theorem dL_law_625 : decode cL_law 625 = .ok (.iload_n 3, 1) := by decide +kernel
theorem dL_law_626 : decode cL_law 626 = .ok (.iconst 3, 1) := by decide +kernel
theorem dL_law_627 : decode cL_law 627 = .ok (.iadd, 1) := by decide +kernel
theorem dL_law_628 : decode cL_law 628 = .ok (.iaload, 1) := by decide +kernel
theorem dL_law_629 : decode cL_law 629 = .ok (.invokevirtual 100, 3) := by decide +kernel
theorem dL_law_632 : decode cL_law 632 = .ok (.if_icmp .eq 44, 3) := by decide +kernel
theorem dL_law_635 : decode cL_law 635 = .ok (.iconst 0, 1) := by decide +kernel
theorem dL_law_636 : decode cL_law 636 = .ok (.ireturn, 1) := by decide +kernel
theorem dL_law_637 : decode cL_law 637 = .ok (.aload_n 1, 1) := by decide +kernel
theorem dL_law_638 : decode cL_law 638 = .ok (.invokevirtual 101, 3) := by decide +kernel
theorem dL_law_641 : decode cL_law 641 = .ok (.aload_n 2, 1) := by decide +kernel
theorem dL_law_642 : decode cL_law 642 = .ok (.invokevirtual 104, 3) := by decide +kernel
theorem dL_law_645 : decode cL_law 645 = .ok (.if_icmp .eq 31, 3) := by decide +kernel
theorem dL_law_648 : decode cL_law 648 = .ok (.iconst 0, 1) := by decide +kernel
theorem dL_law_649 : decode cL_law 649 = .ok (.ireturn, 1) := by decide +kernel
theorem dL_law_650 : decode cL_law 650 = .ok (.aload_n 1, 1) := by decide +kernel
theorem dL_law_651 : decode cL_law 651 = .ok (.invokevirtual 105, 3) := by decide +kernel
theorem dL_law_654 : decode cL_law 654 = .ok (.aload_n 2, 1) := by decide +kernel
theorem dL_law_655 : decode cL_law 655 = .ok (.invokevirtual 108, 3) := by decide +kernel
theorem dL_law_658 : decode cL_law 658 = .ok (.if_icmp .eq 18, 3) := by decide +kernel
theorem dL_law_661 : decode cL_law 661 = .ok (.iconst 0, 1) := by decide +kernel
theorem dL_law_662 : decode cL_law 662 = .ok (.ireturn, 1) := by decide +kernel
theorem dL_law_663 : decode cL_law 663 = .ok (.aload_n 1, 1) := by decide +kernel
theorem dL_law_664 : decode cL_law 664 = .ok (.invokevirtual 109, 3) := by decide +kernel
theorem dL_law_667 : decode cL_law 667 = .ok (.aload_n 2, 1) := by decide +kernel
theorem dL_law_668 : decode cL_law 668 = .ok (.invokevirtual 112, 3) := by decide +kernel
theorem dL_law_671 : decode cL_law 671 = .ok (.if_icmp .eq 5, 3) := by decide +kernel
theorem dL_law_674 : decode cL_law 674 = .ok (.iconst 0, 1) := by decide +kernel
theorem dL_law_675 : decode cL_law 675 = .ok (.ireturn, 1) := by decide +kernel
theorem dL_law_676 : decode cL_law 676 = .ok (.iinc 3 4, 3) := by decide +kernel
theorem dL_law_679 : decode cL_law 679 = .ok (.goto (-661), 3) := by decide +kernel
theorem dL_law_682 : decode cL_law 682 = .ok (.iconst 1, 1) := by decide +kernel
theorem dL_law_683 : decode cL_law 683 = .ok (.ireturn, 1) := by decide +kernel
