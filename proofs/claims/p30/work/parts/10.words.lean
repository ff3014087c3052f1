/-! the words of each method, and the throws: written by wip/tools/tables2.py -/
def ib_mi : List (Nat × Nat × Nat × Nat × Nat) := [(165, 6, 164, 3, 0), (526, 6, 524, 1, 525), (585, 6, 583, 1, 584), (708, 6, 706, 1, 707), (909, 6, 907, 1, 908), (699, 6, 697, 1, 698), (703, 6, 702, 2, 10), (713, 6, 711, 1, 712), (581, 6, 579, 1, 580), (589, 6, 587, 1, 588), (546, 6, 544, 1, 545), (30, 2, 29, 3, 0), (554, 2, 552, 1, 553), (550, 2, 548, 1, 549), (593, 2, 591, 1, 592), (646, 2, 644, 1, 645), (642, 2, 640, 1, 641), (650, 2, 648, 1, 649), (137, 5, 136, 3, 0), (663, 5, 661, 1, 662), (439, 5, 437, 1, 438), (530, 5, 528, 1, 529), (922, 5, 920, 1, 921), (927, 5, 926, 2, 26), (443, 16, 442, 3, 0), (514, 16, 512, 1, 513), (857, 16, 855, 1, 856), (780, 16, 778, 1, 779), (671, 16, 669, 1, 670), (675, 16, 673, 1, 674), (683, 16, 681, 1, 682), (717, 16, 715, 1, 716), (37, 3, 36, 3, 0), (1031, 3, 1030, 0, 0), (785, 3, 783, 1, 784), (597, 3, 595, 1, 596), (759, 3, 757, 1, 758), (755, 3, 753, 1, 754), (900, 3, 898, 1, 899), (751, 3, 749, 1, 750), (840, 3, 838, 1, 839), (767, 3, 765, 1, 766), (936, 3, 934, 1, 935), (721, 3, 719, 1, 720), (725, 3, 724, 2, 11), (733, 3, 731, 1, 732), (729, 3, 727, 1, 728), (1037, 3, 1035, 1, 1036), (791, 3, 789, 1, 790), (796, 3, 795, 2, 14), (234, 9, 233, 3, 0), (634, 9, 632, 1, 633), (638, 9, 636, 1, 637), (654, 9, 652, 1, 653), (659, 9, 658, 2, 5), (667, 9, 666, 2, 6), (679, 9, 678, 2, 7), (687, 9, 685, 1, 686), (691, 9, 690, 2, 8), (695, 9, 694, 2, 9), (738, 9, 736, 1, 737), (107, 4, 106, 3, 0), (426, 4, 424, 1, 425), (538, 4, 536, 1, 537), (534, 4, 532, 1, 533), (510, 4, 508, 1, 509), (993, 4, 991, 1, 992), (542, 4, 540, 1, 541), (192, 7, 191, 3, 0), (853, 7, 852, 2, 20), (849, 7, 847, 1, 848), (836, 7, 834, 1, 835), (1049, 7, 1047, 1, 1048), (1006, 7, 1004, 1, 1005), (1011, 7, 1009, 1, 1010), (1019, 7, 1018, 2, 31), (1015, 7, 1013, 1, 1014), (1024, 7, 1022, 1, 1023), (1028, 7, 1027, 2, 32), (1041, 7, 1040, 2, 33), (800, 7, 798, 1, 799), (862, 7, 860, 1, 861), (867, 7, 865, 1, 866), (771, 7, 769, 1, 770), (776, 7, 775, 2, 13), (809, 7, 808, 2, 15), (746, 7, 745, 2, 12), (742, 7, 740, 1, 741), (763, 7, 761, 1, 762), (211, 8, 210, 3, 0), (997, 8, 995, 1, 996), (813, 8, 811, 1, 812), (817, 8, 815, 1, 816), (821, 8, 820, 2, 16), (832, 8, 831, 2, 18), (845, 8, 844, 2, 19), (826, 8, 825, 2, 17), (263, 10, 262, 3, 0), (918, 10, 916, 1, 917), (931, 10, 930, 2, 27), (879, 10, 877, 1, 878), (887, 10, 886, 2, 22), (883, 10, 882, 2, 21), (891, 10, 890, 2, 23), (896, 10, 895, 2, 24), (904, 10, 903, 2, 25), (22, 1, 21, 3, 0), (330, 1, 328, 1, 329), (979, 1, 977, 1, 978), (1056, 1, 1054, 1, 1055), (1063, 1, 1061, 1, 1062), (1067, 1, 1065, 1, 1066), (1074, 1, 1072, 1, 1073), (1079, 1, 1077, 1, 1078), (1088, 1, 1086, 1, 1087), (430, 1, 428, 1, 429), (558, 1, 556, 1, 557), (601, 1, 599, 1, 600), (606, 1, 604, 1, 605), (629, 1, 627, 1, 628), (610, 1, 608, 1, 609), (957, 1, 955, 1, 956), (964, 1, 962, 1, 963), (610, 1, 608, 1, 609), (610, 1, 608, 1, 609), (610, 1, 608, 1, 609), (610, 1, 608, 1, 609), (1084, 1, 1082, 1, 1083), (610, 1, 608, 1, 609), (940, 1, 938, 1, 939), (953, 1, 951, 1, 952), (948, 1, 946, 1, 947), (914, 1, 912, 1, 913), (875, 1, 873, 1, 874), (333, 1, 332, 0, 0), (943, 1, 942, 0, 0), (561, 1, 560, 0, 0), (405, 1, 404, 2, 1), (984, 1, 983, 2, 28), (434, 1, 433, 2, 2), (518, 1, 517, 2, 3), (522, 1, 521, 2, 4), (989, 1, 988, 2, 29), (1001, 1, 1000, 2, 30), (1045, 1, 1044, 2, 34), (613, 0, 612, 0, 0), (618, 0, 617, 0, 0), (625, 0, 624, 0, 0), (975, 0, 974, 0, 0), (622, 0, 621, 0, 0), (972, 0, 971, 0, 0), (871, 0, 870, 0, 0), (969, 0, 968, 0, 0), (1070, 0, 1069, 0, 0)]
def ib_cw (M : ib_M) : Cond := if M.2.2.2.2.1.isEmpty then .code M.1 M.2.1 M.2.2.1 M.2.2.2.1 else .codeWith M.1 M.2.1 M.2.2.1 M.2.2.2.1 M.2.2.2.2.1
def ib_hok (M : ib_M) : Bool := M.2.2.2.2.1.all fun h => decide (h.2.2.2 ≠ 0) && decide (ib_ct h.2.2.2 < 3) && decide (Cond.classLink M.1.cls h.2.2.2 (ib_xn (ib_ct h.2.2.2)) ∈ tables_1)
def ib_mok (M : ib_M) (q : Nat × Nat × Nat × Nat × Nat) : Bool := plainName M.1.cls && ib_wd q.2.1 (.initialized M.1.cls) && decide (M.1.cls ≠ "java/lang/invoke/MethodHandle") && decide (M.1.cls ≠ "java/lang/invoke/VarHandle") && ib_hok M && (if q.2.2.2.1 = 0 then ib_wd q.2.2.1 (.static M.1) else ib_wd q.2.2.1 (.instanceMethod M.1)) && (if q.2.2.2.1 = 1 then ib_wd q.2.2.2.2 (.selects M.1.cls M.1 M.1) else if q.2.2.2.1 = 2 then decide ((lw_privs[q.2.2.2.2]?).map (fun z => z.1) = some M.1) && goodWord (.selects M.1.cls M.1 M.1) else true) && (decide (q.2.2.2.1 = 0) || M.2.2.2.2.1.isEmpty)
def ib_moks : List ib_M → List (Nat × Nat × Nat × Nat × Nat) → Bool
  | M :: r, q :: s => ib_mok M q && ib_moks r s
  | _, [] => true
  | [], _ => false
set_option maxRecDepth 100000 in
theorem ib_cw0 : ib_cw (yX0_init, cX0_init, 3, none, [], ib_c0) ∈ tables_1 := List.mem_of_getElem? (i := 165) rfl
set_option maxRecDepth 100000 in
theorem ib_cw1 : ib_cw (yX0_empty, cX0_empty, 2, none, [], ib_c1) ∈ tables_1 := List.mem_of_getElem? (i := 526) rfl
set_option maxRecDepth 100000 in
theorem ib_cw2 : ib_cw (yX0_frameOf, cX0_frameOf, 3, (some Jvm.ClassFile.FieldType.int), [], ib_c2) ∈ tables_1 := List.mem_of_getElem? (i := 585) rfl
set_option maxRecDepth 100000 in
theorem ib_cw3 : ib_cw (yX0_seen, cX0_seen, 3, (some (Jvm.ClassFile.FieldType.object "PageLoom$Page")), [], ib_c3) ∈ tables_1 := List.mem_of_getElem? (i := 708) rfl
set_option maxRecDepth 100000 in
theorem ib_cw4 : ib_cw (yX0_kindSeen, cX0_kindSeen, 3, (some Jvm.ClassFile.FieldType.int), [], ib_c4) ∈ tables_1 := List.mem_of_getElem? (i := 909) rfl
set_option maxRecDepth 100000 in
theorem ib_cw5 : ib_cw (yX0_use, cX0_use, 3, (some Jvm.ClassFile.FieldType.boolean), [], ib_c5) ∈ tables_1 := List.mem_of_getElem? (i := 699) rfl
set_option maxRecDepth 100000 in
theorem ib_cw6 : ib_cw (yX0_takeFrame, cX0_takeFrame, 3, (some Jvm.ClassFile.FieldType.int), [], ib_c6) ∈ tables_1 := List.mem_of_getElem? (i := 703) rfl
set_option maxRecDepth 100000 in
theorem ib_cw7 : ib_cw (yX0_toChange, cX0_toChange, 4, (some (Jvm.ClassFile.FieldType.object "PageLoom$Page")), [], ib_c7) ∈ tables_1 := List.mem_of_getElem? (i := 713) rfl
set_option maxRecDepth 100000 in
theorem ib_cw8 : ib_cw (yX0_differs, cX0_differs, 3, (some Jvm.ClassFile.FieldType.boolean), [], ib_c8) ∈ tables_1 := List.mem_of_getElem? (i := 581) rfl
set_option maxRecDepth 100000 in
theorem ib_cw9 : ib_cw (yX0_clean, cX0_clean, 3, (some Jvm.ClassFile.FieldType.boolean), [], ib_c9) ∈ tables_1 := List.mem_of_getElem? (i := 589) rfl
set_option maxRecDepth 100000 in
theorem ib_cw10 : ib_cw (yX0_tellDiffering, cX0_tellDiffering, 4, none, [], ib_c10) ∈ tables_1 := List.mem_of_getElem? (i := 546) rfl
set_option maxRecDepth 100000 in
theorem ib_cw11 : ib_cw (yX1_init, cX1_init, 2, none, [], ib_c11) ∈ tables_1 := List.mem_of_getElem? (i := 30) rfl
set_option maxRecDepth 100000 in
theorem ib_cw12 : ib_cw (yX1_doWrites, cX1_doWrites, 3, (some Jvm.ClassFile.FieldType.int), [], ib_c12) ∈ tables_1 := List.mem_of_getElem? (i := 554) rfl
set_option maxRecDepth 100000 in
theorem ib_cw13 : ib_cw (yX1_makeDurable, cX1_makeDurable, 4, (some Jvm.ClassFile.FieldType.boolean), [], ib_c13) ∈ tables_1 := List.mem_of_getElem? (i := 550) rfl
set_option maxRecDepth 100000 in
theorem ib_cw14 : ib_cw (yX1_writePage, cX1_writePage, 6, (some Jvm.ClassFile.FieldType.boolean), [], ib_c14) ∈ tables_1 := List.mem_of_getElem? (i := 593) rfl
set_option maxRecDepth 100000 in
theorem ib_cw15 : ib_cw (yX1_isTorn, cX1_isTorn, 2, (some Jvm.ClassFile.FieldType.boolean), [], ib_c15) ∈ tables_1 := List.mem_of_getElem? (i := 646) rfl
set_option maxRecDepth 100000 in
theorem ib_cw16 : ib_cw (yX1_spareMends, cX1_spareMends, 1, (some Jvm.ClassFile.FieldType.boolean), [], ib_c16) ∈ tables_1 := List.mem_of_getElem? (i := 642) rfl
set_option maxRecDepth 100000 in
theorem ib_cw17 : ib_cw (yX1_mendFromSpare, cX1_mendFromSpare, 2, (some Jvm.ClassFile.FieldType.int), [], ib_c17) ∈ tables_1 := List.mem_of_getElem? (i := 650) rfl
set_option maxRecDepth 100000 in
theorem ib_cw18 : ib_cw (yX2_init, cX2_init, 3, none, [], ib_c18) ∈ tables_1 := List.mem_of_getElem? (i := 137) rfl
set_option maxRecDepth 100000 in
theorem ib_cw19 : ib_cw (yX2_at, cX2_at, 2, (some (Jvm.ClassFile.FieldType.object "PageLoom$LogRecord")), [], ib_c19) ∈ tables_1 := List.mem_of_getElem? (i := 663) rfl
set_option maxRecDepth 100000 in
theorem ib_cw20 : ib_cw (yX2_append, cX2_append, 4, (some (Jvm.ClassFile.FieldType.object "PageLoom$LogRecord")), [], ib_c20) ∈ tables_1 := List.mem_of_getElem? (i := 439) rfl
set_option maxRecDepth 100000 in
theorem ib_cw21 : ib_cw (yX2_cut, cX2_cut, 1, none, [], ib_c21) ∈ tables_1 := List.mem_of_getElem? (i := 530) rfl
set_option maxRecDepth 100000 in
theorem ib_cw22 : ib_cw (yX2_committedValues, cX2_committedValues, 3, (some (Jvm.ClassFile.FieldType.array Jvm.ClassFile.FieldType.int)), [], ib_c22) ∈ tables_1 := List.mem_of_getElem? (i := 922) rfl
set_option maxRecDepth 100000 in
theorem ib_cw23 : ib_cw (yX2_believeChain, cX2_believeChain, 5, none, [], ib_c23) ∈ tables_1 := List.mem_of_getElem? (i := 927) rfl
set_option maxRecDepth 100000 in
theorem ib_cw24 : ib_cw (yX3_init, cX3_init, 1, none, [], ib_c24) ∈ tables_1 := List.mem_of_getElem? (i := 443) rfl
set_option maxRecDepth 100000 in
theorem ib_cw25 : ib_cw (yX3_begin, cX3_begin, 5, none, [], ib_c25) ∈ tables_1 := List.mem_of_getElem? (i := 514) rfl
set_option maxRecDepth 100000 in
theorem ib_cw26 : ib_cw (yX3_tellLeaf, cX3_tellLeaf, 2, none, [], ib_c26) ∈ tables_1 := List.mem_of_getElem? (i := 857) rfl
set_option maxRecDepth 100000 in
theorem ib_cw27 : ib_cw (yX3_tellImage, cX3_tellImage, 4, (some (Jvm.ClassFile.FieldType.object "PageLoom$Page")), [], ib_c27) ∈ tables_1 := List.mem_of_getElem? (i := 780) rfl
set_option maxRecDepth 100000 in
theorem ib_cw28 : ib_cw (yX3_toldLatest, cX3_toldLatest, 3, (some Jvm.ClassFile.FieldType.int), [], ib_c28) ∈ tables_1 := List.mem_of_getElem? (i := 671) rfl
set_option maxRecDepth 100000 in
theorem ib_cw29 : ib_cw (yX3_toldFirst, cX3_toldFirst, 2, (some Jvm.ClassFile.FieldType.int), [], ib_c29) ∈ tables_1 := List.mem_of_getElem? (i := 675) rfl
set_option maxRecDepth 100000 in
theorem ib_cw30 : ib_cw (yX3_pageAt, cX3_pageAt, 2, (some Jvm.ClassFile.FieldType.int), [], ib_c30) ∈ tables_1 := List.mem_of_getElem? (i := 683) rfl
set_option maxRecDepth 100000 in
theorem ib_cw31 : ib_cw (yX3_changePage, cX3_changePage, 4, none, [], ib_c31) ∈ tables_1 := List.mem_of_getElem? (i := 717) rfl
set_option maxRecDepth 100000 in
theorem ib_cw32 : ib_cw (yX4_init, cX4_init, 1, none, [], ib_c32) ∈ tables_1 := List.mem_of_getElem? (i := 37) rfl
set_option maxRecDepth 100000 in
theorem ib_cw33 : ib_cw (yX4_childCell, cX4_childCell, 2, (some Jvm.ClassFile.FieldType.int), [], ib_c33) ∈ tables_1 := List.mem_of_getElem? (i := 1031) rfl
set_option maxRecDepth 100000 in
theorem ib_cw34 : ib_cw (yX4_blank, cX4_blank, 2, none, [], ib_c34) ∈ tables_1 := List.mem_of_getElem? (i := 785) rfl
set_option maxRecDepth 100000 in
theorem ib_cw35 : ib_cw (yX4_become, cX4_become, 3, none, [], ib_c35) ∈ tables_1 := List.mem_of_getElem? (i := 597) rfl
set_option maxRecDepth 100000 in
theorem ib_cw36 : ib_cw (yX4_isBare, cX4_isBare, 1, (some Jvm.ClassFile.FieldType.boolean), [], ib_c36) ∈ tables_1 := List.mem_of_getElem? (i := 759) rfl
set_option maxRecDepth 100000 in
theorem ib_cw37 : ib_cw (yX4_cellAt, cX4_cellAt, 2, (some Jvm.ClassFile.FieldType.int), [], ib_c37) ∈ tables_1 := List.mem_of_getElem? (i := 755) rfl
set_option maxRecDepth 100000 in
theorem ib_cw38 : ib_cw (yX4_keyAt, cX4_keyAt, 3, (some Jvm.ClassFile.FieldType.int), [], ib_c38) ∈ tables_1 := List.mem_of_getElem? (i := 900) rfl
set_option maxRecDepth 100000 in
theorem ib_cw39 : ib_cw (yX4_childAt, cX4_childAt, 3, (some Jvm.ClassFile.FieldType.int), [], ib_c39) ∈ tables_1 := List.mem_of_getElem? (i := 751) rfl
set_option maxRecDepth 100000 in
theorem ib_cw40 : ib_cw (yX4_childFor, cX4_childFor, 4, (some Jvm.ClassFile.FieldType.int), [], ib_c40) ∈ tables_1 := List.mem_of_getElem? (i := 840) rfl
set_option maxRecDepth 100000 in
theorem ib_cw41 : ib_cw (yX4_placeOfChild, cX4_placeOfChild, 3, (some Jvm.ClassFile.FieldType.int), [], ib_c41) ∈ tables_1 := List.mem_of_getElem? (i := 767) rfl
set_option maxRecDepth 100000 in
theorem ib_cw42 : ib_cw (yX4_valueOf, cX4_valueOf, 4, (some Jvm.ClassFile.FieldType.int), [], ib_c42) ∈ tables_1 := List.mem_of_getElem? (i := 936) rfl
set_option maxRecDepth 100000 in
theorem ib_cw43 : ib_cw (yX4_setValue, cX4_setValue, 5, none, [], ib_c43) ∈ tables_1 := List.mem_of_getElem? (i := 721) rfl
set_option maxRecDepth 100000 in
theorem ib_cw44 : ib_cw (yX4_placeOfKey, cX4_placeOfKey, 3, (some Jvm.ClassFile.FieldType.int), [], ib_c44) ∈ tables_1 := List.mem_of_getElem? (i := 725) rfl
set_option maxRecDepth 100000 in
theorem ib_cw45 : ib_cw (yX4_insert, cX4_insert, 4, none, [], ib_c45) ∈ tables_1 := List.mem_of_getElem? (i := 733) rfl
set_option maxRecDepth 100000 in
theorem ib_cw46 : ib_cw (yX4_remove, cX4_remove, 3, none, [], ib_c46) ∈ tables_1 := List.mem_of_getElem? (i := 729) rfl
set_option maxRecDepth 100000 in
theorem ib_cw47 : ib_cw (yX4_becomePart, cX4_becomePart, 5, none, [], ib_c47) ∈ tables_1 := List.mem_of_getElem? (i := 1037) rfl
set_option maxRecDepth 100000 in
theorem ib_cw48 : ib_cw (yX4_removeChild, cX4_removeChild, 2, none, [], ib_c48) ∈ tables_1 := List.mem_of_getElem? (i := 791) rfl
set_option maxRecDepth 100000 in
theorem ib_cw49 : ib_cw (yX4_forgetKeyAheadOfFirst, cX4_forgetKeyAheadOfFirst, 1, none, [], ib_c49) ∈ tables_1 := List.mem_of_getElem? (i := 796) rfl
set_option maxRecDepth 100000 in
theorem ib_cw50 : ib_cw (yX5_init, cX5_init, 6, none, [], ib_c50) ∈ tables_1 := List.mem_of_getElem? (i := 234) rfl
set_option maxRecDepth 100000 in
theorem ib_cw51 : ib_cw (yX5_begin, cX5_begin, 2, none, [], ib_c51) ∈ tables_1 := List.mem_of_getElem? (i := 634) rfl
set_option maxRecDepth 100000 in
theorem ib_cw52 : ib_cw (yX5_mend, cX5_mend, 1, (some Jvm.ClassFile.FieldType.boolean), [], ib_c52) ∈ tables_1 := List.mem_of_getElem? (i := 638) rfl
set_option maxRecDepth 100000 in
theorem ib_cw53 : ib_cw (yX5_readLog, cX5_readLog, 5, none, [], ib_c53) ∈ tables_1 := List.mem_of_getElem? (i := 654) rfl
set_option maxRecDepth 100000 in
theorem ib_cw54 : ib_cw (yX5_latestMark, cX5_latestMark, 3, (some Jvm.ClassFile.FieldType.int), [], ib_c54) ∈ tables_1 := List.mem_of_getElem? (i := 659) rfl
set_option maxRecDepth 100000 in
theorem ib_cw55 : ib_cw (yX5_believe, cX5_believe, 3, none, [], ib_c55) ∈ tables_1 := List.mem_of_getElem? (i := 667) rfl
set_option maxRecDepth 100000 in
theorem ib_cw56 : ib_cw (yX5_readRecord, cX5_readRecord, 5, none, [], ib_c56) ∈ tables_1 := List.mem_of_getElem? (i := 679) rfl
set_option maxRecDepth 100000 in
theorem ib_cw57 : ib_cw (yX5_redo, cX5_redo, 4, (some Jvm.ClassFile.FieldType.boolean), [], ib_c57) ∈ tables_1 := List.mem_of_getElem? (i := 687) rfl
set_option maxRecDepth 100000 in
theorem ib_cw58 : ib_cw (yX5_leastFirst, cX5_leastFirst, 3, (some Jvm.ClassFile.FieldType.int), [], ib_c58) ∈ tables_1 := List.mem_of_getElem? (i := 691) rfl
set_option maxRecDepth 100000 in
theorem ib_cw59 : ib_cw (yX5_redoPage, cX5_redoPage, 6, (some Jvm.ClassFile.FieldType.boolean), [], ib_c59) ∈ tables_1 := List.mem_of_getElem? (i := 695) rfl
set_option maxRecDepth 100000 in
theorem ib_cw60 : ib_cw (yX5_tidy, cX5_tidy, 4, (some Jvm.ClassFile.FieldType.boolean), [], ib_c60) ∈ tables_1 := List.mem_of_getElem? (i := 738) rfl
set_option maxRecDepth 100000 in
theorem ib_cw61 : ib_cw (yX6_init, cX6_init, 2, none, [], ib_c61) ∈ tables_1 := List.mem_of_getElem? (i := 107) rfl
set_option maxRecDepth 100000 in
theorem ib_cw62 : ib_cw (yX6_begin, cX6_begin, 2, none, [], ib_c62) ∈ tables_1 := List.mem_of_getElem? (i := 426) rfl
set_option maxRecDepth 100000 in
theorem ib_cw63 : ib_cw (yX6_finish, cX6_finish, 3, none, [], ib_c63) ∈ tables_1 := List.mem_of_getElem? (i := 538) rfl
set_option maxRecDepth 100000 in
theorem ib_cw64 : ib_cw (yX6_clear, cX6_clear, 2, none, [], ib_c64) ∈ tables_1 := List.mem_of_getElem? (i := 534) rfl
set_option maxRecDepth 100000 in
theorem ib_cw65 : ib_cw (yX6_noteRecord, cX6_noteRecord, 4, (some Jvm.ClassFile.FieldType.int), [], ib_c65) ∈ tables_1 := List.mem_of_getElem? (i := 510) rfl
set_option maxRecDepth 100000 in
theorem ib_cw66 : ib_cw (yX6_victimOnRing, cX6_victimOnRing, 5, (some Jvm.ClassFile.FieldType.int), [], ib_c66) ∈ tables_1 := List.mem_of_getElem? (i := 993) rfl
set_option maxRecDepth 100000 in
theorem ib_cw67 : ib_cw (yX6_tellLatest, cX6_tellLatest, 3, none, [], ib_c67) ∈ tables_1 := List.mem_of_getElem? (i := 542) rfl
set_option maxRecDepth 100000 in
theorem ib_cw68 : ib_cw (yX7_init, cX7_init, 3, none, [], ib_c68) ∈ tables_1 := List.mem_of_getElem? (i := 192) rfl
set_option maxRecDepth 100000 in
theorem ib_cw69 : ib_cw (yX7_onWay, cX7_onWay, 2, (some Jvm.ClassFile.FieldType.int), [], ib_c69) ∈ tables_1 := List.mem_of_getElem? (i := 853) rfl
set_option maxRecDepth 100000 in
theorem ib_cw70 : ib_cw (yX7_end, cX7_end, 1, (some Jvm.ClassFile.FieldType.int), [], ib_c70) ∈ tables_1 := List.mem_of_getElem? (i := 849) rfl
set_option maxRecDepth 100000 in
theorem ib_cw71 : ib_cw (yX7_find, cX7_find, 5, (some Jvm.ClassFile.FieldType.boolean), [], ib_c71) ∈ tables_1 := List.mem_of_getElem? (i := 836) rfl
set_option maxRecDepth 100000 in
theorem ib_cw72 : ib_cw (yX7_valueAtEnd, cX7_valueAtEnd, 3, (some Jvm.ClassFile.FieldType.int), [], ib_c72) ∈ tables_1 := List.mem_of_getElem? (i := 1049) rfl
set_option maxRecDepth 100000 in
theorem ib_cw73 : ib_cw (yX7_endIsFullFor, cX7_endIsFullFor, 3, (some Jvm.ClassFile.FieldType.boolean), [], ib_c73) ∈ tables_1 := List.mem_of_getElem? (i := 1006) rfl
set_option maxRecDepth 100000 in
theorem ib_cw74 : ib_cw (yX7_topmostFull, cX7_topmostFull, 4, (some Jvm.ClassFile.FieldType.int), [], ib_c74) ∈ tables_1 := List.mem_of_getElem? (i := 1011) rfl
set_option maxRecDepth 100000 in
theorem ib_cw75 : ib_cw (yX7_freePageBehind, cX7_freePageBehind, 3, (some Jvm.ClassFile.FieldType.int), [], ib_c75) ∈ tables_1 := List.mem_of_getElem? (i := 1019) rfl
set_option maxRecDepth 100000 in
theorem ib_cw76 : ib_cw (yX7_pagesSufficeToSplit, cX7_pagesSufficeToSplit, 3, (some Jvm.ClassFile.FieldType.boolean), [], ib_c76) ∈ tables_1 := List.mem_of_getElem? (i := 1015) rfl
set_option maxRecDepth 100000 in
theorem ib_cw77 : ib_cw (yX7_split, cX7_split, 4, (some Jvm.ClassFile.FieldType.boolean), [], ib_c77) ∈ tables_1 := List.mem_of_getElem? (i := 1024) rfl
set_option maxRecDepth 100000 in
theorem ib_cw78 : ib_cw (yX7_tellRootSplit, cX7_tellRootSplit, 7, none, [], ib_c78) ∈ tables_1 := List.mem_of_getElem? (i := 1028) rfl
set_option maxRecDepth 100000 in
theorem ib_cw79 : ib_cw (yX7_tellSplit, cX7_tellSplit, 9, none, [], ib_c79) ∈ tables_1 := List.mem_of_getElem? (i := 1041) rfl
set_option maxRecDepth 100000 in
theorem ib_cw80 : ib_cw (yX7_perform, cX7_perform, 6, (some Jvm.ClassFile.FieldType.boolean), [], ib_c80) ∈ tables_1 := List.mem_of_getElem? (i := 800) rfl
set_option maxRecDepth 100000 in
theorem ib_cw81 : ib_cw (yX7_endIsBare, cX7_endIsBare, 2, (some Jvm.ClassFile.FieldType.boolean), [], ib_c81) ∈ tables_1 := List.mem_of_getElem? (i := 862) rfl
set_option maxRecDepth 100000 in
theorem ib_cw82 : ib_cw (yX7_stepUp, cX7_stepUp, 1, (some Jvm.ClassFile.FieldType.int), [], ib_c82) ∈ tables_1 := List.mem_of_getElem? (i := 867) rfl
set_option maxRecDepth 100000 in
theorem ib_cw83 : ib_cw (yX7_goes, cX7_goes, 6, (some Jvm.ClassFile.FieldType.boolean), [], ib_c83) ∈ tables_1 := List.mem_of_getElem? (i := 771) rfl
set_option maxRecDepth 100000 in
theorem ib_cw84 : ib_cw (yX7_tellGo, cX7_tellGo, 6, none, [], ib_c84) ∈ tables_1 := List.mem_of_getElem? (i := 776) rfl
set_option maxRecDepth 100000 in
theorem ib_cw85 : ib_cw (yX7_tellTakeOver, cX7_tellTakeOver, 4, none, [], ib_c85) ∈ tables_1 := List.mem_of_getElem? (i := 809) rfl
set_option maxRecDepth 100000 in
theorem ib_cw86 : ib_cw (yX7_onlyChildOfRoot, cX7_onlyChildOfRoot, 2, (some Jvm.ClassFile.FieldType.int), [], ib_c86) ∈ tables_1 := List.mem_of_getElem? (i := 746) rfl
set_option maxRecDepth 100000 in
theorem ib_cw87 : ib_cw (yX7_lowestUnsettled, cX7_lowestUnsettled, 3, (some Jvm.ClassFile.FieldType.int), [], ib_c87) ∈ tables_1 := List.mem_of_getElem? (i := 742) rfl
set_option maxRecDepth 100000 in
theorem ib_cw88 : ib_cw (yX7_parentOf, cX7_parentOf, 4, (some Jvm.ClassFile.FieldType.int), [], ib_c88) ∈ tables_1 := List.mem_of_getElem? (i := 763) rfl
set_option maxRecDepth 100000 in
theorem ib_cw89 : ib_cw (yX8_init, cX8_init, 4, none, [], ib_c89) ∈ tables_1 := List.mem_of_getElem? (i := 211) rfl
set_option maxRecDepth 100000 in
theorem ib_cw90 : ib_cw (yX8_lookAtAlone, cX8_lookAtAlone, 3, none, [], ib_c90) ∈ tables_1 := List.mem_of_getElem? (i := 997) rfl
set_option maxRecDepth 100000 in
theorem ib_cw91 : ib_cw (yX8_lookAtAllWithRecords, cX8_lookAtAllWithRecords, 2, none, [], ib_c91) ∈ tables_1 := List.mem_of_getElem? (i := 813) rfl
set_option maxRecDepth 100000 in
theorem ib_cw92 : ib_cw (yX8_goBack, cX8_goBack, 9, (some Jvm.ClassFile.FieldType.boolean), [], ib_c92) ∈ tables_1 := List.mem_of_getElem? (i := 817) rfl
set_option maxRecDepth 100000 in
theorem ib_cw93 : ib_cw (yX8_nextTransaction, cX8_nextTransaction, 4, (some Jvm.ClassFile.FieldType.int), [], ib_c93) ∈ tables_1 := List.mem_of_getElem? (i := 821) rfl
set_option maxRecDepth 100000 in
theorem ib_cw94 : ib_cw (yX8_recordAheadOf, cX8_recordAheadOf, 3, (some Jvm.ClassFile.FieldType.int), [], ib_c94) ∈ tables_1 := List.mem_of_getElem? (i := 832) rfl
set_option maxRecDepth 100000 in
theorem ib_cw95 : ib_cw (yX8_tellUndo, cX8_tellUndo, 3, (some Jvm.ClassFile.FieldType.boolean), [], ib_c95) ∈ tables_1 := List.mem_of_getElem? (i := 845) rfl
set_option maxRecDepth 100000 in
theorem ib_cw96 : ib_cw (yX8_end, cX8_end, 2, (some Jvm.ClassFile.FieldType.boolean), [], ib_c96) ∈ tables_1 := List.mem_of_getElem? (i := 826) rfl
set_option maxRecDepth 100000 in
theorem ib_cw97 : ib_cw (yX9_init, cX9_init, 4, none, [], ib_c97) ∈ tables_1 := List.mem_of_getElem? (i := 263) rfl
set_option maxRecDepth 100000 in
theorem ib_cw98 : ib_cw (yX9_agreesWithLog, cX9_agreesWithLog, 4, (some Jvm.ClassFile.FieldType.boolean), [], ib_c98) ∈ tables_1 := List.mem_of_getElem? (i := 918) rfl
set_option maxRecDepth 100000 in
theorem ib_cw99 : ib_cw (yX9_leafOf, cX9_leafOf, 5, (some (Jvm.ClassFile.FieldType.object "PageLoom$Page")), [], ib_c99) ∈ tables_1 := List.mem_of_getElem? (i := 931) rfl
set_option maxRecDepth 100000 in
theorem ib_cw100 : ib_cw (yX9_leastFault, cX9_leastFault, 3, (some Jvm.ClassFile.FieldType.int), [], ib_c100) ∈ tables_1 := List.mem_of_getElem? (i := 879) rfl
set_option maxRecDepth 100000 in
theorem ib_cw101 : ib_cw (yX9_fault, cX9_fault, 2, none, [], ib_c101) ∈ tables_1 := List.mem_of_getElem? (i := 887) rfl
set_option maxRecDepth 100000 in
theorem ib_cw102 : ib_cw (yX9_meet, cX9_meet, 5, none, [], ib_c102) ∈ tables_1 := List.mem_of_getElem? (i := 883) rfl
set_option maxRecDepth 100000 in
theorem ib_cw103 : ib_cw (yX9_lookInto, cX9_lookInto, 3, none, [], ib_c103) ∈ tables_1 := List.mem_of_getElem? (i := 891) rfl
set_option maxRecDepth 100000 in
theorem ib_cw104 : ib_cw (yX9_lookIntoLeaf, cX9_lookIntoLeaf, 5, none, [], ib_c104) ∈ tables_1 := List.mem_of_getElem? (i := 896) rfl
set_option maxRecDepth 100000 in
theorem ib_cw105 : ib_cw (yX9_lookIntoInner, cX9_lookIntoInner, 7, none, [], ib_c105) ∈ tables_1 := List.mem_of_getElem? (i := 904) rfl
set_option maxRecDepth 100000 in
theorem ib_cw106 : ib_cw (yX10_init, cX10_init, 1, none, [], ib_c106) ∈ tables_1 := List.mem_of_getElem? (i := 22) rfl
set_option maxRecDepth 100000 in
theorem ib_cw107 : ib_cw (yX10_open, cX10_open, 2, none, [], ib_c107) ∈ tables_1 := List.mem_of_getElem? (i := 330) rfl
set_option maxRecDepth 100000 in
theorem ib_cw108 : ib_cw (yX10_put, cX10_put, 5, (some Jvm.ClassFile.FieldType.int), [], ib_c108) ∈ tables_1 := List.mem_of_getElem? (i := 979) rfl
set_option maxRecDepth 100000 in
theorem ib_cw109 : ib_cw (yX10_take, cX10_take, 8, (some Jvm.ClassFile.FieldType.int), [], ib_c109) ∈ tables_1 := List.mem_of_getElem? (i := 1056) rfl
set_option maxRecDepth 100000 in
theorem ib_cw110 : ib_cw (yX10_read, cX10_read, 4, (some Jvm.ClassFile.FieldType.int), [], ib_c110) ∈ tables_1 := List.mem_of_getElem? (i := 1063) rfl
set_option maxRecDepth 100000 in
theorem ib_cw111 : ib_cw (yX10_place, cX10_place, 2, (some Jvm.ClassFile.FieldType.int), [], ib_c111) ∈ tables_1 := List.mem_of_getElem? (i := 1067) rfl
set_option maxRecDepth 100000 in
theorem ib_cw112 : ib_cw (yX10_back, cX10_back, 3, (some Jvm.ClassFile.FieldType.int), [], ib_c112) ∈ tables_1 := List.mem_of_getElem? (i := 1074) rfl
set_option maxRecDepth 100000 in
theorem ib_cw113 : ib_cw (yX10_commit, cX10_commit, 2, (some Jvm.ClassFile.FieldType.int), [], ib_c113) ∈ tables_1 := List.mem_of_getElem? (i := 1079) rfl
set_option maxRecDepth 100000 in
theorem ib_cw114 : ib_cw (yX10_undo, cX10_undo, 2, (some Jvm.ClassFile.FieldType.int), [], ib_c114) ∈ tables_1 := List.mem_of_getElem? (i := 1088) rfl
set_option maxRecDepth 100000 in
theorem ib_cw115 : ib_cw (yX10_mark, cX10_mark, 2, (some Jvm.ClassFile.FieldType.int), [], ib_c115) ∈ tables_1 := List.mem_of_getElem? (i := 430) rfl
set_option maxRecDepth 100000 in
theorem ib_cw116 : ib_cw (yX10_write, cX10_write, 2, (some Jvm.ClassFile.FieldType.int), [], ib_c116) ∈ tables_1 := List.mem_of_getElem? (i := 558) rfl
set_option maxRecDepth 100000 in
theorem ib_cw117 : ib_cw (yX10_crashAt, cX10_crashAt, 2, none, [], ib_c117) ∈ tables_1 := List.mem_of_getElem? (i := 601) rfl
set_option maxRecDepth 100000 in
theorem ib_cw118 : ib_cw (yX10_crash, cX10_crash, 1, none, [], ib_c118) ∈ tables_1 := List.mem_of_getElem? (i := 606) rfl
set_option maxRecDepth 100000 in
theorem ib_cw119 : ib_cw (yX10_recover, cX10_recover, 2, (some Jvm.ClassFile.FieldType.int), [], ib_c119) ∈ tables_1 := List.mem_of_getElem? (i := 629) rfl
set_option maxRecDepth 100000 in
theorem ib_cw120 : ib_cw (yX10_records, cX10_records, 1, (some Jvm.ClassFile.FieldType.int), [], ib_c120) ∈ tables_1 := List.mem_of_getElem? (i := 610) rfl
set_option maxRecDepth 100000 in
theorem ib_cw121 : ib_cw (yX10_page, cX10_page, 4, (some Jvm.ClassFile.FieldType.int), [], ib_c121) ∈ tables_1 := List.mem_of_getElem? (i := 957) rfl
set_option maxRecDepth 100000 in
theorem ib_cw122 : ib_cw (yX10_entry, cX10_entry, 4, (some Jvm.ClassFile.FieldType.int), [], ib_c122) ∈ tables_1 := List.mem_of_getElem? (i := 964) rfl
set_option maxRecDepth 100000 in
theorem ib_cw123 : ib_cw (yX10_records, cX10_records, 1, (some Jvm.ClassFile.FieldType.int), [], ib_c123) ∈ tables_1 := List.mem_of_getElem? (i := 610) rfl
set_option maxRecDepth 100000 in
theorem ib_cw124 : ib_cw (yX10_records, cX10_records, 1, (some Jvm.ClassFile.FieldType.int), [], ib_c124) ∈ tables_1 := List.mem_of_getElem? (i := 610) rfl
set_option maxRecDepth 100000 in
theorem ib_cw125 : ib_cw (yX10_records, cX10_records, 1, (some Jvm.ClassFile.FieldType.int), [], ib_c125) ∈ tables_1 := List.mem_of_getElem? (i := 610) rfl
set_option maxRecDepth 100000 in
theorem ib_cw126 : ib_cw (yX10_records, cX10_records, 1, (some Jvm.ClassFile.FieldType.int), [], ib_c126) ∈ tables_1 := List.mem_of_getElem? (i := 610) rfl
set_option maxRecDepth 100000 in
theorem ib_cw127 : ib_cw (yX10_durable, cX10_durable, 1, (some Jvm.ClassFile.FieldType.int), [], ib_c127) ∈ tables_1 := List.mem_of_getElem? (i := 1084) rfl
set_option maxRecDepth 100000 in
theorem ib_cw128 : ib_cw (yX10_records, cX10_records, 1, (some Jvm.ClassFile.FieldType.int), [], ib_c128) ∈ tables_1 := List.mem_of_getElem? (i := 610) rfl
set_option maxRecDepth 100000 in
theorem ib_cw129 : ib_cw (yX10_holder, cX10_holder, 2, (some Jvm.ClassFile.FieldType.int), [], ib_c129) ∈ tables_1 := List.mem_of_getElem? (i := 940) rfl
set_option maxRecDepth 100000 in
theorem ib_cw130 : ib_cw (yX10_waitsFor, cX10_waitsFor, 2, (some Jvm.ClassFile.FieldType.int), [], ib_c130) ∈ tables_1 := List.mem_of_getElem? (i := 953) rfl
set_option maxRecDepth 100000 in
theorem ib_cw131 : ib_cw (yX10_plain, cX10_plain, 2, (some Jvm.ClassFile.FieldType.int), [], ib_c131) ∈ tables_1 := List.mem_of_getElem? (i := 948) rfl
set_option maxRecDepth 100000 in
theorem ib_cw132 : ib_cw (yX10_agrees, cX10_agrees, 1, (some Jvm.ClassFile.FieldType.boolean), [], ib_c132) ∈ tables_1 := List.mem_of_getElem? (i := 914) rfl
set_option maxRecDepth 100000 in
theorem ib_cw133 : ib_cw (yX10_check, cX10_check, 1, (some Jvm.ClassFile.FieldType.int), [], ib_c133) ∈ tables_1 := List.mem_of_getElem? (i := 875) rfl
set_option maxRecDepth 100000 in
theorem ib_cw134 : ib_cw (yX10_needTransaction, cX10_needTransaction, 1, none, [], ib_c134) ∈ tables_1 := List.mem_of_getElem? (i := 333) rfl
set_option maxRecDepth 100000 in
theorem ib_cw135 : ib_cw (yX10_needKey, cX10_needKey, 1, none, [], ib_c135) ∈ tables_1 := List.mem_of_getElem? (i := 943) rfl
set_option maxRecDepth 100000 in
theorem ib_cw136 : ib_cw (yX10_needPage, cX10_needPage, 1, none, [], ib_c136) ∈ tables_1 := List.mem_of_getElem? (i := 561) rfl
set_option maxRecDepth 100000 in
theorem ib_cw137 : ib_cw (yX10_needNoCrash, cX10_needNoCrash, 1, none, [], ib_c137) ∈ tables_1 := List.mem_of_getElem? (i := 405) rfl
set_option maxRecDepth 100000 in
theorem ib_cw138 : ib_cw (yX10_needOpen, cX10_needOpen, 2, none, [], ib_c138) ∈ tables_1 := List.mem_of_getElem? (i := 984) rfl
set_option maxRecDepth 100000 in
theorem ib_cw139 : ib_cw (yX10_needRoomInLog, cX10_needRoomInLog, 1, none, [], ib_c139) ∈ tables_1 := List.mem_of_getElem? (i := 434) rfl
set_option maxRecDepth 100000 in
theorem ib_cw140 : ib_cw (yX10_told, cX10_told, 2, (some Jvm.ClassFile.FieldType.int), [], ib_c140) ∈ tables_1 := List.mem_of_getElem? (i := 518) rfl
set_option maxRecDepth 100000 in
theorem ib_cw141 : ib_cw (yX10_fall, cX10_fall, 1, none, [], ib_c141) ∈ tables_1 := List.mem_of_getElem? (i := 522) rfl
set_option maxRecDepth 100000 in
theorem ib_cw142 : ib_cw (yX10_lock, cX10_lock, 6, (some Jvm.ClassFile.FieldType.int), [], ib_c142) ∈ tables_1 := List.mem_of_getElem? (i := 989) rfl
set_option maxRecDepth 100000 in
theorem ib_cw143 : ib_cw (yX10_splitFor, cX10_splitFor, 4, (some Jvm.ClassFile.FieldType.int), [], ib_c143) ∈ tables_1 := List.mem_of_getElem? (i := 1001) rfl
set_option maxRecDepth 100000 in
theorem ib_cw144 : ib_cw (yX10_changeLeaf, cX10_changeLeaf, 5, (some Jvm.ClassFile.FieldType.boolean), [], ib_c144) ∈ tables_1 := List.mem_of_getElem? (i := 1045) rfl
set_option maxRecDepth 100000 in
theorem ib_cw145 : ib_cw (yL_cell, cL_cell, 2, (some Jvm.ClassFile.FieldType.int), [], ib_c145) ∈ tables_1 := List.mem_of_getElem? (i := 613) rfl
set_option maxRecDepth 100000 in
theorem ib_cw146 : ib_cw (yL_low, cL_low, 2, (some Jvm.ClassFile.FieldType.int), [], ib_c146) ∈ tables_1 := List.mem_of_getElem? (i := 618) rfl
set_option maxRecDepth 100000 in
theorem ib_cw147 : ib_cw (yL_ends, cL_ends, 4, none, [], ib_c147) ∈ tables_1 := List.mem_of_getElem? (i := 625) rfl
set_option maxRecDepth 100000 in
theorem ib_cw148 : ib_cw (yL_undoes, cL_undoes, 8, (some Jvm.ClassFile.FieldType.int), [], ib_c148) ∈ tables_1 := List.mem_of_getElem? (i := 975) rfl
set_option maxRecDepth 100000 in
theorem ib_cw149 : ib_cw (yL_falls, cL_falls, 6, (some Jvm.ClassFile.FieldType.boolean), [], ib_c149) ∈ tables_1 := List.mem_of_getElem? (i := 622) rfl
set_option maxRecDepth 100000 in
theorem ib_cw150 : ib_cw (yL_locks, cL_locks, 11, (some Jvm.ClassFile.FieldType.int), [], ib_c150) ∈ tables_1 := List.mem_of_getElem? (i := 972) rfl
set_option maxRecDepth 100000 in
theorem ib_cw151 : ib_cw (yL_same, cL_same, 11, (some Jvm.ClassFile.FieldType.boolean), [], ib_c151) ∈ tables_1 := List.mem_of_getElem? (i := 871) rfl
set_option maxRecDepth 100000 in
theorem ib_cw152 : ib_cw (yL_changes, cL_changes, 16, (some Jvm.ClassFile.FieldType.boolean), [], ib_c152) ∈ tables_1 := List.mem_of_getElem? (i := 969) rfl
set_option maxRecDepth 100000 in
theorem ib_cw153 : ib_cw (yL_ending, cL_ending, 12, (some Jvm.ClassFile.FieldType.boolean), [], ib_c153) ∈ tables_1 := List.mem_of_getElem? (i := 1070) rfl
def ib_msA0 : List ib_M := [(yX0_init, cX0_init, 3, none, [], ib_c0), (yX0_empty, cX0_empty, 2, none, [], ib_c1), (yX0_frameOf, cX0_frameOf, 3, (some Jvm.ClassFile.FieldType.int), [], ib_c2), (yX0_seen, cX0_seen, 3, (some (Jvm.ClassFile.FieldType.object "PageLoom$Page")), [], ib_c3), (yX0_kindSeen, cX0_kindSeen, 3, (some Jvm.ClassFile.FieldType.int), [], ib_c4), (yX0_use, cX0_use, 3, (some Jvm.ClassFile.FieldType.boolean), [], ib_c5), (yX0_takeFrame, cX0_takeFrame, 3, (some Jvm.ClassFile.FieldType.int), [], ib_c6), (yX0_toChange, cX0_toChange, 4, (some (Jvm.ClassFile.FieldType.object "PageLoom$Page")), [], ib_c7), (yX0_differs, cX0_differs, 3, (some Jvm.ClassFile.FieldType.boolean), [], ib_c8), (yX0_clean, cX0_clean, 3, (some Jvm.ClassFile.FieldType.boolean), [], ib_c9), (yX0_tellDiffering, cX0_tellDiffering, 4, none, [], ib_c10), (yX1_init, cX1_init, 2, none, [], ib_c11), (yX1_doWrites, cX1_doWrites, 3, (some Jvm.ClassFile.FieldType.int), [], ib_c12), (yX1_makeDurable, cX1_makeDurable, 4, (some Jvm.ClassFile.FieldType.boolean), [], ib_c13), (yX1_writePage, cX1_writePage, 6, (some Jvm.ClassFile.FieldType.boolean), [], ib_c14), (yX1_isTorn, cX1_isTorn, 2, (some Jvm.ClassFile.FieldType.boolean), [], ib_c15), (yX1_spareMends, cX1_spareMends, 1, (some Jvm.ClassFile.FieldType.boolean), [], ib_c16), (yX1_mendFromSpare, cX1_mendFromSpare, 2, (some Jvm.ClassFile.FieldType.int), [], ib_c17), (yX2_init, cX2_init, 3, none, [], ib_c18), (yX2_at, cX2_at, 2, (some (Jvm.ClassFile.FieldType.object "PageLoom$LogRecord")), [], ib_c19), (yX2_append, cX2_append, 4, (some (Jvm.ClassFile.FieldType.object "PageLoom$LogRecord")), [], ib_c20), (yX2_cut, cX2_cut, 1, none, [], ib_c21), (yX2_committedValues, cX2_committedValues, 3, (some (Jvm.ClassFile.FieldType.array Jvm.ClassFile.FieldType.int)), [], ib_c22), (yX2_believeChain, cX2_believeChain, 5, none, [], ib_c23), (yX3_init, cX3_init, 1, none, [], ib_c24), (yX3_begin, cX3_begin, 5, none, [], ib_c25), (yX3_tellLeaf, cX3_tellLeaf, 2, none, [], ib_c26), (yX3_tellImage, cX3_tellImage, 4, (some (Jvm.ClassFile.FieldType.object "PageLoom$Page")), [], ib_c27), (yX3_toldLatest, cX3_toldLatest, 3, (some Jvm.ClassFile.FieldType.int), [], ib_c28), (yX3_toldFirst, cX3_toldFirst, 2, (some Jvm.ClassFile.FieldType.int), [], ib_c29), (yX3_pageAt, cX3_pageAt, 2, (some Jvm.ClassFile.FieldType.int), [], ib_c30), (yX3_changePage, cX3_changePage, 4, none, [], ib_c31)]
theorem ib_cwA0 : ∀ M ∈ ib_msA0, ib_cw M ∈ tables_1 := List.forall_mem_cons.mpr ⟨ib_cw0, List.forall_mem_cons.mpr ⟨ib_cw1, List.forall_mem_cons.mpr ⟨ib_cw2, List.forall_mem_cons.mpr ⟨ib_cw3, List.forall_mem_cons.mpr ⟨ib_cw4, List.forall_mem_cons.mpr ⟨ib_cw5, List.forall_mem_cons.mpr ⟨ib_cw6, List.forall_mem_cons.mpr ⟨ib_cw7, List.forall_mem_cons.mpr ⟨ib_cw8, List.forall_mem_cons.mpr ⟨ib_cw9, List.forall_mem_cons.mpr ⟨ib_cw10, List.forall_mem_cons.mpr ⟨ib_cw11, List.forall_mem_cons.mpr ⟨ib_cw12, List.forall_mem_cons.mpr ⟨ib_cw13, List.forall_mem_cons.mpr ⟨ib_cw14, List.forall_mem_cons.mpr ⟨ib_cw15, List.forall_mem_cons.mpr ⟨ib_cw16, List.forall_mem_cons.mpr ⟨ib_cw17, List.forall_mem_cons.mpr ⟨ib_cw18, List.forall_mem_cons.mpr ⟨ib_cw19, List.forall_mem_cons.mpr ⟨ib_cw20, List.forall_mem_cons.mpr ⟨ib_cw21, List.forall_mem_cons.mpr ⟨ib_cw22, List.forall_mem_cons.mpr ⟨ib_cw23, List.forall_mem_cons.mpr ⟨ib_cw24, List.forall_mem_cons.mpr ⟨ib_cw25, List.forall_mem_cons.mpr ⟨ib_cw26, List.forall_mem_cons.mpr ⟨ib_cw27, List.forall_mem_cons.mpr ⟨ib_cw28, List.forall_mem_cons.mpr ⟨ib_cw29, List.forall_mem_cons.mpr ⟨ib_cw30, List.forall_mem_cons.mpr ⟨ib_cw31, fun _ h => absurd h List.not_mem_nil⟩⟩⟩⟩⟩⟩⟩⟩⟩⟩⟩⟩⟩⟩⟩⟩⟩⟩⟩⟩⟩⟩⟩⟩⟩⟩⟩⟩⟩⟩⟩⟩
def ib_msA1 : List ib_M := [(yX4_init, cX4_init, 1, none, [], ib_c32), (yX4_childCell, cX4_childCell, 2, (some Jvm.ClassFile.FieldType.int), [], ib_c33), (yX4_blank, cX4_blank, 2, none, [], ib_c34), (yX4_become, cX4_become, 3, none, [], ib_c35), (yX4_isBare, cX4_isBare, 1, (some Jvm.ClassFile.FieldType.boolean), [], ib_c36), (yX4_cellAt, cX4_cellAt, 2, (some Jvm.ClassFile.FieldType.int), [], ib_c37), (yX4_keyAt, cX4_keyAt, 3, (some Jvm.ClassFile.FieldType.int), [], ib_c38), (yX4_childAt, cX4_childAt, 3, (some Jvm.ClassFile.FieldType.int), [], ib_c39), (yX4_childFor, cX4_childFor, 4, (some Jvm.ClassFile.FieldType.int), [], ib_c40), (yX4_placeOfChild, cX4_placeOfChild, 3, (some Jvm.ClassFile.FieldType.int), [], ib_c41), (yX4_valueOf, cX4_valueOf, 4, (some Jvm.ClassFile.FieldType.int), [], ib_c42), (yX4_setValue, cX4_setValue, 5, none, [], ib_c43), (yX4_placeOfKey, cX4_placeOfKey, 3, (some Jvm.ClassFile.FieldType.int), [], ib_c44), (yX4_insert, cX4_insert, 4, none, [], ib_c45), (yX4_remove, cX4_remove, 3, none, [], ib_c46), (yX4_becomePart, cX4_becomePart, 5, none, [], ib_c47), (yX4_removeChild, cX4_removeChild, 2, none, [], ib_c48), (yX4_forgetKeyAheadOfFirst, cX4_forgetKeyAheadOfFirst, 1, none, [], ib_c49), (yX5_init, cX5_init, 6, none, [], ib_c50), (yX5_begin, cX5_begin, 2, none, [], ib_c51), (yX5_mend, cX5_mend, 1, (some Jvm.ClassFile.FieldType.boolean), [], ib_c52), (yX5_readLog, cX5_readLog, 5, none, [], ib_c53), (yX5_latestMark, cX5_latestMark, 3, (some Jvm.ClassFile.FieldType.int), [], ib_c54), (yX5_believe, cX5_believe, 3, none, [], ib_c55), (yX5_readRecord, cX5_readRecord, 5, none, [], ib_c56), (yX5_redo, cX5_redo, 4, (some Jvm.ClassFile.FieldType.boolean), [], ib_c57), (yX5_leastFirst, cX5_leastFirst, 3, (some Jvm.ClassFile.FieldType.int), [], ib_c58), (yX5_redoPage, cX5_redoPage, 6, (some Jvm.ClassFile.FieldType.boolean), [], ib_c59), (yX5_tidy, cX5_tidy, 4, (some Jvm.ClassFile.FieldType.boolean), [], ib_c60), (yX6_init, cX6_init, 2, none, [], ib_c61), (yX6_begin, cX6_begin, 2, none, [], ib_c62), (yX6_finish, cX6_finish, 3, none, [], ib_c63)]
theorem ib_cwA1 : ∀ M ∈ ib_msA1, ib_cw M ∈ tables_1 := List.forall_mem_cons.mpr ⟨ib_cw32, List.forall_mem_cons.mpr ⟨ib_cw33, List.forall_mem_cons.mpr ⟨ib_cw34, List.forall_mem_cons.mpr ⟨ib_cw35, List.forall_mem_cons.mpr ⟨ib_cw36, List.forall_mem_cons.mpr ⟨ib_cw37, List.forall_mem_cons.mpr ⟨ib_cw38, List.forall_mem_cons.mpr ⟨ib_cw39, List.forall_mem_cons.mpr ⟨ib_cw40, List.forall_mem_cons.mpr ⟨ib_cw41, List.forall_mem_cons.mpr ⟨ib_cw42, List.forall_mem_cons.mpr ⟨ib_cw43, List.forall_mem_cons.mpr ⟨ib_cw44, List.forall_mem_cons.mpr ⟨ib_cw45, List.forall_mem_cons.mpr ⟨ib_cw46, List.forall_mem_cons.mpr ⟨ib_cw47, List.forall_mem_cons.mpr ⟨ib_cw48, List.forall_mem_cons.mpr ⟨ib_cw49, List.forall_mem_cons.mpr ⟨ib_cw50, List.forall_mem_cons.mpr ⟨ib_cw51, List.forall_mem_cons.mpr ⟨ib_cw52, List.forall_mem_cons.mpr ⟨ib_cw53, List.forall_mem_cons.mpr ⟨ib_cw54, List.forall_mem_cons.mpr ⟨ib_cw55, List.forall_mem_cons.mpr ⟨ib_cw56, List.forall_mem_cons.mpr ⟨ib_cw57, List.forall_mem_cons.mpr ⟨ib_cw58, List.forall_mem_cons.mpr ⟨ib_cw59, List.forall_mem_cons.mpr ⟨ib_cw60, List.forall_mem_cons.mpr ⟨ib_cw61, List.forall_mem_cons.mpr ⟨ib_cw62, List.forall_mem_cons.mpr ⟨ib_cw63, fun _ h => absurd h List.not_mem_nil⟩⟩⟩⟩⟩⟩⟩⟩⟩⟩⟩⟩⟩⟩⟩⟩⟩⟩⟩⟩⟩⟩⟩⟩⟩⟩⟩⟩⟩⟩⟩⟩
def ib_msA2 : List ib_M := [(yX6_clear, cX6_clear, 2, none, [], ib_c64), (yX6_noteRecord, cX6_noteRecord, 4, (some Jvm.ClassFile.FieldType.int), [], ib_c65), (yX6_victimOnRing, cX6_victimOnRing, 5, (some Jvm.ClassFile.FieldType.int), [], ib_c66), (yX6_tellLatest, cX6_tellLatest, 3, none, [], ib_c67), (yX7_init, cX7_init, 3, none, [], ib_c68), (yX7_onWay, cX7_onWay, 2, (some Jvm.ClassFile.FieldType.int), [], ib_c69), (yX7_end, cX7_end, 1, (some Jvm.ClassFile.FieldType.int), [], ib_c70), (yX7_find, cX7_find, 5, (some Jvm.ClassFile.FieldType.boolean), [], ib_c71), (yX7_valueAtEnd, cX7_valueAtEnd, 3, (some Jvm.ClassFile.FieldType.int), [], ib_c72), (yX7_endIsFullFor, cX7_endIsFullFor, 3, (some Jvm.ClassFile.FieldType.boolean), [], ib_c73), (yX7_topmostFull, cX7_topmostFull, 4, (some Jvm.ClassFile.FieldType.int), [], ib_c74), (yX7_freePageBehind, cX7_freePageBehind, 3, (some Jvm.ClassFile.FieldType.int), [], ib_c75), (yX7_pagesSufficeToSplit, cX7_pagesSufficeToSplit, 3, (some Jvm.ClassFile.FieldType.boolean), [], ib_c76), (yX7_split, cX7_split, 4, (some Jvm.ClassFile.FieldType.boolean), [], ib_c77), (yX7_tellRootSplit, cX7_tellRootSplit, 7, none, [], ib_c78), (yX7_tellSplit, cX7_tellSplit, 9, none, [], ib_c79), (yX7_perform, cX7_perform, 6, (some Jvm.ClassFile.FieldType.boolean), [], ib_c80), (yX7_endIsBare, cX7_endIsBare, 2, (some Jvm.ClassFile.FieldType.boolean), [], ib_c81), (yX7_stepUp, cX7_stepUp, 1, (some Jvm.ClassFile.FieldType.int), [], ib_c82), (yX7_goes, cX7_goes, 6, (some Jvm.ClassFile.FieldType.boolean), [], ib_c83), (yX7_tellGo, cX7_tellGo, 6, none, [], ib_c84), (yX7_tellTakeOver, cX7_tellTakeOver, 4, none, [], ib_c85), (yX7_onlyChildOfRoot, cX7_onlyChildOfRoot, 2, (some Jvm.ClassFile.FieldType.int), [], ib_c86), (yX7_lowestUnsettled, cX7_lowestUnsettled, 3, (some Jvm.ClassFile.FieldType.int), [], ib_c87), (yX7_parentOf, cX7_parentOf, 4, (some Jvm.ClassFile.FieldType.int), [], ib_c88), (yX8_init, cX8_init, 4, none, [], ib_c89), (yX8_lookAtAlone, cX8_lookAtAlone, 3, none, [], ib_c90), (yX8_lookAtAllWithRecords, cX8_lookAtAllWithRecords, 2, none, [], ib_c91), (yX8_goBack, cX8_goBack, 9, (some Jvm.ClassFile.FieldType.boolean), [], ib_c92), (yX8_nextTransaction, cX8_nextTransaction, 4, (some Jvm.ClassFile.FieldType.int), [], ib_c93), (yX8_recordAheadOf, cX8_recordAheadOf, 3, (some Jvm.ClassFile.FieldType.int), [], ib_c94), (yX8_tellUndo, cX8_tellUndo, 3, (some Jvm.ClassFile.FieldType.boolean), [], ib_c95)]
theorem ib_cwA2 : ∀ M ∈ ib_msA2, ib_cw M ∈ tables_1 := List.forall_mem_cons.mpr ⟨ib_cw64, List.forall_mem_cons.mpr ⟨ib_cw65, List.forall_mem_cons.mpr ⟨ib_cw66, List.forall_mem_cons.mpr ⟨ib_cw67, List.forall_mem_cons.mpr ⟨ib_cw68, List.forall_mem_cons.mpr ⟨ib_cw69, List.forall_mem_cons.mpr ⟨ib_cw70, List.forall_mem_cons.mpr ⟨ib_cw71, List.forall_mem_cons.mpr ⟨ib_cw72, List.forall_mem_cons.mpr ⟨ib_cw73, List.forall_mem_cons.mpr ⟨ib_cw74, List.forall_mem_cons.mpr ⟨ib_cw75, List.forall_mem_cons.mpr ⟨ib_cw76, List.forall_mem_cons.mpr ⟨ib_cw77, List.forall_mem_cons.mpr ⟨ib_cw78, List.forall_mem_cons.mpr ⟨ib_cw79, List.forall_mem_cons.mpr ⟨ib_cw80, List.forall_mem_cons.mpr ⟨ib_cw81, List.forall_mem_cons.mpr ⟨ib_cw82, List.forall_mem_cons.mpr ⟨ib_cw83, List.forall_mem_cons.mpr ⟨ib_cw84, List.forall_mem_cons.mpr ⟨ib_cw85, List.forall_mem_cons.mpr ⟨ib_cw86, List.forall_mem_cons.mpr ⟨ib_cw87, List.forall_mem_cons.mpr ⟨ib_cw88, List.forall_mem_cons.mpr ⟨ib_cw89, List.forall_mem_cons.mpr ⟨ib_cw90, List.forall_mem_cons.mpr ⟨ib_cw91, List.forall_mem_cons.mpr ⟨ib_cw92, List.forall_mem_cons.mpr ⟨ib_cw93, List.forall_mem_cons.mpr ⟨ib_cw94, List.forall_mem_cons.mpr ⟨ib_cw95, fun _ h => absurd h List.not_mem_nil⟩⟩⟩⟩⟩⟩⟩⟩⟩⟩⟩⟩⟩⟩⟩⟩⟩⟩⟩⟩⟩⟩⟩⟩⟩⟩⟩⟩⟩⟩⟩⟩
def ib_msA3 : List ib_M := [(yX8_end, cX8_end, 2, (some Jvm.ClassFile.FieldType.boolean), [], ib_c96), (yX9_init, cX9_init, 4, none, [], ib_c97), (yX9_agreesWithLog, cX9_agreesWithLog, 4, (some Jvm.ClassFile.FieldType.boolean), [], ib_c98), (yX9_leafOf, cX9_leafOf, 5, (some (Jvm.ClassFile.FieldType.object "PageLoom$Page")), [], ib_c99), (yX9_leastFault, cX9_leastFault, 3, (some Jvm.ClassFile.FieldType.int), [], ib_c100), (yX9_fault, cX9_fault, 2, none, [], ib_c101), (yX9_meet, cX9_meet, 5, none, [], ib_c102), (yX9_lookInto, cX9_lookInto, 3, none, [], ib_c103), (yX9_lookIntoLeaf, cX9_lookIntoLeaf, 5, none, [], ib_c104), (yX9_lookIntoInner, cX9_lookIntoInner, 7, none, [], ib_c105), (yX10_init, cX10_init, 1, none, [], ib_c106), (yX10_open, cX10_open, 2, none, [], ib_c107), (yX10_put, cX10_put, 5, (some Jvm.ClassFile.FieldType.int), [], ib_c108), (yX10_take, cX10_take, 8, (some Jvm.ClassFile.FieldType.int), [], ib_c109), (yX10_read, cX10_read, 4, (some Jvm.ClassFile.FieldType.int), [], ib_c110), (yX10_place, cX10_place, 2, (some Jvm.ClassFile.FieldType.int), [], ib_c111), (yX10_back, cX10_back, 3, (some Jvm.ClassFile.FieldType.int), [], ib_c112), (yX10_commit, cX10_commit, 2, (some Jvm.ClassFile.FieldType.int), [], ib_c113), (yX10_undo, cX10_undo, 2, (some Jvm.ClassFile.FieldType.int), [], ib_c114), (yX10_mark, cX10_mark, 2, (some Jvm.ClassFile.FieldType.int), [], ib_c115), (yX10_write, cX10_write, 2, (some Jvm.ClassFile.FieldType.int), [], ib_c116), (yX10_crashAt, cX10_crashAt, 2, none, [], ib_c117), (yX10_crash, cX10_crash, 1, none, [], ib_c118), (yX10_recover, cX10_recover, 2, (some Jvm.ClassFile.FieldType.int), [], ib_c119), (yX10_records, cX10_records, 1, (some Jvm.ClassFile.FieldType.int), [], ib_c120), (yX10_page, cX10_page, 4, (some Jvm.ClassFile.FieldType.int), [], ib_c121), (yX10_entry, cX10_entry, 4, (some Jvm.ClassFile.FieldType.int), [], ib_c122), (yX10_records, cX10_records, 1, (some Jvm.ClassFile.FieldType.int), [], ib_c123), (yX10_records, cX10_records, 1, (some Jvm.ClassFile.FieldType.int), [], ib_c124), (yX10_records, cX10_records, 1, (some Jvm.ClassFile.FieldType.int), [], ib_c125), (yX10_records, cX10_records, 1, (some Jvm.ClassFile.FieldType.int), [], ib_c126), (yX10_durable, cX10_durable, 1, (some Jvm.ClassFile.FieldType.int), [], ib_c127)]
theorem ib_cwA3 : ∀ M ∈ ib_msA3, ib_cw M ∈ tables_1 := List.forall_mem_cons.mpr ⟨ib_cw96, List.forall_mem_cons.mpr ⟨ib_cw97, List.forall_mem_cons.mpr ⟨ib_cw98, List.forall_mem_cons.mpr ⟨ib_cw99, List.forall_mem_cons.mpr ⟨ib_cw100, List.forall_mem_cons.mpr ⟨ib_cw101, List.forall_mem_cons.mpr ⟨ib_cw102, List.forall_mem_cons.mpr ⟨ib_cw103, List.forall_mem_cons.mpr ⟨ib_cw104, List.forall_mem_cons.mpr ⟨ib_cw105, List.forall_mem_cons.mpr ⟨ib_cw106, List.forall_mem_cons.mpr ⟨ib_cw107, List.forall_mem_cons.mpr ⟨ib_cw108, List.forall_mem_cons.mpr ⟨ib_cw109, List.forall_mem_cons.mpr ⟨ib_cw110, List.forall_mem_cons.mpr ⟨ib_cw111, List.forall_mem_cons.mpr ⟨ib_cw112, List.forall_mem_cons.mpr ⟨ib_cw113, List.forall_mem_cons.mpr ⟨ib_cw114, List.forall_mem_cons.mpr ⟨ib_cw115, List.forall_mem_cons.mpr ⟨ib_cw116, List.forall_mem_cons.mpr ⟨ib_cw117, List.forall_mem_cons.mpr ⟨ib_cw118, List.forall_mem_cons.mpr ⟨ib_cw119, List.forall_mem_cons.mpr ⟨ib_cw120, List.forall_mem_cons.mpr ⟨ib_cw121, List.forall_mem_cons.mpr ⟨ib_cw122, List.forall_mem_cons.mpr ⟨ib_cw123, List.forall_mem_cons.mpr ⟨ib_cw124, List.forall_mem_cons.mpr ⟨ib_cw125, List.forall_mem_cons.mpr ⟨ib_cw126, List.forall_mem_cons.mpr ⟨ib_cw127, fun _ h => absurd h List.not_mem_nil⟩⟩⟩⟩⟩⟩⟩⟩⟩⟩⟩⟩⟩⟩⟩⟩⟩⟩⟩⟩⟩⟩⟩⟩⟩⟩⟩⟩⟩⟩⟩⟩
def ib_msA4 : List ib_M := [(yX10_records, cX10_records, 1, (some Jvm.ClassFile.FieldType.int), [], ib_c128), (yX10_holder, cX10_holder, 2, (some Jvm.ClassFile.FieldType.int), [], ib_c129), (yX10_waitsFor, cX10_waitsFor, 2, (some Jvm.ClassFile.FieldType.int), [], ib_c130), (yX10_plain, cX10_plain, 2, (some Jvm.ClassFile.FieldType.int), [], ib_c131), (yX10_agrees, cX10_agrees, 1, (some Jvm.ClassFile.FieldType.boolean), [], ib_c132), (yX10_check, cX10_check, 1, (some Jvm.ClassFile.FieldType.int), [], ib_c133), (yX10_needTransaction, cX10_needTransaction, 1, none, [], ib_c134), (yX10_needKey, cX10_needKey, 1, none, [], ib_c135), (yX10_needPage, cX10_needPage, 1, none, [], ib_c136), (yX10_needNoCrash, cX10_needNoCrash, 1, none, [], ib_c137), (yX10_needOpen, cX10_needOpen, 2, none, [], ib_c138), (yX10_needRoomInLog, cX10_needRoomInLog, 1, none, [], ib_c139), (yX10_told, cX10_told, 2, (some Jvm.ClassFile.FieldType.int), [], ib_c140), (yX10_fall, cX10_fall, 1, none, [], ib_c141), (yX10_lock, cX10_lock, 6, (some Jvm.ClassFile.FieldType.int), [], ib_c142), (yX10_splitFor, cX10_splitFor, 4, (some Jvm.ClassFile.FieldType.int), [], ib_c143), (yX10_changeLeaf, cX10_changeLeaf, 5, (some Jvm.ClassFile.FieldType.boolean), [], ib_c144), (yL_cell, cL_cell, 2, (some Jvm.ClassFile.FieldType.int), [], ib_c145), (yL_low, cL_low, 2, (some Jvm.ClassFile.FieldType.int), [], ib_c146), (yL_ends, cL_ends, 4, none, [], ib_c147), (yL_undoes, cL_undoes, 8, (some Jvm.ClassFile.FieldType.int), [], ib_c148), (yL_falls, cL_falls, 6, (some Jvm.ClassFile.FieldType.boolean), [], ib_c149), (yL_locks, cL_locks, 11, (some Jvm.ClassFile.FieldType.int), [], ib_c150), (yL_same, cL_same, 11, (some Jvm.ClassFile.FieldType.boolean), [], ib_c151), (yL_changes, cL_changes, 16, (some Jvm.ClassFile.FieldType.boolean), [], ib_c152), (yL_ending, cL_ending, 12, (some Jvm.ClassFile.FieldType.boolean), [], ib_c153)]
theorem ib_cwA4 : ∀ M ∈ ib_msA4, ib_cw M ∈ tables_1 := List.forall_mem_cons.mpr ⟨ib_cw128, List.forall_mem_cons.mpr ⟨ib_cw129, List.forall_mem_cons.mpr ⟨ib_cw130, List.forall_mem_cons.mpr ⟨ib_cw131, List.forall_mem_cons.mpr ⟨ib_cw132, List.forall_mem_cons.mpr ⟨ib_cw133, List.forall_mem_cons.mpr ⟨ib_cw134, List.forall_mem_cons.mpr ⟨ib_cw135, List.forall_mem_cons.mpr ⟨ib_cw136, List.forall_mem_cons.mpr ⟨ib_cw137, List.forall_mem_cons.mpr ⟨ib_cw138, List.forall_mem_cons.mpr ⟨ib_cw139, List.forall_mem_cons.mpr ⟨ib_cw140, List.forall_mem_cons.mpr ⟨ib_cw141, List.forall_mem_cons.mpr ⟨ib_cw142, List.forall_mem_cons.mpr ⟨ib_cw143, List.forall_mem_cons.mpr ⟨ib_cw144, List.forall_mem_cons.mpr ⟨ib_cw145, List.forall_mem_cons.mpr ⟨ib_cw146, List.forall_mem_cons.mpr ⟨ib_cw147, List.forall_mem_cons.mpr ⟨ib_cw148, List.forall_mem_cons.mpr ⟨ib_cw149, List.forall_mem_cons.mpr ⟨ib_cw150, List.forall_mem_cons.mpr ⟨ib_cw151, List.forall_mem_cons.mpr ⟨ib_cw152, List.forall_mem_cons.mpr ⟨ib_cw153, fun _ h => absurd h List.not_mem_nil⟩⟩⟩⟩⟩⟩⟩⟩⟩⟩⟩⟩⟩⟩⟩⟩⟩⟩⟩⟩⟩⟩⟩⟩⟩⟩
set_option maxRecDepth 100000 in
theorem ib_ms_eq : ib_ms = ib_msA0 ++ (ib_msA1 ++ (ib_msA2 ++ (ib_msA3 ++ (ib_msA4 ++ [(yL_law, cL_law, maxLocals, ret, [], ib_c154)])))) := rfl
set_option maxRecDepth 100000 in
theorem ib_moks_all : ib_moks ib_ms ib_mi = true := by decide +kernel
def ib_xs : List String := ["java/lang/RuntimeException", "java/lang/Exception"]
def ib_xok (own : String) (ic k : Nat) : Bool := (vx_atS own ic (ib_xn k) ib_xs).all (fun w => decide (w ∈ tables_1) && (goodWord w || ib_isX w)) && (Cond.initialized (ib_xn k) :: vx_atS own ic (ib_xn k) ib_xs).all vx_ot && decide (Cond.initialized (ib_xn k) ∈ tables_1) && goodWord (Cond.initialized (ib_xn k)) && Bundle.fit (ib_xn k) && ib_xs.all Bundle.fit && decide (k < 3)
set_option maxRecDepth 100000 in
theorem ib_xok0 : ib_xok "PageLoom" 92 1 = true := by decide +kernel
set_option maxRecDepth 100000 in
theorem ib_xok1 : ib_xok "PageLoom" 105 0 = true := by decide +kernel
set_option maxRecDepth 100000 in
theorem ib_xok2 : ib_xok "PageLoom" 261 2 = true := by decide +kernel
def ib_xl : List (String × Nat × Nat) := [("PageLoom", 92, 1), ("PageLoom", 105, 0), ("PageLoom", 261, 2)]
/-- method, pc, the class, the text, the constructor, which exception, the text itself, ldc_w -/
def ib_tx : List (Nat × Nat × Nat × Nat × Nat × Nat × String × Bool) := [(107, 20, 88, 90, 92, 1, "the transaction is open", false), (108, 19, 101, 103, 105, 0, "no such value", false), (112, 19, 101, 160, 105, 0, "no such place", false), (117, 11, 101, 198, 105, 0, "no such write", false), (119, 7, 88, 210, 92, 1, "there is no crash to recover from", false), (121, 13, 101, 237, 105, 0, "a page has no such thing", false), (122, 8, 257, 259, 261, 2, "no such entry", true), (134, 9, 101, 323, 105, 0, "no such transaction", true), (135, 10, 101, 325, 105, 0, "no such key", true), (136, 10, 257, 327, 261, 2, "no such page", true), (137, 7, 88, 329, 92, 1, "there was a crash", true), (138, 16, 88, 331, 92, 1, "the transaction is not open", true), (139, 13, 88, 333, 92, 1, "the log has too many records", true)]
def ib_txok (t : Nat × Nat × Nat × Nat × Nat × Nat × String × Bool) : Bool := match ib_Ms t.1 with
  | some M => M.2.2.2.2.1.isEmpty && decide ((M.1.cls, t.2.2.2.2.1, t.2.2.2.2.2.1) ∈ ib_xl) && decide (Cond.classLink M.1.cls t.2.2.1 (ib_xn t.2.2.2.2.2.1) ∈ tables_1) && goodWord (Cond.classLink M.1.cls t.2.2.1 (ib_xn t.2.2.2.2.2.1)) && decide (Cond.stringRef M.1.cls t.2.2.2.1 t.2.2.2.2.2.2.1 ∈ tables_1) && decide (M.2.2.2.2.2[t.2.1]? = some (some (.new t.2.2.1, 100 + t.2.2.2.2.2.1, t.2.2.2.1, t.2.2.2.2.1, (((M.2.2.2.2.2[t.2.1]?.getD none).getD (.nop, 0, 0, 0, 0)).2.2.2.2)))) && decide (decode M.2.1 t.2.1 = .ok (.new t.2.2.1, 3)) && decide (decode M.2.1 (t.2.1 + 3) = .ok (.dup, 1)) && (if t.2.2.2.2.2.2.2 then decide (decode M.2.1 (t.2.1 + 4) = .ok (.ldc_w t.2.2.2.1, 3)) && decide (decode M.2.1 (t.2.1 + 7) = .ok (.invokespecial t.2.2.2.2.1, 3)) && decide (decode M.2.1 (t.2.1 + 10) = .ok (.athrow, 1)) else decide (decode M.2.1 (t.2.1 + 4) = .ok (.ldc t.2.2.2.1, 2)) && decide (decode M.2.1 (t.2.1 + 6) = .ok (.invokespecial t.2.2.2.2.1, 3)) && decide (decode M.2.1 (t.2.1 + 9) = .ok (.athrow, 1)))
  | none => false
/-- each place of a throw in the tables is in the list -/
def ib_txin (mi pc : Nat) (a1 : Nat) : Bool := ib_tx.any fun t => decide (t.1 = mi) && decide (t.2.1 = pc) && decide (a1 = 100 + t.2.2.2.2.2.1)
def ib_txc : Nat → Nat → List (Option ib_A) → Bool
  | _, _, [] => true
  | mi, pc, none :: r => ib_txc mi (pc + 1) r
  | mi, pc, some q :: r => (match q.1 with | .new _ => decide (q.2.1 < 100) || ib_txin mi pc q.2.1 | _ => true) && ib_txc mi (pc + 1) r
def ib_txcs : Nat → List ib_M → Bool
  | _, [] => true
  | mi, M :: r => ib_txc mi 0 M.2.2.2.2.2 && ib_txcs (mi + 1) r
set_option maxRecDepth 100000 in
theorem ib_txcs_all : ib_txcs 0 ib_ms = true := by decide +kernel
theorem ib_tx_all : ib_tx.all ib_txok = true := by decide +kernel
/-- each call is of the kind that its method is -/
def ib_kd (k : Nat) : Nat := (ib_mi[k]?.getD (0, 0, 0, 9, 0)).2.2.2.1
def ib_kc : List (Option ib_A) → Bool
  | [] => true
  | none :: r => ib_kc r
  | some q :: r => (match q.1 with | .invokevirtual _ => decide (ib_kd q.2.1 = 1) || decide (ib_kd q.2.1 = 2) | .invokestatic _ => decide (ib_kd q.2.1 = 0) | .invokespecial _ => decide (q.2.1 = 1000) || decide (ib_kd q.2.1 = 3) | _ => true) && ib_kc r
set_option maxRecDepth 100000 in
theorem ib_kc_all : (ib_ms.all fun M => ib_kc M.2.2.2.2.2) = true := by decide +kernel
theorem ib_oi : Cond.instanceMethod Lib.objectInit ∈ tables_1 ∧ Cond.code Lib.objectInit ⟨#[0xb1]⟩ 1 none ∈ tables_1 := by decide +kernel
theorem ib_cx : ∀ k, k < 3 → Cond.castable (ib_xn k) (ib_xn k) ∈ tables_1 := by decide +kernel
