theorem pj_gr {big : List Cond} (ws : List Cond) (ps : List Nat) (hp : ws = ps.filterMap (fun i => big[i]?)) (h : ws.all goodWord = true) : GoodIn big ws := by
  intro w hw
  have h1 := List.all_eq_true.mp h w hw
  rw [hp] at hw
  obtain ⟨i, -, hi⟩ := List.mem_filterMap.mp hw
  exact ⟨List.mem_of_getElem? hi, good_of_word h1⟩
theorem pj_ga {big a b : List Cond} (ha : GoodIn big a) (hb : GoodIn big b) : GoodIn big (a ++ b) := fun w h => (List.mem_append.mp h).elim (ha w) (hb w)
def pj_wF (q : Nat × Nat × Nat × Nat) : Cond := .fieldLink (pj_Rn q.1) q.2.1 (pj_T q.2.2.1 q.2.2.2).1 (pj_T q.2.2.1 q.2.2.2).2.1 (pj_T q.2.2.1 q.2.2.2).2.2.1
def pj_wC (q : Nat × Nat × Nat × Nat × Nat) : List Cond := match q.2.2.1 with
  | 0 => [.methodLink (pj_Rn q.1) q.2.1 (pj_y q.2.2.2.1), .instanceMethod (pj_y q.2.2.2.1), .selects (pj_y q.2.2.2.1).cls (pj_y q.2.2.2.1) (pj_y q.2.2.2.1), .initialized (pj_y q.2.2.2.1).cls]
  | 1 => [.methodLink (pj_Rn q.1) q.2.1 (pj_y q.2.2.2.1), .static (pj_y q.2.2.2.1), .initialized (pj_y q.2.2.2.1).cls]
  | 2 => [.methodLink (pj_Rn q.1) q.2.1 (pj_y q.2.2.2.1), .instanceMethod (pj_y q.2.2.2.1), .initialized (pj_y q.2.2.2.1).cls]
  | _ => [.instanceMethod (pj_y q.2.2.2.1), .initialized (pj_y q.2.2.2.1).cls]
def pj_wM (q : pj_Me) : Cond := .code q.1 q.2.1 q.2.2.1 q.2.2.2.1
def pj_wN (q : Nat × Nat × Nat) : List Cond := [.classLink (pj_Rn q.1) q.2.1 (pj_Rn q.2.2), .instantiable (pj_Rn q.2.2) (pj_N q.2.2), .initialized (pj_Rn q.2.2)]
def pj_U0 : List Cond := [.instanceMethod objectInit, .arrayClass .int, .arrayClass .boolean, .native arraycopyName, .static arraycopyName, .initialized "java/lang/System"]
set_option maxRecDepth 100000 in
theorem pj_U0_in : GoodIn lw_tbl pj_U0 := pj_gr pj_U0 [67, 106, 829, 507, 506, 59] (by decide +kernel) (by decide +kernel)
def pj_U1 : List Cond := pj_otab.map (fun q => Cond.methodLink (pj_Rn q.1) q.2 objectInit)
set_option maxRecDepth 100000 in
theorem pj_U1_in : GoodIn lw_tbl pj_U1 := pj_gr pj_U1 [222, 197, 234, 112, 228, 74, 66, 707] (by decide +kernel) (by decide +kernel)
def pj_U2 : List Cond := pj_ytab.map (fun q => Cond.methodLink (pj_Rn q.1) q.2 arraycopyName)
set_option maxRecDepth 100000 in
theorem pj_U2_in : GoodIn lw_tbl pj_U2 := pj_gr pj_U2 [656, 505, 685] (by decide +kernel) (by decide +kernel)
def pj_U3 : List Cond := pj_ftab.map pj_wF
set_option maxRecDepth 100000 in
theorem pj_U3_in : GoodIn lw_tbl pj_U3 := pj_gr pj_U3 [329, 331, 332, 334, 335, 337, 338, 327, 328, 289, 242, 297, 156, 159, 245, 201, 204, 206, 238, 240, 243, 244, 246, 248, 250, 251, 252, 253, 254, 235, 236, 237, 83, 125, 148, 153, 146, 208, 119, 78, 129, 133, 143, 116, 113, 117, 121, 123, 127, 131, 135, 138, 140, 142, 144, 147, 150, 154, 158, 290, 291, 292, 293, 294, 295, 296, 298, 299, 285, 286, 287, 288, 91, 241, 202, 205, 86, 207, 80, 114, 124, 77, 151, 149, 128, 132, 145, 239, 155, 137, 120, 247, 249, 75, 79, 82, 85, 88, 90, 358, 359, 360, 361, 362, 363, 364, 76, 87, 115, 152, 84, 118, 141, 126, 136, 139, 89, 81, 92, 160, 122, 130, 134, 203, 209, 330, 157, 333, 336, 708, 709, 710, 711, 712, 713, 714, 715, 716, 717, 718, 719, 720, 721, 722, 723, 724, 728, 730, 733, 734, 735, 736, 737, 738, 739, 740, 741, 745, 746, 747, 725, 726, 743, 727, 729, 731, 732, 742, 744] (by decide +kernel) (by decide +kernel)
def pj_U4 : List Cond := pj_ctab.flatMap pj_wC
set_option maxRecDepth 100000 in
theorem pj_U4_in : GoodIn lw_tbl pj_U4 := pj_gr pj_U4 [225, 226, 56, 501, 502, 503, 56, 497, 499, 5, 55, 516, 517, 518, 57, 546, 547, 548, 56, 551, 552, 553, 56, 631, 632, 633, 56, 537, 538, 60, 543, 544, 55, 655, 199, 54, 198, 199, 54, 567, 569, 12, 57, 575, 577, 13, 57, 521, 523, 8, 57, 579, 581, 14, 57, 525, 527, 9, 57, 520, 199, 54, 408, 409, 410, 52, 416, 418, 2, 52, 231, 232, 57, 284, 199, 54, 508, 510, 6, 56, 512, 514, 7, 56, 550, 409, 410, 52, 555, 557, 10, 56, 583, 585, 15, 56, 587, 552, 553, 56, 559, 561, 11, 56, 571, 572, 573, 57, 563, 564, 565, 57, 72, 51, 110, 52, 194, 195, 53, 219, 220, 55, 384, 386, 0, 50, 388, 389, 390, 55, 392, 393, 394, 51, 400, 402, 1, 50, 404, 405, 406, 52, 412, 413, 414, 52, 424, 426, 3, 50, 432, 409, 410, 52, 445, 446, 447, 51, 449, 450, 451, 53, 457, 459, 4, 50, 477, 478, 479, 53, 485, 486, 487, 53, 493, 494, 495, 55, 533, 534, 535, 55, 596, 598, 16, 50, 600, 601, 602, 55, 608, 609, 610, 52, 620, 621, 50, 627, 628, 629, 55, 643, 644, 645, 55, 651, 652, 653, 55, 661, 662, 663, 55, 669, 671, 17, 50, 673, 674, 675, 55, 836, 837, 58, 839, 841, 18, 58, 847, 849, 19, 58, 856, 858, 20, 58, 883, 885, 21, 58, 903, 905, 22, 58, 931, 933, 27, 58, 927, 929, 26, 58, 923, 925, 25, 58, 919, 921, 24, 58, 974, 976, 36, 58, 935, 937, 28, 58, 978, 980, 37, 58, 970, 972, 35, 58, 915, 917, 23, 58, 962, 964, 33, 58, 966, 968, 34, 58, 982, 984, 38, 58, 947, 949, 30, 58, 951, 952, 58, 954, 956, 31, 58, 958, 960, 32, 58, 986, 988, 39, 58, 943, 945, 29, 58, 998, 1000, 40, 58, 1006, 1008, 41, 58, 1010, 1012, 42, 58, 1034, 1036, 45, 58, 1030, 1032, 44, 58, 1026, 1028, 43, 58, 1054, 1056, 46, 58, 1066, 1068, 48, 58, 1062, 1064, 47, 58, 63, 64, 50, 704, 705, 58, 380, 381, 382, 50, 830, 831, 832, 58, 396, 397, 398, 50, 843, 844, 845, 58, 420, 421, 422, 50, 852, 853, 854, 58, 428, 429, 430, 50, 861, 862, 863, 58, 433, 434, 435, 50, 866, 867, 868, 58, 437, 438, 439, 50, 871, 872, 873, 58, 441, 442, 443, 50, 875, 876, 877, 58, 453, 454, 455, 50, 879, 880, 881, 58, 461, 462, 463, 50, 887, 888, 889, 58, 465, 466, 467, 50, 891, 892, 893, 58, 469, 470, 471, 50, 895, 896, 897, 58, 473, 474, 475, 50, 899, 900, 901, 58, 481, 482, 483, 50, 907, 908, 909, 58, 489, 490, 491, 50, 911, 912, 913, 58, 529, 530, 531, 50, 939, 940, 941, 58, 588, 589, 590, 50, 990, 991, 992, 58, 592, 593, 594, 50, 994, 995, 996, 58, 604, 605, 606, 50, 1002, 1003, 1004, 58, 612, 613, 614, 50, 1014, 1015, 1016, 58, 616, 617, 618, 50, 1018, 1019, 1020, 58, 623, 624, 625, 50, 1022, 1023, 1024, 58, 635, 636, 637, 50, 1038, 1039, 1040, 58, 639, 640, 641, 50, 1042, 1043, 1044, 58, 647, 648, 649, 50, 1046, 1047, 1048, 58, 657, 658, 659, 50, 1050, 1051, 1052, 58, 665, 666, 667, 50, 1058, 1059, 1060, 58, 677, 678, 679, 50, 1070, 1071, 1072, 58, 681, 682, 683, 50, 1074, 1075, 1076, 58, 686, 687, 688, 50, 1078, 1079, 1080, 58, 690, 691, 692, 50, 1082, 1083, 1084, 58, 694, 695, 696, 50, 1086, 1087, 1088, 58, 698, 699, 700, 50, 1090, 1091, 1092, 58] (by decide +kernel) (by decide +kernel)
def pj_U6 : List Cond := pj_ntab.flatMap pj_wN
set_option maxRecDepth 100000 in
theorem pj_U6_in : GoodIn lw_tbl pj_U6 := pj_gr pj_U6 [223, 224, 56, 229, 230, 57, 69, 70, 51, 107, 108, 52, 192, 193, 53, 217, 218, 55, 61, 62, 50, 702, 703, 58] (by decide +kernel) (by decide +kernel)
def pj_U7 : List Cond := pj_k32.map (fun q => Cond.constant (pj_Rn q.1) q.2.1 (Int32.ofInt q.2.2))
set_option maxRecDepth 100000 in
theorem pj_U7_in : GoodIn lw_tbl pj_U7 := pj_gr pj_U7 [540, 541, 542] (by decide +kernel) (by decide +kernel)
def pj_U8 : List Cond := pj_k64.map (fun q => Cond.constantLong (pj_Rn q.1) q.2.1 (Int64.ofInt q.2.2))
set_option maxRecDepth 100000 in
theorem pj_U8_in : GoodIn lw_tbl pj_U8 := pj_gr pj_U8 [834, 835, 851, 860, 865, 870, 1094, 1095] (by decide +kernel) (by decide +kernel)
def pj_U9 : List Cond := (List.range 8).flatMap (fun c => u_ws (pj_Rn c) (pj_T c) (pj_N c))
set_option maxRecDepth 100000 in
theorem pj_U9_in : GoodIn lw_tbl pj_U9 := pj_gr pj_U9 [339, 341, 343, 345, 347, 349, 351, 353, 355, 210, 212, 214, 255, 257, 259, 261, 263, 265, 267, 269, 271, 273, 275, 277, 279, 281, 161, 163, 165, 167, 169, 171, 173, 175, 177, 179, 181, 183, 185, 187, 189, 300, 302, 304, 306, 308, 310, 312, 314, 316, 318, 320, 322, 324, 93, 95, 97, 99, 101, 103, 365, 367, 369, 371, 373, 375, 377, 748, 750, 752, 754, 756, 758, 760, 762, 764, 766, 768, 770, 772, 774, 776, 778, 780, 782, 784, 786, 788, 790, 792, 794, 796, 798, 800, 802, 804, 806, 808, 810, 812, 814, 816, 818, 820, 822, 824, 826] (by decide +kernel) (by decide +kernel)
def pj_U5 : List Cond := .code objectInit ⟨#[0xb1]⟩ 1 none :: (pj_ms.take 152).map pj_wM
theorem pj_cg {big : List Cond} {y : MethodName} {b : ByteArray} {k : Nat} {r : Option FieldType} (i : Nat) (h : big[i]? = some (Cond.code y b k r)) : (Cond.code y b k r) ∈ big ∧ (((Cond.code y b k r).onTables && (Cond.code y b k r).keeps) = true ∨ ∃ ty, Cond.code y b k r = .arrayClass ty) := ⟨List.mem_of_getElem? h, Or.inl rfl⟩
set_option maxRecDepth 100000 in
theorem pj_cm0 : pj_wM (yX0_init, cX0_init, 4, none, 0) ∈ lw_tbl := List.mem_of_getElem? (i := 221) rfl
set_option maxRecDepth 100000 in
theorem pj_cm1 : pj_wM (yX0_forget, cX0_forget, 1, none, 0) ∈ lw_tbl := List.mem_of_getElem? (i := 391) rfl
set_option maxRecDepth 100000 in
theorem pj_cm2 : pj_wM (yX0_prepare, cX0_prepare, 1, none, 0) ∈ lw_tbl := List.mem_of_getElem? (i := 500) rfl
set_option maxRecDepth 100000 in
theorem pj_cm3 : pj_wM (yX0_numbersDue, cX0_numbersDue, 2, (some (.array .int)), 0) ∈ lw_tbl := List.mem_of_getElem? (i := 496) rfl
set_option maxRecDepth 100000 in
theorem pj_cm4 : pj_wM (yX0_doesAgree, cX0_doesAgree, 2, (some .boolean), 0) ∈ lw_tbl := List.mem_of_getElem? (i := 603) rfl
set_option maxRecDepth 100000 in
theorem pj_cm5 : pj_wM (yX0_canBe, cX0_canBe, 2, (some .boolean), 0) ∈ lw_tbl := List.mem_of_getElem? (i := 646) rfl
set_option maxRecDepth 100000 in
theorem pj_cm6 : pj_wM (yX0_findStories, cX0_findStories, 6, (some .int), 0) ∈ lw_tbl := List.mem_of_getElem? (i := 536) rfl
set_option maxRecDepth 100000 in
theorem pj_cm7 : pj_wM (yX0_findQuarrels, cX0_findQuarrels, 6, (some .int), 0) ∈ lw_tbl := List.mem_of_getElem? (i := 630) rfl
set_option maxRecDepth 100000 in
theorem pj_cm8 : pj_wM (yX0_holdsOne, cX0_holdsOne, 4, (some .boolean), 0) ∈ lw_tbl := List.mem_of_getElem? (i := 545) rfl
set_option maxRecDepth 100000 in
theorem pj_cm9 : pj_wM (yX0_learn, cX0_learn, 4, none, 0) ∈ lw_tbl := List.mem_of_getElem? (i := 654) rfl
set_option maxRecDepth 100000 in
theorem pj_cm10 : pj_wM (yX0_worthOf, cX0_worthOf, 6, (some .int), 0) ∈ lw_tbl := List.mem_of_getElem? (i := 664) rfl
set_option maxRecDepth 100000 in
theorem pj_cm11 : pj_wM (yX0_tells, cX0_tells, 3, (some .boolean), 0) ∈ lw_tbl := List.mem_of_getElem? (i := 676) rfl
set_option maxRecDepth 100000 in
theorem pj_cm12 : pj_wM (yX1_init, cX1_init, 1, none, 1) ∈ lw_tbl := List.mem_of_getElem? (i := 196) rfl
set_option maxRecDepth 100000 in
theorem pj_cm13 : pj_wM (yX1_add, cX1_add, 3, none, 1) ∈ lw_tbl := List.mem_of_getElem? (i := 480) rfl
set_option maxRecDepth 100000 in
theorem pj_cm14 : pj_wM (yX1_dropLatest, cX1_dropLatest, 1, none, 1) ∈ lw_tbl := List.mem_of_getElem? (i := 488) rfl
set_option maxRecDepth 100000 in
theorem pj_cm15 : pj_wM (yX1_keepTicks, cX1_keepTicks, 4, none, 1) ∈ lw_tbl := List.mem_of_getElem? (i := 452) rfl
set_option maxRecDepth 100000 in
theorem pj_cm16 : pj_wM (yX2_init, cX2_init, 4, none, 2) ∈ lw_tbl := List.mem_of_getElem? (i := 233) rfl
set_option maxRecDepth 100000 in
theorem pj_cm17 : pj_wM (yX2_enter, cX2_enter, 6, none, 2) ∈ lw_tbl := List.mem_of_getElem? (i := 566) rfl
set_option maxRecDepth 100000 in
theorem pj_cm18 : pj_wM (yX2_numbersOwed, cX2_numbersOwed, 2, (some .int), 2) ∈ lw_tbl := List.mem_of_getElem? (i := 570) rfl
set_option maxRecDepth 100000 in
theorem pj_cm19 : pj_wM (yX2_reachedFrom, cX2_reachedFrom, 3, (some .int), 2) ∈ lw_tbl := List.mem_of_getElem? (i := 574) rfl
set_option maxRecDepth 100000 in
theorem pj_cm20 : pj_wM (yX2_walk, cX2_walk, 10, (some .boolean), 2) ∈ lw_tbl := List.mem_of_getElem? (i := 578) rfl
set_option maxRecDepth 100000 in
theorem pj_cm21 : pj_wM (yX2_arrive, cX2_arrive, 4, (some .boolean), 2) ∈ lw_tbl := List.mem_of_getElem? (i := 582) rfl
set_option maxRecDepth 100000 in
theorem pj_cm22 : pj_wM (yX2_gives, cX2_gives, 5, (some .int), 2) ∈ lw_tbl := List.mem_of_getElem? (i := 524) rfl
set_option maxRecDepth 100000 in
theorem pj_cm23 : pj_wM (yX2_makes, cX2_makes, 5, (some .int), 2) ∈ lw_tbl := List.mem_of_getElem? (i := 528) rfl
set_option maxRecDepth 100000 in
theorem pj_cm24 : pj_wM (yX2_runSound, cX2_runSound, 5, none, 2) ∈ lw_tbl := List.mem_of_getElem? (i := 519) rfl
set_option maxRecDepth 100000 in
theorem pj_cm25 : pj_wM (yX3_init, cX3_init, 1, none, 3) ∈ lw_tbl := List.mem_of_getElem? (i := 111) rfl
set_option maxRecDepth 100000 in
theorem pj_cm26 : pj_wM (yX3_add, cX3_add, 8, (some .int), 3) ∈ lw_tbl := List.mem_of_getElem? (i := 407) rfl
set_option maxRecDepth 100000 in
theorem pj_cm27 : pj_wM (yX3_hasWays, cX3_hasWays, 2, (some .boolean), 3) ∈ lw_tbl := List.mem_of_getElem? (i := 411) rfl
set_option maxRecDepth 100000 in
theorem pj_cm28 : pj_wM (yX3_layWork, cX3_layWork, 5, none, 3) ∈ lw_tbl := List.mem_of_getElem? (i := 415) rfl
set_option maxRecDepth 100000 in
theorem pj_cm29 : pj_wM (yX3_workOn, cX3_workOn, 4, (some .int), 3) ∈ lw_tbl := List.mem_of_getElem? (i := 419) rfl
set_option maxRecDepth 100000 in
theorem pj_cm30 : pj_wM (yX3_weightOf, cX3_weightOf, 5, (some .long), 3) ∈ lw_tbl := List.mem_of_getElem? (i := 611) rfl
set_option maxRecDepth 100000 in
theorem pj_cm31 : pj_wM (yX4_init, cX4_init, 4, none, 4) ∈ lw_tbl := List.mem_of_getElem? (i := 227) rfl
set_option maxRecDepth 100000 in
theorem pj_cm32 : pj_wM (yX4_prepare, cX4_prepare, 4, none, 4) ∈ lw_tbl := List.mem_of_getElem? (i := 504) rfl
set_option maxRecDepth 100000 in
theorem pj_cm33 : pj_wM (yX4_needsOf, cX4_needsOf, 6, (some .int), 4) ∈ lw_tbl := List.mem_of_getElem? (i := 511) rfl
set_option maxRecDepth 100000 in
theorem pj_cm34 : pj_wM (yX4_readBy, cX4_readBy, 3, (some .int), 4) ∈ lw_tbl := List.mem_of_getElem? (i := 515) rfl
set_option maxRecDepth 100000 in
theorem pj_cm35 : pj_wM (yX4_takeStory, cX4_takeStory, 5, none, 4) ∈ lw_tbl := List.mem_of_getElem? (i := 549) rfl
set_option maxRecDepth 100000 in
theorem pj_cm36 : pj_wM (yX4_takeSound, cX4_takeSound, 3, none, 4) ∈ lw_tbl := List.mem_of_getElem? (i := 634) rfl
set_option maxRecDepth 100000 in
theorem pj_cm37 : pj_wM (yX4_search, cX4_search, 5, (some .boolean), 4) ∈ lw_tbl := List.mem_of_getElem? (i := 554) rfl
set_option maxRecDepth 100000 in
theorem pj_cm38 : pj_wM (yX4_goesWell, cX4_goesWell, 6, (some .boolean), 4) ∈ lw_tbl := List.mem_of_getElem? (i := 558) rfl
set_option maxRecDepth 100000 in
theorem pj_cm39 : pj_wM (yX4_enterTick, cX4_enterTick, 9, none, 4) ∈ lw_tbl := List.mem_of_getElem? (i := 562) rfl
set_option maxRecDepth 100000 in
theorem pj_cm40 : pj_wM (yX4_gather, cX4_gather, 3, none, 4) ∈ lw_tbl := List.mem_of_getElem? (i := 586) rfl
set_option maxRecDepth 100000 in
theorem pj_cm41 : pj_wM (yX5_init, cX5_init, 1, none, 5) ∈ lw_tbl := List.mem_of_getElem? (i := 73) rfl
set_option maxRecDepth 100000 in
theorem pj_cm42 : pj_wM (yX5_add, cX5_add, 3, (some .int), 5) ∈ lw_tbl := List.mem_of_getElem? (i := 395) rfl
set_option maxRecDepth 100000 in
theorem pj_cm43 : pj_wM (yX5_keepTicks, cX5_keepTicks, 3, none, 5) ∈ lw_tbl := List.mem_of_getElem? (i := 448) rfl
set_option maxRecDepth 100000 in
theorem pj_cm44 : pj_wM (yX6_init, cX6_init, 1, none, 6) ∈ lw_tbl := List.mem_of_getElem? (i := 65) rfl
set_option maxRecDepth 100000 in
theorem pj_cm45 : pj_wM (yX6_wire, cX6_wire, 2, (some .int), 6) ∈ lw_tbl := List.mem_of_getElem? (i := 383) rfl
set_option maxRecDepth 100000 in
theorem pj_cm46 : pj_wM (yX6_part, cX6_part, 11, (some .int), 6) ∈ lw_tbl := List.mem_of_getElem? (i := 399) rfl
set_option maxRecDepth 100000 in
theorem pj_cm47 : pj_wM (yX6_table, cX6_table, 5, (some .int), 6) ∈ lw_tbl := List.mem_of_getElem? (i := 423) rfl
set_option maxRecDepth 100000 in
theorem pj_cm48 : pj_wM (yX6_ways, cX6_ways, 4, (some .int), 6) ∈ lw_tbl := List.mem_of_getElem? (i := 431) rfl
set_option maxRecDepth 100000 in
theorem pj_cm49 : pj_wM (yX6_odds, cX6_odds, 4, (some .int), 6) ∈ lw_tbl := List.mem_of_getElem? (i := 436) rfl
set_option maxRecDepth 100000 in
theorem pj_cm50 : pj_wM (yX6_price, cX6_price, 4, (some .int), 6) ∈ lw_tbl := List.mem_of_getElem? (i := 440) rfl
set_option maxRecDepth 100000 in
theorem pj_cm51 : pj_wM (yX6_ticks, cX6_ticks, 3, (some .int), 6) ∈ lw_tbl := List.mem_of_getElem? (i := 444) rfl
set_option maxRecDepth 100000 in
theorem pj_cm52 : pj_wM (yX6_set, cX6_set, 6, (some .int), 6) ∈ lw_tbl := List.mem_of_getElem? (i := 456) rfl
set_option maxRecDepth 100000 in
theorem pj_cm53 : pj_wM (yX6_sound, cX6_sound, 5, (some .int), 6) ∈ lw_tbl := List.mem_of_getElem? (i := 464) rfl
set_option maxRecDepth 100000 in
theorem pj_cm54 : pj_wM (yX6_look, cX6_look, 3, (some .int), 6) ∈ lw_tbl := List.mem_of_getElem? (i := 468) rfl
set_option maxRecDepth 100000 in
theorem pj_cm55 : pj_wM (yX6_count, cX6_count, 3, (some .int), 6) ∈ lw_tbl := List.mem_of_getElem? (i := 472) rfl
set_option maxRecDepth 100000 in
theorem pj_cm56 : pj_wM (yX6_see, cX6_see, 5, (some .int), 6) ∈ lw_tbl := List.mem_of_getElem? (i := 476) rfl
set_option maxRecDepth 100000 in
theorem pj_cm57 : pj_wM (yX6_unsee, cX6_unsee, 1, (some .int), 6) ∈ lw_tbl := List.mem_of_getElem? (i := 484) rfl
set_option maxRecDepth 100000 in
theorem pj_cm58 : pj_wM (yX6_due, cX6_due, 3, (some .int), 6) ∈ lw_tbl := List.mem_of_getElem? (i := 492) rfl
set_option maxRecDepth 100000 in
theorem pj_cm59 : pj_wM (yX6_stories, cX6_stories, 1, (some .int), 6) ∈ lw_tbl := List.mem_of_getElem? (i := 532) rfl
set_option maxRecDepth 100000 in
theorem pj_cm60 : pj_wM (yX6_story, cX6_story, 2, (some .int), 6) ∈ lw_tbl := List.mem_of_getElem? (i := 591) rfl
set_option maxRecDepth 100000 in
theorem pj_cm61 : pj_wM (yX6_agrees, cX6_agrees, 2, (some .int), 6) ∈ lw_tbl := List.mem_of_getElem? (i := 595) rfl
set_option maxRecDepth 100000 in
theorem pj_cm62 : pj_wM (yX6_weigh, cX6_weigh, 2, (some .long), 6) ∈ lw_tbl := List.mem_of_getElem? (i := 607) rfl
set_option maxRecDepth 100000 in
theorem pj_cm63 : pj_wM (yX6_likely, cX6_likely, 8, (some .int), 6) ∈ lw_tbl := List.mem_of_getElem? (i := 615) rfl
set_option maxRecDepth 100000 in
theorem pj_cm64 : pj_wM (yX6_chance, cX6_chance, 11, (some .long), 6) ∈ lw_tbl := List.mem_of_getElem? (i := 619) rfl
set_option maxRecDepth 100000 in
theorem pj_cm65 : pj_wM (yX6_quarrels, cX6_quarrels, 1, (some .int), 6) ∈ lw_tbl := List.mem_of_getElem? (i := 626) rfl
set_option maxRecDepth 100000 in
theorem pj_cm66 : pj_wM (yX6_quarrel, cX6_quarrel, 2, (some .int), 6) ∈ lw_tbl := List.mem_of_getElem? (i := 638) rfl
set_option maxRecDepth 100000 in
theorem pj_cm67 : pj_wM (yX6_judge, cX6_judge, 3, (some .int), 6) ∈ lw_tbl := List.mem_of_getElem? (i := 642) rfl
set_option maxRecDepth 100000 in
theorem pj_cm68 : pj_wM (yX6_values, cX6_values, 4, (some .int), 6) ∈ lw_tbl := List.mem_of_getElem? (i := 650) rfl
set_option maxRecDepth 100000 in
theorem pj_cm69 : pj_wM (yX6_worth, cX6_worth, 3, (some .int), 6) ∈ lw_tbl := List.mem_of_getElem? (i := 660) rfl
set_option maxRecDepth 100000 in
theorem pj_cm70 : pj_wM (yX6_next, cX6_next, 7, (some .int), 6) ∈ lw_tbl := List.mem_of_getElem? (i := 668) rfl
set_option maxRecDepth 100000 in
theorem pj_cm71 : pj_wM (yX6_apart, cX6_apart, 8, (some .int), 6) ∈ lw_tbl := List.mem_of_getElem? (i := 680) rfl
set_option maxRecDepth 100000 in
theorem pj_cm72 : pj_wM (yX6_lay, cX6_lay, 2, (some .int), 6) ∈ lw_tbl := List.mem_of_getElem? (i := 684) rfl
set_option maxRecDepth 100000 in
theorem pj_cm73 : pj_wM (yX6_tear, cX6_tear, 2, (some .int), 6) ∈ lw_tbl := List.mem_of_getElem? (i := 689) rfl
set_option maxRecDepth 100000 in
theorem pj_cm74 : pj_wM (yX6_row, cX6_row, 2, (some .int), 6) ∈ lw_tbl := List.mem_of_getElem? (i := 693) rfl
set_option maxRecDepth 100000 in
theorem pj_cm75 : pj_wM (yX6_copy, cX6_copy, 4, (some .int), 6) ∈ lw_tbl := List.mem_of_getElem? (i := 697) rfl
set_option maxRecDepth 100000 in
theorem pj_cm76 : pj_wM (yX6_status, cX6_status, 2, (some .int), 6) ∈ lw_tbl := List.mem_of_getElem? (i := 701) rfl
set_option maxRecDepth 100000 in
theorem pj_cm77 : pj_wM (yX6_refuse, cX6_refuse, 2, (some .int), 6) ∈ lw_tbl := List.mem_of_getElem? (i := 387) rfl
set_option maxRecDepth 100000 in
theorem pj_cm78 : pj_wM (yX6_isWire, cX6_isWire, 2, (some .boolean), 6) ∈ lw_tbl := List.mem_of_getElem? (i := 403) rfl
set_option maxRecDepth 100000 in
theorem pj_cm79 : pj_wM (yX6_isPart, cX6_isPart, 2, (some .boolean), 6) ∈ lw_tbl := List.mem_of_getElem? (i := 427) rfl
set_option maxRecDepth 100000 in
theorem pj_cm80 : pj_wM (yX6_isTick, cX6_isTick, 2, (some .boolean), 6) ∈ lw_tbl := List.mem_of_getElem? (i := 460) rfl
set_option maxRecDepth 100000 in
theorem pj_cm81 : pj_wM (yX6_areParts, cX6_areParts, 2, (some .boolean), 6) ∈ lw_tbl := List.mem_of_getElem? (i := 599) rfl
set_option maxRecDepth 100000 in
theorem pj_cm82 : pj_wM (yX6_isMetered, cX6_isMetered, 3, (some .boolean), 6) ∈ lw_tbl := List.mem_of_getElem? (i := 672) rfl
set_option maxRecDepth 100000 in
theorem pj_cm83 : pj_wM (yX6_commonDivisor, cX6_commonDivisor, 11, (some .long), 6) ∈ lw_tbl := List.mem_of_getElem? (i := 622) rfl
set_option maxRecDepth 100000 in
theorem pj_cm84 : pj_wM (yX7_init, cX7_init, 1, none, 7) ∈ lw_tbl := List.mem_of_getElem? (i := 706) rfl
set_option maxRecDepth 100000 in
theorem pj_cm85 : pj_wM (yX7_isIn, cX7_isIn, 6, (some .boolean), 7) ∈ lw_tbl := List.mem_of_getElem? (i := 838) rfl
set_option maxRecDepth 100000 in
theorem pj_cm86 : pj_wM (yX7_no, cX7_no, 2, (some .int), 7) ∈ lw_tbl := List.mem_of_getElem? (i := 842) rfl
set_option maxRecDepth 100000 in
theorem pj_cm87 : pj_wM (yX7_isWire, cX7_isWire, 2, (some .boolean), 7) ∈ lw_tbl := List.mem_of_getElem? (i := 850) rfl
set_option maxRecDepth 100000 in
theorem pj_cm88 : pj_wM (yX7_isPart, cX7_isPart, 2, (some .boolean), 7) ∈ lw_tbl := List.mem_of_getElem? (i := 859) rfl
set_option maxRecDepth 100000 in
theorem pj_cm89 : pj_wM (yX7_isTick, cX7_isTick, 2, (some .boolean), 7) ∈ lw_tbl := List.mem_of_getElem? (i := 886) rfl
set_option maxRecDepth 100000 in
theorem pj_cm90 : pj_wM (yX7_wire, cX7_wire, 2, (some .int), 7) ∈ lw_tbl := List.mem_of_getElem? (i := 833) rfl
set_option maxRecDepth 100000 in
theorem pj_cm91 : pj_wM (yX7_part, cX7_part, 9, (some .int), 7) ∈ lw_tbl := List.mem_of_getElem? (i := 846) rfl
set_option maxRecDepth 100000 in
theorem pj_cm92 : pj_wM (yX7_table, cX7_table, 5, (some .int), 7) ∈ lw_tbl := List.mem_of_getElem? (i := 855) rfl
set_option maxRecDepth 100000 in
theorem pj_cm93 : pj_wM (yX7_ways, cX7_ways, 4, (some .int), 7) ∈ lw_tbl := List.mem_of_getElem? (i := 864) rfl
set_option maxRecDepth 100000 in
theorem pj_cm94 : pj_wM (yX7_odds, cX7_odds, 4, (some .int), 7) ∈ lw_tbl := List.mem_of_getElem? (i := 869) rfl
set_option maxRecDepth 100000 in
theorem pj_cm95 : pj_wM (yX7_price, cX7_price, 4, (some .int), 7) ∈ lw_tbl := List.mem_of_getElem? (i := 874) rfl
set_option maxRecDepth 100000 in
theorem pj_cm96 : pj_wM (yX7_ticks, cX7_ticks, 5, (some .int), 7) ∈ lw_tbl := List.mem_of_getElem? (i := 878) rfl
set_option maxRecDepth 100000 in
theorem pj_cm97 : pj_wM (yX7_set, cX7_set, 5, (some .int), 7) ∈ lw_tbl := List.mem_of_getElem? (i := 882) rfl
set_option maxRecDepth 100000 in
theorem pj_cm98 : pj_wM (yX7_sound, cX7_sound, 4, (some .int), 7) ∈ lw_tbl := List.mem_of_getElem? (i := 890) rfl
set_option maxRecDepth 100000 in
theorem pj_cm99 : pj_wM (yX7_look, cX7_look, 3, (some .int), 7) ∈ lw_tbl := List.mem_of_getElem? (i := 894) rfl
set_option maxRecDepth 100000 in
theorem pj_cm100 : pj_wM (yX7_count, cX7_count, 3, (some .int), 7) ∈ lw_tbl := List.mem_of_getElem? (i := 898) rfl
set_option maxRecDepth 100000 in
theorem pj_cm101 : pj_wM (yX7_hasLook, cX7_hasLook, 5, (some .boolean), 7) ∈ lw_tbl := List.mem_of_getElem? (i := 906) rfl
set_option maxRecDepth 100000 in
theorem pj_cm102 : pj_wM (yX7_see, cX7_see, 4, (some .int), 7) ∈ lw_tbl := List.mem_of_getElem? (i := 902) rfl
set_option maxRecDepth 100000 in
theorem pj_cm103 : pj_wM (yX7_unsee, cX7_unsee, 1, (some .int), 7) ∈ lw_tbl := List.mem_of_getElem? (i := 910) rfl
set_option maxRecDepth 100000 in
theorem pj_cm104 : pj_wM (yX7_works, cX7_works, 5, (some .int), 7) ∈ lw_tbl := List.mem_of_getElem? (i := 934) rfl
set_option maxRecDepth 100000 in
theorem pj_cm105 : pj_wM (yX7_should, cX7_should, 5, (some .int), 7) ∈ lw_tbl := List.mem_of_getElem? (i := 930) rfl
set_option maxRecDepth 100000 in
theorem pj_cm106 : pj_wM (yX7_gives, cX7_gives, 5, (some .int), 7) ∈ lw_tbl := List.mem_of_getElem? (i := 926) rfl
set_option maxRecDepth 100000 in
theorem pj_cm107 : pj_wM (yX7_evaluate, cX7_evaluate, 5, none, 7) ∈ lw_tbl := List.mem_of_getElem? (i := 922) rfl
set_option maxRecDepth 100000 in
theorem pj_cm108 : pj_wM (yX7_isSeen, cX7_isSeen, 6, (some .boolean), 7) ∈ lw_tbl := List.mem_of_getElem? (i := 977) rfl
set_option maxRecDepth 100000 in
theorem pj_cm109 : pj_wM (yX7_stateNow, cX7_stateNow, 3, (some .int), 7) ∈ lw_tbl := List.mem_of_getElem? (i := 938) rfl
set_option maxRecDepth 100000 in
theorem pj_cm110 : pj_wM (yX7_turns, cX7_turns, 2, (some .boolean), 7) ∈ lw_tbl := List.mem_of_getElem? (i := 981) rfl
set_option maxRecDepth 100000 in
theorem pj_cm111 : pj_wM (yX7_tries, cX7_tries, 7, none, 7) ∈ lw_tbl := List.mem_of_getElem? (i := 973) rfl
set_option maxRecDepth 100000 in
theorem pj_cm112 : pj_wM (yX7_canBe, cX7_canBe, 3, (some .boolean), 7) ∈ lw_tbl := List.mem_of_getElem? (i := 969) rfl
set_option maxRecDepth 100000 in
theorem pj_cm113 : pj_wM (yX7_collects, cX7_collects, 3, none, 7) ∈ lw_tbl := List.mem_of_getElem? (i := 989) rfl
set_option maxRecDepth 100000 in
theorem pj_cm114 : pj_wM (yX7_due, cX7_due, 3, (some .int), 7) ∈ lw_tbl := List.mem_of_getElem? (i := 914) rfl
set_option maxRecDepth 100000 in
theorem pj_cm115 : pj_wM (yX7_dueAll, cX7_dueAll, 4, none, 7) ∈ lw_tbl := List.mem_of_getElem? (i := 918) rfl
set_option maxRecDepth 100000 in
theorem pj_cm116 : pj_wM (yX7_beginsWith, cX7_beginsWith, 3, none, 7) ∈ lw_tbl := List.mem_of_getElem? (i := 965) rfl
set_option maxRecDepth 100000 in
theorem pj_cm117 : pj_wM (yX7_turnsWays, cX7_turnsWays, 2, (some .boolean), 7) ∈ lw_tbl := List.mem_of_getElem? (i := 985) rfl
set_option maxRecDepth 100000 in
theorem pj_cm118 : pj_wM (yX7_agreesWith, cX7_agreesWith, 3, (some .boolean), 7) ∈ lw_tbl := List.mem_of_getElem? (i := 961) rfl
set_option maxRecDepth 100000 in
theorem pj_cm119 : pj_wM (yX7_many, cX7_many, 3, (some .int), 7) ∈ lw_tbl := List.mem_of_getElem? (i := 953) rfl
set_option maxRecDepth 100000 in
theorem pj_cm120 : pj_wM (yX7_mayBreak, cX7_mayBreak, 2, (some .boolean), 7) ∈ lw_tbl := List.mem_of_getElem? (i := 950) rfl
set_option maxRecDepth 100000 in
theorem pj_cm121 : pj_wM (yX7_find, cX7_find, 5, none, 7) ∈ lw_tbl := List.mem_of_getElem? (i := 946) rfl
set_option maxRecDepth 100000 in
theorem pj_cm122 : pj_wM (yX7_hasStory, cX7_hasStory, 4, (some .boolean), 7) ∈ lw_tbl := List.mem_of_getElem? (i := 957) rfl
set_option maxRecDepth 100000 in
theorem pj_cm123 : pj_wM (yX7_stories, cX7_stories, 1, (some .int), 7) ∈ lw_tbl := List.mem_of_getElem? (i := 942) rfl
set_option maxRecDepth 100000 in
theorem pj_cm124 : pj_wM (yX7_story, cX7_story, 2, (some .int), 7) ∈ lw_tbl := List.mem_of_getElem? (i := 993) rfl
set_option maxRecDepth 100000 in
theorem pj_cm125 : pj_wM (yX7_isSet, cX7_isSet, 2, (some .boolean), 7) ∈ lw_tbl := List.mem_of_getElem? (i := 1001) rfl
set_option maxRecDepth 100000 in
theorem pj_cm126 : pj_wM (yX7_hasMeter, cX7_hasMeter, 4, (some .boolean), 7) ∈ lw_tbl := List.mem_of_getElem? (i := 1009) rfl
set_option maxRecDepth 100000 in
theorem pj_cm127 : pj_wM (yX7_agrees, cX7_agrees, 3, (some .int), 7) ∈ lw_tbl := List.mem_of_getElem? (i := 997) rfl
set_option maxRecDepth 100000 in
theorem pj_cm128 : pj_wM (yX7_weightOf, cX7_weightOf, 5, (some .long), 7) ∈ lw_tbl := List.mem_of_getElem? (i := 1013) rfl
set_option maxRecDepth 100000 in
theorem pj_cm129 : pj_wM (yX7_weigh, cX7_weigh, 4, (some .long), 7) ∈ lw_tbl := List.mem_of_getElem? (i := 1005) rfl
set_option maxRecDepth 100000 in
theorem pj_cm130 : pj_wM (yX7_likely, cX7_likely, 3, (some .int), 7) ∈ lw_tbl := List.mem_of_getElem? (i := 1017) rfl
set_option maxRecDepth 100000 in
theorem pj_cm131 : pj_wM (yX7_chance, cX7_chance, 14, (some .long), 7) ∈ lw_tbl := List.mem_of_getElem? (i := 1021) rfl
set_option maxRecDepth 100000 in
theorem pj_cm132 : pj_wM (yX7_isQuarrel, cX7_isQuarrel, 3, (some .boolean), 7) ∈ lw_tbl := List.mem_of_getElem? (i := 1037) rfl
set_option maxRecDepth 100000 in
theorem pj_cm133 : pj_wM (yX7_judged, cX7_judged, 3, (some .int), 7) ∈ lw_tbl := List.mem_of_getElem? (i := 1033) rfl
set_option maxRecDepth 100000 in
theorem pj_cm134 : pj_wM (yX7_quarrelAt, cX7_quarrelAt, 3, (some .int), 7) ∈ lw_tbl := List.mem_of_getElem? (i := 1029) rfl
set_option maxRecDepth 100000 in
theorem pj_cm135 : pj_wM (yX7_quarrels, cX7_quarrels, 2, (some .int), 7) ∈ lw_tbl := List.mem_of_getElem? (i := 1025) rfl
set_option maxRecDepth 100000 in
theorem pj_cm136 : pj_wM (yX7_quarrel, cX7_quarrel, 3, (some .int), 7) ∈ lw_tbl := List.mem_of_getElem? (i := 1041) rfl
set_option maxRecDepth 100000 in
theorem pj_cm137 : pj_wM (yX7_judge, cX7_judge, 2, (some .int), 7) ∈ lw_tbl := List.mem_of_getElem? (i := 1045) rfl
set_option maxRecDepth 100000 in
theorem pj_cm138 : pj_wM (yX7_values, cX7_values, 4, (some .int), 7) ∈ lw_tbl := List.mem_of_getElem? (i := 1049) rfl
set_option maxRecDepth 100000 in
theorem pj_cm139 : pj_wM (yX7_worthOf, cX7_worthOf, 7, (some .int), 7) ∈ lw_tbl := List.mem_of_getElem? (i := 1057) rfl
set_option maxRecDepth 100000 in
theorem pj_cm140 : pj_wM (yX7_worth, cX7_worth, 3, (some .int), 7) ∈ lw_tbl := List.mem_of_getElem? (i := 1053) rfl
set_option maxRecDepth 100000 in
theorem pj_cm141 : pj_wM (yX7_tells, cX7_tells, 5, (some .boolean), 7) ∈ lw_tbl := List.mem_of_getElem? (i := 1065) rfl
set_option maxRecDepth 100000 in
theorem pj_cm142 : pj_wM (yX7_isMeter, cX7_isMeter, 2, (some .boolean), 7) ∈ lw_tbl := List.mem_of_getElem? (i := 1069) rfl
set_option maxRecDepth 100000 in
theorem pj_cm143 : pj_wM (yX7_next, cX7_next, 6, (some .int), 7) ∈ lw_tbl := List.mem_of_getElem? (i := 1061) rfl
set_option maxRecDepth 100000 in
theorem pj_cm144 : pj_wM (yX7_apart, cX7_apart, 6, (some .int), 7) ∈ lw_tbl := List.mem_of_getElem? (i := 1073) rfl
set_option maxRecDepth 100000 in
theorem pj_cm145 : pj_wM (yX7_lay, cX7_lay, 3, (some .int), 7) ∈ lw_tbl := List.mem_of_getElem? (i := 1077) rfl
set_option maxRecDepth 100000 in
theorem pj_cm146 : pj_wM (yX7_tear, cX7_tear, 2, (some .int), 7) ∈ lw_tbl := List.mem_of_getElem? (i := 1081) rfl
set_option maxRecDepth 100000 in
theorem pj_cm147 : pj_wM (yX7_row, cX7_row, 2, (some .int), 7) ∈ lw_tbl := List.mem_of_getElem? (i := 1085) rfl
set_option maxRecDepth 100000 in
theorem pj_cm148 : pj_wM (yX7_copy, cX7_copy, 5, (some .int), 7) ∈ lw_tbl := List.mem_of_getElem? (i := 1089) rfl
set_option maxRecDepth 100000 in
theorem pj_cm149 : pj_wM (yX7_status, cX7_status, 2, (some .int), 7) ∈ lw_tbl := List.mem_of_getElem? (i := 1093) rfl
set_option maxRecDepth 100000 in
theorem pj_cm150 : pj_wM (yJ6_bitCount_0f7a4, cJ6_bitCount_0f7a4, 1, (some .int), 9) ∈ lw_tbl := List.mem_of_getElem? (i := 539) rfl
set_option maxRecDepth 100000 in
theorem pj_cm151 : pj_wM (yJ7_fill_53178, cJ7_fill_53178, 4, none, 11) ∈ lw_tbl := List.mem_of_getElem? (i := 200) rfl
theorem pj_cmo : Cond.code objectInit ⟨#[0xb1]⟩ 1 none ∈ lw_tbl := List.mem_of_getElem? (i := 68) (by decide +kernel)
def pj_mc0 : List pj_Me := [(yX0_init, cX0_init, 4, none, 0), (yX0_forget, cX0_forget, 1, none, 0), (yX0_prepare, cX0_prepare, 1, none, 0), (yX0_numbersDue, cX0_numbersDue, 2, (some (.array .int)), 0), (yX0_doesAgree, cX0_doesAgree, 2, (some .boolean), 0), (yX0_canBe, cX0_canBe, 2, (some .boolean), 0), (yX0_findStories, cX0_findStories, 6, (some .int), 0), (yX0_findQuarrels, cX0_findQuarrels, 6, (some .int), 0), (yX0_holdsOne, cX0_holdsOne, 4, (some .boolean), 0), (yX0_learn, cX0_learn, 4, none, 0), (yX0_worthOf, cX0_worthOf, 6, (some .int), 0), (yX0_tells, cX0_tells, 3, (some .boolean), 0), (yX1_init, cX1_init, 1, none, 1), (yX1_add, cX1_add, 3, none, 1), (yX1_dropLatest, cX1_dropLatest, 1, none, 1), (yX1_keepTicks, cX1_keepTicks, 4, none, 1)]
theorem pj_mcm0 : ∀ q ∈ pj_mc0, pj_wM q ∈ lw_tbl := List.forall_mem_cons.mpr ⟨pj_cm0, List.forall_mem_cons.mpr ⟨pj_cm1, List.forall_mem_cons.mpr ⟨pj_cm2, List.forall_mem_cons.mpr ⟨pj_cm3, List.forall_mem_cons.mpr ⟨pj_cm4, List.forall_mem_cons.mpr ⟨pj_cm5, List.forall_mem_cons.mpr ⟨pj_cm6, List.forall_mem_cons.mpr ⟨pj_cm7, List.forall_mem_cons.mpr ⟨pj_cm8, List.forall_mem_cons.mpr ⟨pj_cm9, List.forall_mem_cons.mpr ⟨pj_cm10, List.forall_mem_cons.mpr ⟨pj_cm11, List.forall_mem_cons.mpr ⟨pj_cm12, List.forall_mem_cons.mpr ⟨pj_cm13, List.forall_mem_cons.mpr ⟨pj_cm14, List.forall_mem_cons.mpr ⟨pj_cm15, fun _ h => absurd h List.not_mem_nil⟩⟩⟩⟩⟩⟩⟩⟩⟩⟩⟩⟩⟩⟩⟩⟩
def pj_mc1 : List pj_Me := [(yX2_init, cX2_init, 4, none, 2), (yX2_enter, cX2_enter, 6, none, 2), (yX2_numbersOwed, cX2_numbersOwed, 2, (some .int), 2), (yX2_reachedFrom, cX2_reachedFrom, 3, (some .int), 2), (yX2_walk, cX2_walk, 10, (some .boolean), 2), (yX2_arrive, cX2_arrive, 4, (some .boolean), 2), (yX2_gives, cX2_gives, 5, (some .int), 2), (yX2_makes, cX2_makes, 5, (some .int), 2), (yX2_runSound, cX2_runSound, 5, none, 2), (yX3_init, cX3_init, 1, none, 3), (yX3_add, cX3_add, 8, (some .int), 3), (yX3_hasWays, cX3_hasWays, 2, (some .boolean), 3), (yX3_layWork, cX3_layWork, 5, none, 3), (yX3_workOn, cX3_workOn, 4, (some .int), 3), (yX3_weightOf, cX3_weightOf, 5, (some .long), 3), (yX4_init, cX4_init, 4, none, 4)]
theorem pj_mcm1 : ∀ q ∈ pj_mc1, pj_wM q ∈ lw_tbl := List.forall_mem_cons.mpr ⟨pj_cm16, List.forall_mem_cons.mpr ⟨pj_cm17, List.forall_mem_cons.mpr ⟨pj_cm18, List.forall_mem_cons.mpr ⟨pj_cm19, List.forall_mem_cons.mpr ⟨pj_cm20, List.forall_mem_cons.mpr ⟨pj_cm21, List.forall_mem_cons.mpr ⟨pj_cm22, List.forall_mem_cons.mpr ⟨pj_cm23, List.forall_mem_cons.mpr ⟨pj_cm24, List.forall_mem_cons.mpr ⟨pj_cm25, List.forall_mem_cons.mpr ⟨pj_cm26, List.forall_mem_cons.mpr ⟨pj_cm27, List.forall_mem_cons.mpr ⟨pj_cm28, List.forall_mem_cons.mpr ⟨pj_cm29, List.forall_mem_cons.mpr ⟨pj_cm30, List.forall_mem_cons.mpr ⟨pj_cm31, fun _ h => absurd h List.not_mem_nil⟩⟩⟩⟩⟩⟩⟩⟩⟩⟩⟩⟩⟩⟩⟩⟩
def pj_mc2 : List pj_Me := [(yX4_prepare, cX4_prepare, 4, none, 4), (yX4_needsOf, cX4_needsOf, 6, (some .int), 4), (yX4_readBy, cX4_readBy, 3, (some .int), 4), (yX4_takeStory, cX4_takeStory, 5, none, 4), (yX4_takeSound, cX4_takeSound, 3, none, 4), (yX4_search, cX4_search, 5, (some .boolean), 4), (yX4_goesWell, cX4_goesWell, 6, (some .boolean), 4), (yX4_enterTick, cX4_enterTick, 9, none, 4), (yX4_gather, cX4_gather, 3, none, 4), (yX5_init, cX5_init, 1, none, 5), (yX5_add, cX5_add, 3, (some .int), 5), (yX5_keepTicks, cX5_keepTicks, 3, none, 5), (yX6_init, cX6_init, 1, none, 6), (yX6_wire, cX6_wire, 2, (some .int), 6), (yX6_part, cX6_part, 11, (some .int), 6), (yX6_table, cX6_table, 5, (some .int), 6)]
theorem pj_mcm2 : ∀ q ∈ pj_mc2, pj_wM q ∈ lw_tbl := List.forall_mem_cons.mpr ⟨pj_cm32, List.forall_mem_cons.mpr ⟨pj_cm33, List.forall_mem_cons.mpr ⟨pj_cm34, List.forall_mem_cons.mpr ⟨pj_cm35, List.forall_mem_cons.mpr ⟨pj_cm36, List.forall_mem_cons.mpr ⟨pj_cm37, List.forall_mem_cons.mpr ⟨pj_cm38, List.forall_mem_cons.mpr ⟨pj_cm39, List.forall_mem_cons.mpr ⟨pj_cm40, List.forall_mem_cons.mpr ⟨pj_cm41, List.forall_mem_cons.mpr ⟨pj_cm42, List.forall_mem_cons.mpr ⟨pj_cm43, List.forall_mem_cons.mpr ⟨pj_cm44, List.forall_mem_cons.mpr ⟨pj_cm45, List.forall_mem_cons.mpr ⟨pj_cm46, List.forall_mem_cons.mpr ⟨pj_cm47, fun _ h => absurd h List.not_mem_nil⟩⟩⟩⟩⟩⟩⟩⟩⟩⟩⟩⟩⟩⟩⟩⟩
def pj_mc3 : List pj_Me := [(yX6_ways, cX6_ways, 4, (some .int), 6), (yX6_odds, cX6_odds, 4, (some .int), 6), (yX6_price, cX6_price, 4, (some .int), 6), (yX6_ticks, cX6_ticks, 3, (some .int), 6), (yX6_set, cX6_set, 6, (some .int), 6), (yX6_sound, cX6_sound, 5, (some .int), 6), (yX6_look, cX6_look, 3, (some .int), 6), (yX6_count, cX6_count, 3, (some .int), 6), (yX6_see, cX6_see, 5, (some .int), 6), (yX6_unsee, cX6_unsee, 1, (some .int), 6), (yX6_due, cX6_due, 3, (some .int), 6), (yX6_stories, cX6_stories, 1, (some .int), 6), (yX6_story, cX6_story, 2, (some .int), 6), (yX6_agrees, cX6_agrees, 2, (some .int), 6), (yX6_weigh, cX6_weigh, 2, (some .long), 6), (yX6_likely, cX6_likely, 8, (some .int), 6)]
theorem pj_mcm3 : ∀ q ∈ pj_mc3, pj_wM q ∈ lw_tbl := List.forall_mem_cons.mpr ⟨pj_cm48, List.forall_mem_cons.mpr ⟨pj_cm49, List.forall_mem_cons.mpr ⟨pj_cm50, List.forall_mem_cons.mpr ⟨pj_cm51, List.forall_mem_cons.mpr ⟨pj_cm52, List.forall_mem_cons.mpr ⟨pj_cm53, List.forall_mem_cons.mpr ⟨pj_cm54, List.forall_mem_cons.mpr ⟨pj_cm55, List.forall_mem_cons.mpr ⟨pj_cm56, List.forall_mem_cons.mpr ⟨pj_cm57, List.forall_mem_cons.mpr ⟨pj_cm58, List.forall_mem_cons.mpr ⟨pj_cm59, List.forall_mem_cons.mpr ⟨pj_cm60, List.forall_mem_cons.mpr ⟨pj_cm61, List.forall_mem_cons.mpr ⟨pj_cm62, List.forall_mem_cons.mpr ⟨pj_cm63, fun _ h => absurd h List.not_mem_nil⟩⟩⟩⟩⟩⟩⟩⟩⟩⟩⟩⟩⟩⟩⟩⟩
def pj_mc4 : List pj_Me := [(yX6_chance, cX6_chance, 11, (some .long), 6), (yX6_quarrels, cX6_quarrels, 1, (some .int), 6), (yX6_quarrel, cX6_quarrel, 2, (some .int), 6), (yX6_judge, cX6_judge, 3, (some .int), 6), (yX6_values, cX6_values, 4, (some .int), 6), (yX6_worth, cX6_worth, 3, (some .int), 6), (yX6_next, cX6_next, 7, (some .int), 6), (yX6_apart, cX6_apart, 8, (some .int), 6), (yX6_lay, cX6_lay, 2, (some .int), 6), (yX6_tear, cX6_tear, 2, (some .int), 6), (yX6_row, cX6_row, 2, (some .int), 6), (yX6_copy, cX6_copy, 4, (some .int), 6), (yX6_status, cX6_status, 2, (some .int), 6), (yX6_refuse, cX6_refuse, 2, (some .int), 6), (yX6_isWire, cX6_isWire, 2, (some .boolean), 6), (yX6_isPart, cX6_isPart, 2, (some .boolean), 6)]
theorem pj_mcm4 : ∀ q ∈ pj_mc4, pj_wM q ∈ lw_tbl := List.forall_mem_cons.mpr ⟨pj_cm64, List.forall_mem_cons.mpr ⟨pj_cm65, List.forall_mem_cons.mpr ⟨pj_cm66, List.forall_mem_cons.mpr ⟨pj_cm67, List.forall_mem_cons.mpr ⟨pj_cm68, List.forall_mem_cons.mpr ⟨pj_cm69, List.forall_mem_cons.mpr ⟨pj_cm70, List.forall_mem_cons.mpr ⟨pj_cm71, List.forall_mem_cons.mpr ⟨pj_cm72, List.forall_mem_cons.mpr ⟨pj_cm73, List.forall_mem_cons.mpr ⟨pj_cm74, List.forall_mem_cons.mpr ⟨pj_cm75, List.forall_mem_cons.mpr ⟨pj_cm76, List.forall_mem_cons.mpr ⟨pj_cm77, List.forall_mem_cons.mpr ⟨pj_cm78, List.forall_mem_cons.mpr ⟨pj_cm79, fun _ h => absurd h List.not_mem_nil⟩⟩⟩⟩⟩⟩⟩⟩⟩⟩⟩⟩⟩⟩⟩⟩
def pj_mc5 : List pj_Me := [(yX6_isTick, cX6_isTick, 2, (some .boolean), 6), (yX6_areParts, cX6_areParts, 2, (some .boolean), 6), (yX6_isMetered, cX6_isMetered, 3, (some .boolean), 6), (yX6_commonDivisor, cX6_commonDivisor, 11, (some .long), 6), (yX7_init, cX7_init, 1, none, 7), (yX7_isIn, cX7_isIn, 6, (some .boolean), 7), (yX7_no, cX7_no, 2, (some .int), 7), (yX7_isWire, cX7_isWire, 2, (some .boolean), 7), (yX7_isPart, cX7_isPart, 2, (some .boolean), 7), (yX7_isTick, cX7_isTick, 2, (some .boolean), 7), (yX7_wire, cX7_wire, 2, (some .int), 7), (yX7_part, cX7_part, 9, (some .int), 7), (yX7_table, cX7_table, 5, (some .int), 7), (yX7_ways, cX7_ways, 4, (some .int), 7), (yX7_odds, cX7_odds, 4, (some .int), 7), (yX7_price, cX7_price, 4, (some .int), 7)]
theorem pj_mcm5 : ∀ q ∈ pj_mc5, pj_wM q ∈ lw_tbl := List.forall_mem_cons.mpr ⟨pj_cm80, List.forall_mem_cons.mpr ⟨pj_cm81, List.forall_mem_cons.mpr ⟨pj_cm82, List.forall_mem_cons.mpr ⟨pj_cm83, List.forall_mem_cons.mpr ⟨pj_cm84, List.forall_mem_cons.mpr ⟨pj_cm85, List.forall_mem_cons.mpr ⟨pj_cm86, List.forall_mem_cons.mpr ⟨pj_cm87, List.forall_mem_cons.mpr ⟨pj_cm88, List.forall_mem_cons.mpr ⟨pj_cm89, List.forall_mem_cons.mpr ⟨pj_cm90, List.forall_mem_cons.mpr ⟨pj_cm91, List.forall_mem_cons.mpr ⟨pj_cm92, List.forall_mem_cons.mpr ⟨pj_cm93, List.forall_mem_cons.mpr ⟨pj_cm94, List.forall_mem_cons.mpr ⟨pj_cm95, fun _ h => absurd h List.not_mem_nil⟩⟩⟩⟩⟩⟩⟩⟩⟩⟩⟩⟩⟩⟩⟩⟩
def pj_mc6 : List pj_Me := [(yX7_ticks, cX7_ticks, 5, (some .int), 7), (yX7_set, cX7_set, 5, (some .int), 7), (yX7_sound, cX7_sound, 4, (some .int), 7), (yX7_look, cX7_look, 3, (some .int), 7), (yX7_count, cX7_count, 3, (some .int), 7), (yX7_hasLook, cX7_hasLook, 5, (some .boolean), 7), (yX7_see, cX7_see, 4, (some .int), 7), (yX7_unsee, cX7_unsee, 1, (some .int), 7), (yX7_works, cX7_works, 5, (some .int), 7), (yX7_should, cX7_should, 5, (some .int), 7), (yX7_gives, cX7_gives, 5, (some .int), 7), (yX7_evaluate, cX7_evaluate, 5, none, 7), (yX7_isSeen, cX7_isSeen, 6, (some .boolean), 7), (yX7_stateNow, cX7_stateNow, 3, (some .int), 7), (yX7_turns, cX7_turns, 2, (some .boolean), 7), (yX7_tries, cX7_tries, 7, none, 7)]
theorem pj_mcm6 : ∀ q ∈ pj_mc6, pj_wM q ∈ lw_tbl := List.forall_mem_cons.mpr ⟨pj_cm96, List.forall_mem_cons.mpr ⟨pj_cm97, List.forall_mem_cons.mpr ⟨pj_cm98, List.forall_mem_cons.mpr ⟨pj_cm99, List.forall_mem_cons.mpr ⟨pj_cm100, List.forall_mem_cons.mpr ⟨pj_cm101, List.forall_mem_cons.mpr ⟨pj_cm102, List.forall_mem_cons.mpr ⟨pj_cm103, List.forall_mem_cons.mpr ⟨pj_cm104, List.forall_mem_cons.mpr ⟨pj_cm105, List.forall_mem_cons.mpr ⟨pj_cm106, List.forall_mem_cons.mpr ⟨pj_cm107, List.forall_mem_cons.mpr ⟨pj_cm108, List.forall_mem_cons.mpr ⟨pj_cm109, List.forall_mem_cons.mpr ⟨pj_cm110, List.forall_mem_cons.mpr ⟨pj_cm111, fun _ h => absurd h List.not_mem_nil⟩⟩⟩⟩⟩⟩⟩⟩⟩⟩⟩⟩⟩⟩⟩⟩
def pj_mc7 : List pj_Me := [(yX7_canBe, cX7_canBe, 3, (some .boolean), 7), (yX7_collects, cX7_collects, 3, none, 7), (yX7_due, cX7_due, 3, (some .int), 7), (yX7_dueAll, cX7_dueAll, 4, none, 7), (yX7_beginsWith, cX7_beginsWith, 3, none, 7), (yX7_turnsWays, cX7_turnsWays, 2, (some .boolean), 7), (yX7_agreesWith, cX7_agreesWith, 3, (some .boolean), 7), (yX7_many, cX7_many, 3, (some .int), 7), (yX7_mayBreak, cX7_mayBreak, 2, (some .boolean), 7), (yX7_find, cX7_find, 5, none, 7), (yX7_hasStory, cX7_hasStory, 4, (some .boolean), 7), (yX7_stories, cX7_stories, 1, (some .int), 7), (yX7_story, cX7_story, 2, (some .int), 7), (yX7_isSet, cX7_isSet, 2, (some .boolean), 7), (yX7_hasMeter, cX7_hasMeter, 4, (some .boolean), 7), (yX7_agrees, cX7_agrees, 3, (some .int), 7)]
theorem pj_mcm7 : ∀ q ∈ pj_mc7, pj_wM q ∈ lw_tbl := List.forall_mem_cons.mpr ⟨pj_cm112, List.forall_mem_cons.mpr ⟨pj_cm113, List.forall_mem_cons.mpr ⟨pj_cm114, List.forall_mem_cons.mpr ⟨pj_cm115, List.forall_mem_cons.mpr ⟨pj_cm116, List.forall_mem_cons.mpr ⟨pj_cm117, List.forall_mem_cons.mpr ⟨pj_cm118, List.forall_mem_cons.mpr ⟨pj_cm119, List.forall_mem_cons.mpr ⟨pj_cm120, List.forall_mem_cons.mpr ⟨pj_cm121, List.forall_mem_cons.mpr ⟨pj_cm122, List.forall_mem_cons.mpr ⟨pj_cm123, List.forall_mem_cons.mpr ⟨pj_cm124, List.forall_mem_cons.mpr ⟨pj_cm125, List.forall_mem_cons.mpr ⟨pj_cm126, List.forall_mem_cons.mpr ⟨pj_cm127, fun _ h => absurd h List.not_mem_nil⟩⟩⟩⟩⟩⟩⟩⟩⟩⟩⟩⟩⟩⟩⟩⟩
def pj_mc8 : List pj_Me := [(yX7_weightOf, cX7_weightOf, 5, (some .long), 7), (yX7_weigh, cX7_weigh, 4, (some .long), 7), (yX7_likely, cX7_likely, 3, (some .int), 7), (yX7_chance, cX7_chance, 14, (some .long), 7), (yX7_isQuarrel, cX7_isQuarrel, 3, (some .boolean), 7), (yX7_judged, cX7_judged, 3, (some .int), 7), (yX7_quarrelAt, cX7_quarrelAt, 3, (some .int), 7), (yX7_quarrels, cX7_quarrels, 2, (some .int), 7), (yX7_quarrel, cX7_quarrel, 3, (some .int), 7), (yX7_judge, cX7_judge, 2, (some .int), 7), (yX7_values, cX7_values, 4, (some .int), 7), (yX7_worthOf, cX7_worthOf, 7, (some .int), 7), (yX7_worth, cX7_worth, 3, (some .int), 7), (yX7_tells, cX7_tells, 5, (some .boolean), 7), (yX7_isMeter, cX7_isMeter, 2, (some .boolean), 7), (yX7_next, cX7_next, 6, (some .int), 7)]
theorem pj_mcm8 : ∀ q ∈ pj_mc8, pj_wM q ∈ lw_tbl := List.forall_mem_cons.mpr ⟨pj_cm128, List.forall_mem_cons.mpr ⟨pj_cm129, List.forall_mem_cons.mpr ⟨pj_cm130, List.forall_mem_cons.mpr ⟨pj_cm131, List.forall_mem_cons.mpr ⟨pj_cm132, List.forall_mem_cons.mpr ⟨pj_cm133, List.forall_mem_cons.mpr ⟨pj_cm134, List.forall_mem_cons.mpr ⟨pj_cm135, List.forall_mem_cons.mpr ⟨pj_cm136, List.forall_mem_cons.mpr ⟨pj_cm137, List.forall_mem_cons.mpr ⟨pj_cm138, List.forall_mem_cons.mpr ⟨pj_cm139, List.forall_mem_cons.mpr ⟨pj_cm140, List.forall_mem_cons.mpr ⟨pj_cm141, List.forall_mem_cons.mpr ⟨pj_cm142, List.forall_mem_cons.mpr ⟨pj_cm143, fun _ h => absurd h List.not_mem_nil⟩⟩⟩⟩⟩⟩⟩⟩⟩⟩⟩⟩⟩⟩⟩⟩
def pj_mc9 : List pj_Me := [(yX7_apart, cX7_apart, 6, (some .int), 7), (yX7_lay, cX7_lay, 3, (some .int), 7), (yX7_tear, cX7_tear, 2, (some .int), 7), (yX7_row, cX7_row, 2, (some .int), 7), (yX7_copy, cX7_copy, 5, (some .int), 7), (yX7_status, cX7_status, 2, (some .int), 7), (yJ6_bitCount_0f7a4, cJ6_bitCount_0f7a4, 1, (some .int), 9), (yJ7_fill_53178, cJ7_fill_53178, 4, none, 11)]
theorem pj_mcm9 : ∀ q ∈ pj_mc9, pj_wM q ∈ lw_tbl := List.forall_mem_cons.mpr ⟨pj_cm144, List.forall_mem_cons.mpr ⟨pj_cm145, List.forall_mem_cons.mpr ⟨pj_cm146, List.forall_mem_cons.mpr ⟨pj_cm147, List.forall_mem_cons.mpr ⟨pj_cm148, List.forall_mem_cons.mpr ⟨pj_cm149, List.forall_mem_cons.mpr ⟨pj_cm150, List.forall_mem_cons.mpr ⟨pj_cm151, fun _ h => absurd h List.not_mem_nil⟩⟩⟩⟩⟩⟩⟩⟩
set_option maxRecDepth 100000 in
theorem pj_mc_eq : pj_ms.take 152 = pj_mc0 ++ (pj_mc1 ++ (pj_mc2 ++ (pj_mc3 ++ (pj_mc4 ++ (pj_mc5 ++ (pj_mc6 ++ (pj_mc7 ++ (pj_mc8 ++ (pj_mc9))))))))) := rfl
theorem pj_mcm : ∀ q ∈ pj_ms.take 152, pj_wM q ∈ lw_tbl := by
  rw [pj_mc_eq]
  exact List.forall_mem_append.mpr ⟨pj_mcm0, List.forall_mem_append.mpr ⟨pj_mcm1, List.forall_mem_append.mpr ⟨pj_mcm2, List.forall_mem_append.mpr ⟨pj_mcm3, List.forall_mem_append.mpr ⟨pj_mcm4, List.forall_mem_append.mpr ⟨pj_mcm5, List.forall_mem_append.mpr ⟨pj_mcm6, List.forall_mem_append.mpr ⟨pj_mcm7, List.forall_mem_append.mpr ⟨pj_mcm8, pj_mcm9⟩⟩⟩⟩⟩⟩⟩⟩⟩
theorem pj_U5_in : GoodIn lw_tbl pj_U5 := by
  intro w hw
  rcases List.mem_cons.mp hw with rfl | h
  · exact ⟨pj_cmo, Or.inl rfl⟩
  · obtain ⟨q, hq, rfl⟩ := List.mem_map.mp h
    exact ⟨pj_mcm q hq, Or.inl rfl⟩
/-- the words that the whole program needs -/
def pj_U : List Cond := pj_U0 ++ (pj_U1 ++ (pj_U2 ++ (pj_U3 ++ (pj_U4 ++ (pj_U5 ++ (pj_U6 ++ (pj_U7 ++ (pj_U8 ++ pj_U9))))))))
theorem pj_U_good : GoodIn lw_tbl pj_U := pj_ga pj_U0_in (pj_ga pj_U1_in (pj_ga pj_U2_in (pj_ga pj_U3_in (pj_ga pj_U4_in (pj_ga pj_U5_in (pj_ga pj_U6_in (pj_ga pj_U7_in (pj_ga pj_U8_in pj_U9_in))))))))
abbrev pj_nm : Nat := 152
def pj_nest : List Cond := (pj_ctab.filter (fun q => q.2.2.1 == 3)).map (fun q => Cond.methodLinkNest (pj_Rn q.1) q.2.1 (pj_y q.2.2.2.1) pj_host)
theorem pj_nest_eq : pj_nest = [71, 109].filterMap (fun i => lw_tbl[i]?) := by decide +kernel
theorem pj_nest_in : ∀ w ∈ pj_nest, w ∈ lw_tbl := by
  intro w hw
  rw [pj_nest_eq] at hw
  obtain ⟨i, -, hi⟩ := List.mem_filterMap.mp hw
  exact List.mem_of_getElem? hi
theorem pj_nest_on : ∀ w ∈ pj_nest, w.onTables = true := by
  intro w hw
  obtain ⟨q, -, rfl⟩ := List.mem_map.mp hw
  rfl
