section
set_option maxRecDepth 100000 in
theorem lwi_wsL_law_r1 : GoodIn lw_tbl wsL_law_r1 := goodIn_r _ [75, 76, 58, 926, 927, 62, 77, 78, 79, 80, 81, 82, 83, 84, 59, 173, 155, 156, 60, 174, 86, 87, 88, 153] rfl (by decide +kernel)
set_option maxRecDepth 100000 in
theorem lwi_wsL_law_r2 : GoodIn lw_tbl wsL_law_r2 := goodIn_r _ [110, 115, 120, 154, 123, 128, 157, 158, 159, 160, 166, 161, 162, 61, 163, 928, 929, 930, 931, 935, 936, 937, 938, 939] rfl (by decide +kernel)
set_option maxRecDepth 100000 in
theorem lwi_wsL_law_r3 : GoodIn lw_tbl wsL_law_r3 := goodIn_r _ [932, 941, 1045, 942, 943, 944, 945, 946, 947, 948, 949, 950, 951, 955, 958, 959, 961, 962, 331, 963, 964, 965, 966, 967] rfl (by decide +kernel)
set_option maxRecDepth 100000 in
theorem lwi_wsL_law_r4 : GoodIn lw_tbl wsL_law_r4 := goodIn_r _ [198, 199, 200, 201, 202, 203, 204, 205, 109, 90, 1046, 1047, 1048, 1049, 933, 1050, 1052, 37, 1053, 940, 960, 206, 207, 208] rfl (by decide +kernel)
set_option maxRecDepth 100000 in
theorem lwi_wsL_law_r5 : GoodIn lw_tbl wsL_law_r5 := goodIn_r _ [209, 210, 211, 212, 213, 214, 215, 216, 217, 95, 102, 218, 220, 0, 221, 1054, 1055, 1056, 1057, 934, 1058, 1060, 38, 1061] rfl (by decide +kernel)
set_option maxRecDepth 100000 in
theorem lwi_wsL_law_r6 : GoodIn lw_tbl wsL_law_r6 := goodIn_r _ [222, 223, 224, 225, 226, 227, 228, 229, 230, 231, 232, 233, 234, 1062, 1063, 1064, 1065, 235, 236, 237, 238, 239, 240, 241] rfl (by decide +kernel)
set_option maxRecDepth 100000 in
theorem lwi_wsL_law_r7 : GoodIn lw_tbl wsL_law_r7 := goodIn_r _ [242, 243, 244, 245, 246, 164, 1066, 1067, 1068, 1069, 247, 248, 249, 250, 251, 252, 253, 254, 256, 1, 257, 175, 258, 259] rfl (by decide +kernel)
set_option maxRecDepth 100000 in
theorem lwi_wsL_law_r8 : GoodIn lw_tbl wsL_law_r8 := goodIn_r _ [63, 260, 261, 262, 263, 264, 265, 64, 333, 335, 336, 337, 338, 332, 267, 268, 269, 270, 271, 65, 310, 314, 316, 318] rfl (by decide +kernel)
set_option maxRecDepth 100000 in
theorem lwi_wsL_law_r9 : GoodIn lw_tbl wsL_law_r9 := goodIn_r _ [319, 273, 274, 275, 276, 277, 278, 282, 286, 352, 353, 354, 355, 356, 357, 358, 359, 360, 361, 362, 363, 290, 291, 364] rfl (by decide +kernel)
set_option maxRecDepth 100000 in
theorem lwi_wsL_law_r10 : GoodIn lw_tbl wsL_law_r10 := goodIn_r _ [366, 2, 367, 369, 370, 372, 373, 374, 376, 3, 377, 378, 379, 380, 381, 382, 384, 385, 386, 387, 66, 388, 389, 390] rfl (by decide +kernel)
set_option maxRecDepth 100000 in
theorem lwi_wsL_law_r11 : GoodIn lw_tbl wsL_law_r11 := goodIn_r _ [391, 392, 394, 4, 395, 396, 398, 5, 399, 400, 401, 402, 403, 404, 406, 6, 407, 408, 410, 7, 411, 412, 413, 414] rfl (by decide +kernel)
set_option maxRecDepth 100000 in
theorem lwi_wsL_law_r12 : GoodIn lw_tbl wsL_law_r12 := goodIn_r _ [415, 416, 417, 418, 419, 420, 421, 422, 423, 425, 426, 427, 428, 429, 430, 432, 433, 434, 435, 436, 437, 438, 439, 441] rfl (by decide +kernel)
set_option maxRecDepth 100000 in
theorem lwi_wsL_law_r13 : GoodIn lw_tbl wsL_law_r13 := goodIn_r _ [8, 442, 444, 446, 9, 447, 448, 449, 451, 10, 452, 454, 455, 67, 456, 457, 458, 459, 460, 461, 462, 463, 464, 465] rfl (by decide +kernel)
set_option maxRecDepth 100000 in
theorem lwi_wsL_law_r14 : GoodIn lw_tbl wsL_law_r14 := goodIn_r _ [466, 467, 468, 469, 470, 471, 68, 472, 473, 474, 475, 1070, 1071, 1072, 1073, 1074, 1075, 1076, 1077, 1079, 39, 1080, 1081, 1083] rfl (by decide +kernel)
set_option maxRecDepth 100000 in
theorem lwi_wsL_law_r15 : GoodIn lw_tbl wsL_law_r15 := goodIn_r _ [40, 1084, 1093, 1085, 1087, 41, 1088, 1089, 1091, 42, 1092, 1094, 1096, 43, 1097, 1098, 1100, 44, 1101, 1102, 1103, 1104, 1105, 1107] rfl (by decide +kernel)
set_option maxRecDepth 100000 in
theorem lwi_wsL_law_r16 : GoodIn lw_tbl wsL_law_r16 := goodIn_r _ [45, 1108, 952, 953, 954, 1109, 1111, 46, 1112, 1113, 1115, 47, 1116, 1117, 1119, 48, 1120, 956, 1121, 1122, 1123, 1124, 1126, 49] rfl (by decide +kernel)
set_option maxRecDepth 100000 in
theorem lwi_wsL_law_r17 : GoodIn lw_tbl wsL_law_r17 := goodIn_r _ [1127, 957, 1128, 1130, 50, 1131, 1132, 476, 477, 478, 479, 480, 481, 482, 483, 1133, 1134, 1135, 1136, 485, 486, 487, 488, 489] rfl (by decide +kernel)
set_option maxRecDepth 100000 in
theorem lwi_wsL_law_r18 : GoodIn lw_tbl wsL_law_r18 := goodIn_r _ [490, 491, 492, 1137, 1138, 1139, 1140, 493, 494, 495, 496, 497, 499, 11, 500, 176, 501, 502, 69, 503, 504, 505, 506, 507] rfl (by decide +kernel)
set_option maxRecDepth 100000 in
theorem lwi_wsL_law_r19 : GoodIn lw_tbl wsL_law_r19 := goodIn_r _ [508, 70, 530, 532, 534, 540, 529, 510, 511, 512, 513, 558, 559, 560, 561, 536, 562, 564, 12, 565, 582, 535, 578, 538] rfl (by decide +kernel)
set_option maxRecDepth 100000 in
theorem lwi_wsL_law_r20 : GoodIn lw_tbl wsL_law_r20 := goodIn_r _ [566, 568, 13, 569, 571, 573, 14, 574, 575, 579, 580, 581, 583, 585, 15, 586, 587, 588, 589, 590, 591, 514, 516, 518] rfl (by decide +kernel)
set_option maxRecDepth 100000 in
theorem lwi_wsL_law_r21 : GoodIn lw_tbl wsL_law_r21 := goodIn_r _ [593, 595, 16, 596, 597, 598, 599, 600, 601, 603, 17, 604, 605, 606, 607, 608, 1141, 1142, 1143, 1144, 609, 610, 611, 612] rfl (by decide +kernel)
set_option maxRecDepth 100000 in
theorem lwi_wsL_law_r22 : GoodIn lw_tbl wsL_law_r22 := goodIn_r _ [613, 614, 615, 616, 1145, 1146, 1147, 1148, 617, 618, 619, 620, 1149, 1150, 1151, 1152, 621, 622, 623, 624, 625, 626, 628, 18] rfl (by decide +kernel)
set_option maxRecDepth 100000 in
theorem lwi_wsL_law_r23 : GoodIn lw_tbl wsL_law_r23 := goodIn_r _ [629, 177, 630, 631, 71, 632, 633, 634, 635, 637, 638, 639, 640, 636, 652, 653, 654, 655, 656, 658, 19, 659, 660, 662] rfl (by decide +kernel)
set_option maxRecDepth 100000 in
theorem lwi_wsL_law_r24 : GoodIn lw_tbl wsL_law_r24 := goodIn_r _ [664, 20, 665, 667, 668, 670, 21, 671, 673, 674, 675, 676, 1153, 1154, 1155, 1156, 1157, 677, 678, 679, 680, 1158, 1159, 1160] rfl (by decide +kernel)
set_option maxRecDepth 100000 in
theorem lwi_wsL_law_r25 : GoodIn lw_tbl wsL_law_r25 := goodIn_r _ [1161, 681, 682, 683, 684, 685, 686, 687, 688, 1162, 1163, 1164, 1165, 689, 690, 691, 692, 693, 695, 22, 696, 178, 697, 698] rfl (by decide +kernel)
set_option maxRecDepth 100000 in
theorem lwi_wsL_law_r26 : GoodIn lw_tbl wsL_law_r26 := goodIn_r _ [72, 699, 700, 701, 702, 704, 707, 703, 717, 718, 719, 720, 724, 705, 721, 722, 723, 725, 727, 23, 728, 739, 740, 741] rfl (by decide +kernel)
set_option maxRecDepth 100000 in
theorem lwi_wsL_law_r27 : GoodIn lw_tbl wsL_law_r27 := goodIn_r _ [729, 731, 24, 732, 734, 735, 736, 737, 738, 742, 743, 744, 1166, 1167, 1168, 1169, 745, 746, 747, 748, 749, 750, 751, 752] rfl (by decide +kernel)
set_option maxRecDepth 100000 in
theorem lwi_wsL_law_r28 : GoodIn lw_tbl wsL_law_r28 := goodIn_r _ [1170, 1171, 1172, 1173, 753, 754, 755, 756, 757, 758, 760, 25, 761, 179, 762, 763, 73, 764, 765, 766, 767, 768, 771, 772] rfl (by decide +kernel)
set_option maxRecDepth 100000 in
theorem lwi_wsL_law_r29 : GoodIn lw_tbl wsL_law_r29 := goodIn_r _ [778, 770, 794, 795, 796, 797, 775, 777, 798, 799, 800, 801, 773, 802, 804, 26, 805, 810, 806, 808, 811, 813, 27, 814] rfl (by decide +kernel)
set_option maxRecDepth 100000 in
theorem lwi_wsL_law_r30 : GoodIn lw_tbl wsL_law_r30 := goodIn_r _ [815, 817, 28, 818, 819, 821, 29, 822, 823, 824, 825, 826, 1174, 1175, 1176, 1177, 827, 828, 829, 830, 1178, 1179, 1180, 1181] rfl (by decide +kernel)
set_option maxRecDepth 100000 in
theorem lwi_wsL_law_r31 : GoodIn lw_tbl wsL_law_r31 := goodIn_r _ [831, 832, 833, 834, 835, 836, 837, 838, 1182, 1183, 1184, 1185, 840, 841, 842, 843, 844, 846, 30, 847, 180, 848, 849, 74] rfl (by decide +kernel)
set_option maxRecDepth 100000 in
theorem lwi_wsL_law_r32 : GoodIn lw_tbl wsL_law_r32 := goodIn_r _ [850, 851, 852, 853, 856, 857, 858, 859, 864, 865, 854, 855, 887, 888, 889, 890, 860, 862, 891, 893, 31, 894, 898, 895] rfl (by decide +kernel)
set_option maxRecDepth 100000 in
theorem lwi_wsL_law_r33 : GoodIn lw_tbl wsL_law_r33 := goodIn_r _ [899, 901, 32, 902, 904, 906, 33, 907, 908, 910, 34, 911, 912, 914, 916, 35, 917, 918, 920, 36, 921, 1186, 1187, 1188] rfl (by decide +kernel)
set_option maxRecDepth 100000 in
theorem lwi_wsL_law_r34 : GoodIn lw_tbl wsL_law_r34 := goodIn_r _ [1189, 968, 1190, 1192, 51, 1193, 969, 1194, 1196, 52, 1197, 1198, 1200, 53, 1201, 1202, 1204, 54, 1205, 1206, 1208, 55, 1209, 1210] rfl (by decide +kernel)
set_option maxRecDepth 100000 in
theorem lwi_wsL_law_r35 : GoodIn lw_tbl wsL_law_r35 := goodIn_r _ [1212, 56, 1213, 922, 923, 924, 925, 1214, 1215, 1216, 1217] rfl (by decide +kernel)
set_option maxRecDepth 100000 in
theorem lwi_wsX110 : GoodIn lw_tbl wsX110 := goodIn_r _ [181, 183, 185, 187, 189, 191, 193, 195] rfl (by decide +kernel)
set_option maxRecDepth 100000 in
theorem lwi_wsX120 : GoodIn lw_tbl wsX120 := goodIn_r _ [970, 972, 974, 976, 978, 980, 982, 984, 986, 988, 990, 992, 994, 996, 998, 1000, 1002, 1004, 1006, 1008, 1010, 1012, 1014, 1016, 1018, 1020, 1022, 1024, 1026, 1028, 1030, 1032, 1034, 1036, 1038, 1040, 1042] rfl (by decide +kernel)
set_option maxRecDepth 100000 in
theorem lwi_wsX20 : GoodIn lw_tbl wsX20 := goodIn_r _ [134, 136, 138, 140, 142, 144, 146, 148, 150] rfl (by decide +kernel)
set_option maxRecDepth 100000 in
theorem lwi_wsX60 : GoodIn lw_tbl wsX60 := goodIn_r _ [168, 170] rfl (by decide +kernel)
set_option maxRecDepth 100000 in
theorem lwi_wsX100 : GoodIn lw_tbl wsX100 := goodIn_r _ [339, 341, 343, 345, 347, 349] rfl (by decide +kernel)
set_option maxRecDepth 100000 in
theorem lwi_wsX00 : GoodIn lw_tbl wsX00 := goodIn_r _ [320, 322, 324, 326, 328] rfl (by decide +kernel)
set_option maxRecDepth 100000 in
theorem lwi_wsX70 : GoodIn lw_tbl wsX70 := goodIn_r _ [295, 297, 299, 301, 303, 305, 307] rfl (by decide +kernel)
set_option maxRecDepth 100000 in
theorem lwi_wsX80 : GoodIn lw_tbl wsX80 := goodIn_r _ [541, 543, 545, 547, 549, 551, 553, 555] rfl (by decide +kernel)
set_option maxRecDepth 100000 in
theorem lwi_wsX50 : GoodIn lw_tbl wsX50 := goodIn_r _ [520, 522, 524, 526] rfl (by decide +kernel)
set_option maxRecDepth 100000 in
theorem lwi_wsX10 : GoodIn lw_tbl wsX10 := goodIn_r _ [641, 643, 645, 647, 649] rfl (by decide +kernel)
set_option maxRecDepth 100000 in
theorem lwi_wsX30 : GoodIn lw_tbl wsX30 := goodIn_r _ [708, 710, 712, 714] rfl (by decide +kernel)
set_option maxRecDepth 100000 in
theorem lwi_wsX40 : GoodIn lw_tbl wsX40 := goodIn_r _ [779, 781, 783, 785, 787, 789, 791] rfl (by decide +kernel)
set_option maxRecDepth 100000 in
theorem lwi_wsX90 : GoodIn lw_tbl wsX90 := goodIn_r _ [866, 868, 870, 872, 874, 876, 878, 880, 882, 884] rfl (by decide +kernel)
theorem wsL_law_good : GoodIn lw_tbl wsL_law := goodIn_app (goodIn_app (goodIn_app (goodIn_app (goodIn_app (goodIn_app (goodIn_app (goodIn_app (goodIn_app (goodIn_app (goodIn_app (goodIn_app (goodIn_app (goodIn_app (goodIn_app lwi_wsL_law_r1 (goodIn_app lwi_wsL_law_r2 (goodIn_app lwi_wsL_law_r3 (goodIn_app lwi_wsL_law_r4 (goodIn_app lwi_wsL_law_r5 (goodIn_app lwi_wsL_law_r6 (goodIn_app lwi_wsL_law_r7 (goodIn_app lwi_wsL_law_r8 (goodIn_app lwi_wsL_law_r9 (goodIn_app lwi_wsL_law_r10 (goodIn_app lwi_wsL_law_r11 (goodIn_app lwi_wsL_law_r12 (goodIn_app lwi_wsL_law_r13 (goodIn_app lwi_wsL_law_r14 (goodIn_app lwi_wsL_law_r15 (goodIn_app lwi_wsL_law_r16 (goodIn_app lwi_wsL_law_r17 (goodIn_app lwi_wsL_law_r18 (goodIn_app lwi_wsL_law_r19 (goodIn_app lwi_wsL_law_r20 (goodIn_app lwi_wsL_law_r21 (goodIn_app lwi_wsL_law_r22 (goodIn_app lwi_wsL_law_r23 (goodIn_app lwi_wsL_law_r24 (goodIn_app lwi_wsL_law_r25 (goodIn_app lwi_wsL_law_r26 (goodIn_app lwi_wsL_law_r27 (goodIn_app lwi_wsL_law_r28 (goodIn_app lwi_wsL_law_r29 (goodIn_app lwi_wsL_law_r30 (goodIn_app lwi_wsL_law_r31 (goodIn_app lwi_wsL_law_r32 (goodIn_app lwi_wsL_law_r33 (goodIn_app lwi_wsL_law_r34 (lwi_wsL_law_r35))))))))))))))))))))))))))))))))))) lwi_wsX110) lwi_wsX120) lwi_wsX20) lwi_wsX60) lwi_wsX100) lwi_wsX00) lwi_wsX70) lwi_wsX80) lwi_wsX50) lwi_wsX10) lwi_wsX30) lwi_wsX40) lwi_wsX90) (fun _ h => absurd h List.not_mem_nil)
theorem wsL_law_in : ∀ w ∈ wsL_law, w ∈ lw_tbl := fun w h => (wsL_law_good w h).1
end
