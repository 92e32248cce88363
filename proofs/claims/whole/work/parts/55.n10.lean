set_option maxRecDepth 20000 in
theorem gX10_divide_X10_compare : GoodIn wsX10_divide (va_wsS RX10 28 yX10_compare wsX10_compare) := goodIn_app (goodIn_of _ (by decide +kernel)) ggX10_divide_X10_compare
set_option maxRecDepth 20000 in
theorem ggX10_divide_X10_below : GoodIn wsX10_divide wsX10_below := goodIn_r _ [12, 13] rfl (by decide +kernel)
set_option maxRecDepth 20000 in
theorem gX10_divide_X10_below : GoodIn wsX10_divide (va_wsS RX10 11 yX10_below wsX10_below) := goodIn_app (goodIn_of _ (by decide +kernel)) ggX10_divide_X10_below
set_option maxRecDepth 20000 in
theorem ggX11_argument_X8_addArgument : GoodIn wsX11_argument wsX8_addArgument := goodIn_r _ [14, 15, 16, 17, 18, 32, 33, 34, 35, 36, 37, 38, 39, 40, 41, 42, 43, 44, 45, 46, 47, 48, 49, 50] rfl (by decide +kernel)
set_option maxRecDepth 20000 in
theorem gX11_argument_X8_addArgument : GoodIn wsX11_argument (wsV RX11 144 RX8 yX8_addArgument wsX8_addArgument) := goodIn_app (goodIn_of _ (by decide +kernel)) ggX11_argument_X8_addArgument
set_option maxRecDepth 20000 in
theorem ggX11_execute_X11_refusalOf : GoodIn wsX11_execute wsX11_refusalOf := goodIn_r _ [14, 4, 15, 16, 17, 18, 19, 5, 20, 21, 22, 23, 24, 25, 26, 27, 28, 29, 30, 31, 32, 33, 34, 35, 36, 37, 38, 39, 40, 41, 42, 43, 44, 45, 46, 47, 48, 49, 50, 51, 52, 53, 54, 55, 56, 57, 58, 59, 60, 61, 62, 63, 64, 65, 66, 67, 68, 69, 70, 71, 72, 73, 74, 75, 76, 77, 78, 79, 80, 81, 82, 83, 84, 1005, 1006, 1007, 1008, 1009, 1010, 1011, 1012, 1013, 1014, 1015, 1016, 1017, 1018, 1019, 1020, 1021, 1022, 1023, 1024, 1025, 1026, 1027, 1028, 1029, 1030, 1031, 1032, 1033, 1034, 1035, 1036, 1050, 1051, 1052, 1053, 1054, 1055, 1056, 1057, 1058, 1059, 1060, 1061, 1062, 1063, 1064, 1065, 1066, 1067, 1068, 1069, 1070, 1071, 1072, 1073, 1074, 1075, 1076, 1077, 1078, 1079, 1080] rfl (by decide +kernel)
set_option maxRecDepth 20000 in
theorem gX11_execute_X11_refusalOf : GoodIn wsX11_execute (wsV RX11 153 RX11 yX11_refusalOf wsX11_refusalOf) := goodIn_app (goodIn_of _ (by decide +kernel)) ggX11_execute_X11_refusalOf
set_option maxRecDepth 20000 in
theorem ggX11_execute_X8_end : GoodIn wsX11_execute wsX8_end := goodIn_r _ [88, 89, 90, 91, 1018, 1019, 1020, 1021, 1022, 1023, 1024, 1025, 1026, 1027, 1028, 1029, 1030, 1031, 1032, 1033, 1034, 1035, 1036] rfl (by decide +kernel)
set_option maxRecDepth 20000 in
theorem gX11_execute_X8_end : GoodIn wsX11_execute (wsV RX11 157 RX8 yX8_end wsX8_end) := goodIn_app (goodIn_of _ (by decide +kernel)) ggX11_execute_X8_end
set_option maxRecDepth 20000 in
theorem ggX11_execute_X7_charge : GoodIn wsX11_execute wsX7_charge := goodIn_r _ [95, 96, 97, 98, 99, 100, 24, 25, 26, 27, 28, 29, 1018, 1019, 1020, 1021, 1022, 1023, 1024, 1025, 1026, 1027, 1028, 1029, 1030, 1031, 1032, 1033, 1034, 1035, 1036, 1050, 1051, 1052, 1053, 1054, 1055, 1056, 1057, 1058, 1059, 1060, 1061, 1062, 1063, 1064, 1065] rfl (by decide +kernel)
set_option maxRecDepth 20000 in
theorem gX11_execute_X7_charge : GoodIn wsX11_execute (wsV RX11 161 RX7 yX7_charge wsX7_charge) := goodIn_app (goodIn_of _ (by decide +kernel)) ggX11_execute_X7_charge
set_option maxRecDepth 20000 in
theorem ggX11_execute_X4_run : GoodIn wsX11_execute wsX4_run := goodIn_r _ [105, 106, 107, 108, 109, 110, 111, 112, 113, 114, 115, 116, 117, 118, 119, 120, 121, 122, 123, 124, 125, 126, 127, 128, 129, 130, 131, 132, 133, 134, 135, 136, 137, 138, 139, 140, 141, 142, 143, 144, 145, 146, 147, 148, 149, 150, 151, 152, 153, 154, 155, 156, 157, 158, 159, 160, 161, 162, 24, 25, 26, 27, 28, 29, 163, 164, 165, 166, 167, 168, 169, 170, 171, 172, 173, 174, 175, 176, 177, 178, 179, 180, 181, 182, 183, 184, 185, 186, 187, 188, 189, 190, 191, 192, 193, 194, 195, 196, 197, 198, 199, 31, 32, 33, 34, 35, 36, 200, 201, 202, 104, 203, 204, 205, 206, 207, 208, 209, 210, 211, 212, 213, 214, 215, 40, 216, 42, 43, 44, 45, 46, 47, 48, 217, 218, 219, 220, 221, 222, 223, 224, 225, 226, 227, 228, 229, 230, 231, 232, 233, 234, 235, 236, 237, 238, 239, 240, 241, 242, 243, 244, 245, 246, 247, 248, 249, 250, 251, 252, 253, 254, 255, 256, 77, 78, 79, 257, 258, 259, 260, 84, 58, 59, 60, 261, 262, 263, 264, 76, 65, 66, 67, 68, 69, 70, 265, 266, 267, 268, 269, 270, 271, 272, 273, 274, 275, 276, 277, 278, 279, 280, 281, 282, 283, 284, 285, 286, 287, 288, 289, 290, 291, 292, 293, 294, 295, 296, 297, 298, 299, 300, 301, 302, 303, 304, 305, 306, 307, 308, 309, 310, 311, 312, 313, 314, 315, 316, 317, 318, 319, 320, 321, 322, 323, 324, 325, 326, 327, 328, 329, 330, 331, 332, 333, 334, 335, 336, 337, 338, 339, 340, 341, 342, 343, 344, 345, 346, 347, 348, 349, 350, 351, 352, 353, 354, 355, 356, 357, 358, 359, 360, 361, 362, 363, 364, 365, 366, 367, 368, 369, 370, 371, 372, 373, 374, 375, 376, 377, 378, 379, 380, 381, 382, 383, 384, 385, 386, 387, 388, 389, 390, 391, 392, 393, 394, 395, 396, 397, 398, 399, 400, 401, 402, 403, 404, 405, 406, 407, 408, 409, 410, 411, 412, 413, 414, 415, 416, 417, 418, 419, 420, 421, 422, 423, 424, 425, 426, 427, 428, 429, 430, 431, 432, 433, 434, 435, 436, 437, 438, 439, 440, 441, 442, 443, 444, 445, 446, 447, 448, 449, 450, 451, 452, 453, 454, 455, 456, 457, 458, 459, 460, 461, 462, 463, 464, 465, 466, 467, 468, 469, 470, 471, 472, 473, 474, 475, 476, 477, 478, 479, 480, 481, 482, 483, 484, 485, 486, 487, 488, 489, 490, 491, 492, 493, 494, 495, 496, 497, 498, 499, 500, 501, 502, 503, 504, 505, 506, 507, 508, 509, 510, 511, 512, 513, 514, 515, 516, 517, 518, 519, 520, 521, 522, 523, 524, 525, 526, 527, 528, 529, 530, 531, 532, 533, 534, 535, 536, 537, 538, 539, 540, 541, 542, 543, 544, 545, 546, 547, 548, 549, 550, 551, 552, 553, 554, 555, 556, 557, 558, 559, 560, 561, 562, 563, 52, 564, 565, 566, 567, 568, 569, 570, 571, 572, 573, 574, 575, 576, 577, 578, 579, 580, 581, 582, 97, 99, 583, 584, 585, 586, 587, 588, 589, 590, 591, 592, 593, 594, 595, 596, 597, 598, 599, 600, 601, 602, 603, 604, 605, 86, 87, 88, 89, 90, 91, 1081, 1082, 1083, 1084, 1085, 1086, 1087, 1088, 1089, 1090, 1091, 1092, 1093, 1094, 1095, 1096, 1097, 1098, 1018, 1019, 1020, 1021, 1022, 1023, 1024, 1025, 1026, 1027, 1028, 1029, 1030, 1031, 1032, 1033, 1034, 1035, 1036, 1099, 1100, 1101, 1102, 1103, 1104, 1105, 1106, 1107, 1108, 1109, 1110, 1111, 1112, 1113, 1114, 1115, 1116, 1050, 1051, 1052, 1053, 1054, 1055, 1056, 1057, 1058, 1059, 1060, 1061, 1062, 1063, 1064, 1065, 1066, 1067, 1068, 1069, 1070, 1071, 1072, 1073, 1074, 1075, 1076, 1077, 1078, 1079, 1080, 1117, 1118, 1119, 1120, 1121, 1122, 1123, 1124, 1125] rfl (by decide +kernel)
set_option maxRecDepth 20000 in
theorem gX11_execute_X4_run : GoodIn wsX11_execute (wsV RX11 165 RX4 yX4_run wsX4_run) := goodIn_app (goodIn_of _ (by decide +kernel)) ggX11_execute_X4_run
set_option maxRecDepth 20000 in
theorem ggX11_execute_X11_takeModule : GoodIn wsX11_execute wsX11_takeModule := goodIn_r _ [609, 610, 19, 611, 4, 612, 613, 614, 615, 616, 617, 618, 619, 85, 86, 87, 52, 88, 89, 90, 91, 620, 621, 622, 40, 623, 232, 231, 624, 625, 626, 627, 628, 69, 225, 47, 629, 630, 631, 632, 633, 634, 635, 636, 637, 638, 639, 640, 641, 642, 643, 644, 645, 646, 647, 648, 649, 650, 651, 652, 653, 654, 655, 656, 657, 658, 659, 660, 661, 662, 663, 664, 665, 666, 667, 668, 669, 670, 671, 672, 673, 674, 675, 676, 677, 282, 678, 679, 680, 681, 682, 683, 684, 685, 686, 687, 688, 689, 70, 690, 691, 692, 693, 694, 695, 696, 697, 698, 699, 700, 701, 702, 48, 703, 704, 705, 706, 707, 708, 709, 710, 711, 712, 713, 714, 715, 716, 717, 718, 719, 720, 721, 722, 226, 723, 724, 725, 726, 727, 728, 729, 730, 731, 732, 733, 734, 735, 341, 342, 343, 277, 278, 279, 280, 281, 736, 737, 738, 739, 740, 741, 742, 743, 744, 65, 66, 67, 68, 745, 273, 274, 275, 276, 746, 747, 748, 749, 13, 750, 751, 30, 31, 32, 26, 33, 34, 35, 36, 752, 753, 754, 755, 756, 757, 758, 759, 760, 761, 46, 42, 43, 44, 45, 762, 38, 39, 41, 763, 764, 765, 766, 84, 58, 59, 60, 76, 77, 78, 79, 767, 62, 63, 64, 768, 769, 770, 771, 272, 772, 773, 774, 775, 776, 777, 778, 266, 267, 268, 269, 270, 271, 779, 780, 781, 782, 783, 784, 125, 785, 786, 787, 788, 789, 790, 791, 792, 793, 794, 795, 796, 797, 798, 799, 800, 801, 802, 803, 804, 805, 806, 807, 808, 809, 810, 811, 812, 813, 814, 124, 126, 815, 816, 817, 818, 819, 820, 821, 822, 823, 824, 214, 215, 216, 825, 222, 223, 224, 826, 240, 241, 242, 243, 228, 229, 230, 827, 828, 829, 258, 259, 260, 830, 262, 263, 264, 831, 832, 833, 834, 835, 836, 837, 838, 839, 840, 841, 842, 388, 389, 390, 843, 844, 845, 846, 847, 848, 849, 850, 851, 852, 853, 854, 855, 856, 857, 858, 859, 860, 861, 862, 863, 864, 81, 82, 83, 865, 866, 867, 868, 869, 870, 871, 872, 873, 874, 875, 876, 877, 878, 879, 880, 881, 882, 883, 884, 885, 886, 887, 888, 889, 890, 891, 892, 893, 894, 895, 896, 897, 898, 899, 900, 901, 902, 903, 904, 905, 906, 907, 908, 909, 910, 911, 912, 913, 914, 915, 916, 917, 918, 919, 920, 921, 922, 923, 924, 925, 926, 927, 928, 929, 930, 931, 932, 933, 934, 935, 936, 937, 938, 939, 940, 941, 942, 943, 944, 945, 946, 947, 948, 949, 950, 951, 952, 953, 954, 955, 956, 957, 958, 959, 960, 961, 962, 963, 964, 965, 966, 967, 968, 969, 970, 971, 972, 973, 974, 975, 976, 977, 978, 979, 980, 981, 982, 983, 984, 985, 986, 987, 988, 989, 990, 991, 992, 993, 994, 995, 996, 997, 998, 556, 557, 558, 28, 559, 1018, 1019, 1020, 1021, 1022, 1023, 1024, 1025, 1026, 1027, 1028, 1029, 1030, 1031, 1032, 1033, 1034, 1035, 1036, 1005, 1006, 1007, 1008, 1009, 1010, 1011, 1012, 1013, 1014, 1015, 1016, 1017, 1050, 1051, 1052, 1053, 1054, 1055, 1056, 1057, 1058, 1059, 1060, 1061, 1062, 1063, 1064, 1065, 1126, 1127, 1128, 1129, 1130, 1131, 1132, 1133, 1134, 1135, 1136, 1137, 1138, 1139, 1140, 1141, 1142, 1143, 1144, 1145, 1146, 1147, 1148, 1149, 1150, 1151, 1152, 1153, 1154, 1155, 1156, 1066, 1067, 1068, 1069, 1070, 1071, 1072, 1073, 1074, 1075, 1076, 1077, 1078, 1079, 1080] rfl (by decide +kernel)
set_option maxRecDepth 20000 in
theorem gX11_execute_X11_takeModule : GoodIn wsX11_execute (wsV RX11 168 RX11 yX11_takeModule wsX11_takeModule) := goodIn_app (goodIn_of _ (by decide +kernel)) ggX11_execute_X11_takeModule
set_option maxRecDepth 20000 in
theorem ggX11_execute_X7_settle : GoodIn wsX11_execute wsX7_settle := goodIn_r _ [1002, 96, 97, 98, 1003, 1004, 100, 24, 25, 26, 27, 28, 29, 1018, 1019, 1020, 1021, 1022, 1023, 1024, 1025, 1026, 1027, 1028, 1029, 1030, 1031, 1032, 1033, 1034, 1035, 1036, 1050, 1051, 1052, 1053, 1054, 1055, 1056, 1057, 1058, 1059, 1060, 1061, 1062, 1063, 1064, 1065] rfl (by decide +kernel)
set_option maxRecDepth 20000 in
theorem gX11_execute_X7_settle : GoodIn wsX11_execute (wsV RX11 171 RX7 yX7_settle wsX7_settle) := goodIn_app (goodIn_of _ (by decide +kernel)) ggX11_execute_X7_settle
set_option maxRecDepth 20000 in
theorem ggX11_refusalOf_X7_findAccount : GoodIn wsX11_refusalOf wsX7_findAccount := goodIn_r _ [15, 16, 17, 105, 106, 107, 108, 109, 110, 111, 112, 113, 114, 115, 116, 117, 118, 119, 120] rfl (by decide +kernel)
set_option maxRecDepth 20000 in
theorem gX11_refusalOf_X7_findAccount : GoodIn wsX11_refusalOf (wsV RX11 93 RX7 yX7_findAccount wsX7_findAccount) := goodIn_app (goodIn_of _ (by decide +kernel)) ggX11_refusalOf_X7_findAccount
set_option maxRecDepth 20000 in
theorem ggX11_refusalOf_X7_findProgram : GoodIn wsX11_refusalOf wsX7_findProgram := goodIn_r _ [21, 22, 23, 24, 105, 106, 107, 108, 109, 110, 111, 112, 113, 114, 115, 116, 117, 118, 119, 120, 121, 122, 123, 124, 125, 126, 127, 128, 129, 130, 131, 132, 133, 134, 135] rfl (by decide +kernel)
set_option maxRecDepth 20000 in
theorem gX11_refusalOf_X7_findProgram : GoodIn wsX11_refusalOf (wsV RX11 188 RX7 yX7_findProgram wsX7_findProgram) := goodIn_app (goodIn_of _ (by decide +kernel)) ggX11_refusalOf_X7_findProgram
set_option maxRecDepth 20000 in
theorem ggX11_refusalOf_X5_flags : GoodIn wsX11_refusalOf wsX5_flags := goodIn_r _ [29, 30, 31, 32, 28, 33, 34, 35, 36, 121, 122, 123, 124, 125, 126, 127, 128, 129, 130, 131, 132, 133, 134, 135] rfl (by decide +kernel)
set_option maxRecDepth 20000 in
theorem gX11_refusalOf_X5_flags : GoodIn wsX11_refusalOf (wsV RX11 195 RX5 yX5_flags wsX5_flags) := goodIn_app (goodIn_of _ (by decide +kernel)) ggX11_refusalOf_X5_flags
set_option maxRecDepth 20000 in
theorem ggX11_refusalOf_X8_fits : GoodIn wsX11_refusalOf wsX8_fits := goodIn_r _ [41, 42, 43, 44, 45, 46, 47, 28, 48, 30, 31, 32, 33, 34, 35, 36, 49, 50, 51, 52, 53, 54, 55, 56, 57, 58, 86, 87, 88, 89, 90, 91, 92, 93, 94, 95, 96, 97, 98, 99, 100, 101, 102, 103, 104, 121, 122, 123, 124, 125, 126, 127, 128, 129, 130, 131, 132, 133, 134, 135] rfl (by decide +kernel)
set_option maxRecDepth 20000 in
theorem gX11_refusalOf_X8_fits : GoodIn wsX11_refusalOf (wsV RX11 199 RX8 yX8_fits wsX8_fits) := goodIn_app (goodIn_of _ (by decide +kernel)) ggX11_refusalOf_X8_fits
set_option maxRecDepth 20000 in
theorem ggX11_refusalOf_X5_givesPlain : GoodIn wsX11_refusalOf wsX5_givesPlain := goodIn_r _ [62, 63, 64, 65, 66, 28, 67, 30, 31, 32, 33, 34, 35, 36, 68, 69, 70, 71, 72, 46, 47, 48, 53, 54, 55, 56, 57, 58, 121, 122, 123, 124, 125, 126, 127, 128, 129, 130, 131, 132, 133, 134, 135] rfl (by decide +kernel)
set_option maxRecDepth 20000 in
theorem gX11_refusalOf_X5_givesPlain : GoodIn wsX11_refusalOf (wsV RX11 203 RX5 yX5_givesPlain wsX5_givesPlain) := goodIn_app (goodIn_of _ (by decide +kernel)) ggX11_refusalOf_X5_givesPlain
set_option maxRecDepth 20000 in
theorem ggX11_takeModule_X8_end : GoodIn wsX11_takeModule wsX8_end := goodIn_r _ [17, 18, 19, 20, 494, 495, 496, 497, 498, 499, 500, 501, 502, 503, 504, 505, 506, 507, 508, 509, 510, 511, 512] rfl (by decide +kernel)
set_option maxRecDepth 20000 in
theorem gX11_takeModule_X8_end : GoodIn wsX11_takeModule (wsV RX11 157 RX8 yX8_end wsX8_end) := goodIn_app (goodIn_of _ (by decide +kernel)) ggX11_takeModule_X8_end
set_option maxRecDepth 20000 in
theorem ggX11_takeModule_X5_lay : GoodIn wsX11_takeModule wsX5_lay := goodIn_r _ [25, 26, 27, 28, 29, 30, 24, 31, 32, 33, 34, 35, 573, 574, 575, 576, 577, 578, 579, 580, 581, 582, 583, 584, 585, 586, 587] rfl (by decide +kernel)
set_option maxRecDepth 20000 in
theorem gX11_takeModule_X5_lay : GoodIn wsX11_takeModule (wsV RX11 69 RX5 yX5_lay wsX5_lay) := goodIn_app (goodIn_of _ (by decide +kernel)) ggX11_takeModule_X5_lay
set_option maxRecDepth 20000 in
theorem ggX11_takeModule_X6_read : GoodIn wsX11_takeModule wsX6_read := goodIn_r _ [40, 41, 42, 43, 44, 45, 46, 47, 48, 49, 50, 51, 29, 30, 24, 31, 32, 33, 34, 35, 52, 53, 54, 39, 55, 56, 57, 58, 59, 60, 61, 62, 63, 64, 65, 66, 67, 68, 69, 70, 71, 72, 73, 74, 75, 76, 77, 78, 79, 80, 81, 82, 83, 84, 85, 86, 87, 88, 89, 90, 91, 92, 93, 94, 95, 96, 97, 98, 99, 100, 101, 102, 103, 104, 105, 106, 107, 108, 109, 110, 111, 112, 113, 114, 115, 116, 117, 118, 119, 120, 121, 122, 123, 124, 125, 126, 127, 128, 129, 130, 131, 132, 133, 134, 135, 136, 137, 138, 139, 140, 141, 142, 143, 144, 145, 146, 147, 148, 149, 150, 151, 152, 153, 154, 155, 156, 157, 158, 159, 160, 161, 162, 163, 164, 165, 166, 167, 168, 169, 170, 171, 172, 173, 542, 543, 544, 545, 546, 547, 548, 549, 550, 573, 574, 575, 576, 577, 578, 579, 580, 581, 582, 583, 584, 585, 586, 587] rfl (by decide +kernel)
set_option maxRecDepth 20000 in
theorem gX11_takeModule_X6_read : GoodIn wsX11_takeModule (wsV RX11 73 RX6 yX6_read wsX6_read) := goodIn_app (goodIn_of _ (by decide +kernel)) ggX11_takeModule_X6_read
set_option maxRecDepth 20000 in
theorem ggX11_takeModule_X11_misfitOf : GoodIn wsX11_takeModule wsX11_misfitOf := goodIn_r _ [178, 10, 179, 4, 180, 181, 182, 183, 184, 185, 186, 187, 188, 189, 190, 24, 191, 192, 154, 150, 151, 152, 153, 85, 193, 194, 195, 196, 197, 35, 198, 199, 200, 201, 202, 112, 203, 204, 205, 206, 207, 208, 209, 210, 211, 212, 213, 214, 215, 216, 217, 218, 219, 220, 221, 222, 164, 165, 166, 167, 33, 98, 223, 224, 225, 226, 227, 169, 170, 171, 172, 228, 229, 230, 231, 232, 147, 148, 149, 233, 161, 162, 163, 234, 235, 236, 237, 238, 239, 240, 241, 242, 243, 244, 245, 246, 247, 248, 249, 82, 83, 84, 250, 251, 252, 253, 254, 255, 256, 257, 258, 259, 260, 261, 494, 495, 496, 497, 498, 499, 500, 501, 502, 503, 504, 505, 506, 507, 508, 509, 510, 511, 512, 573, 574, 575, 576, 577, 578, 579, 580, 581, 582, 583, 584, 585, 586, 587, 513, 514, 515, 516, 517, 518, 519, 520, 521, 522, 523, 524, 525, 526, 527, 528, 529, 530, 531, 532, 533, 534, 535, 536, 537, 538, 539, 540, 541] rfl (by decide +kernel)
set_option maxRecDepth 20000 in
theorem gX11_takeModule_X11_misfitOf : GoodIn wsX11_takeModule (wsV RX11 218 RX11 yX11_misfitOf wsX11_misfitOf) := goodIn_app (goodIn_of _ (by decide +kernel)) ggX11_takeModule_X11_misfitOf
set_option maxRecDepth 20000 in
theorem ggX11_takeModule_X3_look : GoodIn wsX11_takeModule wsX3_look := goodIn_r _ [266, 267, 268, 269, 270, 271, 272, 273, 274, 265, 275, 276, 277, 278, 247, 279, 280, 281, 282, 283, 284, 285, 286, 287, 288, 289, 290, 291, 24, 292, 199, 200, 201, 202, 198, 35, 112, 293, 294, 295, 296, 34, 133, 297, 298, 299, 300, 301, 302, 303, 304, 27, 26, 305, 306, 212, 213, 214, 307, 308, 309, 310, 211, 311, 312, 313, 314, 215, 216, 217, 218, 164, 165, 166, 167, 33, 98, 315, 316, 317, 238, 239, 240, 318, 235, 236, 237, 227, 169, 170, 171, 172, 150, 151, 152, 153, 154, 85, 319, 320, 321, 322, 323, 324, 325, 326, 327, 328, 329, 330, 331, 332, 333, 334, 335, 336, 337, 338, 339, 340, 341, 342, 343, 344, 345, 346, 347, 348, 349, 350, 351, 352, 353, 354, 355, 356, 357, 358, 359, 360, 361, 362, 363, 364, 365, 366, 367, 368, 369, 370, 371, 372, 373, 374, 375, 376, 377, 378, 379, 380, 381, 382, 383, 384, 385, 386, 387, 388, 389, 390, 391, 392, 393, 394, 395, 396, 397, 398, 399, 400, 401, 402, 403, 404, 405, 406, 407, 408, 409, 410, 411, 412, 413, 414, 415, 416, 255, 256, 257, 417, 418, 419, 420, 421, 422, 423, 424, 425, 426, 427, 428, 429, 430, 431, 161, 162, 163, 432, 433, 434, 435, 436, 437, 438, 439, 440, 441, 442, 443, 444, 147, 148, 149, 445, 446, 447, 448, 449, 450, 220, 221, 222, 451, 204, 205, 206, 452, 453, 454, 455, 456, 457, 458, 459, 460, 461, 462, 463, 464, 465, 466, 467, 468, 469, 470, 471, 472, 473, 474, 475, 476, 477, 478, 479, 480, 481, 482, 483, 484, 485, 486, 487, 551, 552, 553, 554, 555, 556, 557, 558, 559, 560, 561, 562, 563, 564, 565, 566, 567, 568, 569, 570, 571, 572, 573, 574, 575, 576, 577, 578, 579, 580, 581, 582, 583, 584, 585, 586, 587] rfl (by decide +kernel)
set_option maxRecDepth 20000 in
theorem gX11_takeModule_X3_look : GoodIn wsX11_takeModule (wsV RX11 222 RX3 yX3_look wsX3_look) := goodIn_app (goodIn_of _ (by decide +kernel)) ggX11_takeModule_X3_look
set_option maxRecDepth 20000 in
theorem ggX11_takeModule_X7_placeCount : GoodIn wsX11_takeModule wsX7_placeCount := goodIn_r _ [491, 492, 185, 493, 526, 527, 528, 529, 530, 531, 532, 533, 534, 535, 536, 537, 538, 539, 540, 541] rfl (by decide +kernel)
set_option maxRecDepth 20000 in
theorem gX11_takeModule_X7_placeCount : GoodIn wsX11_takeModule (wsV RX11 97 RX7 yX7_placeCount wsX7_placeCount) := goodIn_app (goodIn_of _ (by decide +kernel)) ggX11_takeModule_X7_placeCount
set_option maxRecDepth 20000 in
theorem ggX11_misfitOf_X7_findProgram : GoodIn wsX11_misfitOf wsX7_findProgram := goodIn_r _ [8, 9, 10, 11, 161, 162, 163, 164, 165, 166, 167, 168, 169, 170, 171, 172, 173, 174, 175, 176, 133, 134, 135, 136, 137, 138, 139, 140, 141, 142, 143, 144, 145, 146, 147] rfl (by decide +kernel)
set_option maxRecDepth 20000 in
theorem gX11_misfitOf_X7_findProgram : GoodIn wsX11_misfitOf (wsV RX11 188 RX7 yX7_findProgram wsX7_findProgram) := goodIn_app (goodIn_of _ (by decide +kernel)) ggX11_misfitOf_X7_findProgram
set_option maxRecDepth 20000 in
theorem ggX11_misfitOf_X5_strangeStructure : GoodIn wsX11_misfitOf wsX5_strangeStructure := goodIn_r _ [16, 17, 18, 19, 20, 21, 15, 22, 23, 24, 5, 6, 7, 8, 9, 10, 11, 133, 134, 135, 136, 137, 138, 139, 140, 141, 142, 143, 144, 145, 146, 147, 161, 162, 163, 164, 165, 166, 167, 168, 169, 170, 171, 172, 173, 174, 175, 176] rfl (by decide +kernel)
set_option maxRecDepth 20000 in
theorem gX11_misfitOf_X5_strangeStructure : GoodIn wsX11_misfitOf (wsV RX11 229 RX5 yX5_strangeStructure wsX5_strangeStructure) := goodIn_app (goodIn_of _ (by decide +kernel)) ggX11_misfitOf_X5_strangeStructure
set_option maxRecDepth 20000 in
theorem ggX11_misfitOf_X5_strangeFunction : GoodIn wsX11_misfitOf wsX5_strangeFunction := goodIn_r _ [28, 29, 30, 31, 32, 33, 15, 34, 35, 24, 5, 6, 7, 8, 9, 10, 11, 36, 37, 38, 39, 40, 41, 42, 43, 44, 45, 46, 47, 48, 49, 50, 51, 52, 53, 54, 55, 56, 57, 58, 59, 60, 61, 62, 63, 64, 65, 66, 67, 68, 69, 70, 19, 20, 21, 22, 18, 23, 133, 134, 135, 136, 137, 138, 139, 140, 141, 142, 143, 144, 145, 146, 147, 161, 162, 163, 164, 165, 166, 167, 168, 169, 170, 171, 172, 173, 174, 175, 176] rfl (by decide +kernel)
set_option maxRecDepth 20000 in
theorem gX11_misfitOf_X5_strangeFunction : GoodIn wsX11_misfitOf (wsV RX11 233 RX5 yX5_strangeFunction wsX5_strangeFunction) := goodIn_app (goodIn_of _ (by decide +kernel)) ggX11_misfitOf_X5_strangeFunction
set_option maxRecDepth 20000 in
theorem ggX11_misfitOf_X5_weakStructure : GoodIn wsX11_misfitOf wsX5_weakStructure := goodIn_r _ [74, 17, 19, 20, 21, 15, 22, 18, 23, 75, 76, 77, 78, 79, 80, 81, 82, 56, 57, 58, 59, 60, 61, 83, 84, 85, 86, 87, 88, 89, 66, 67, 68, 69, 70, 133, 134, 135, 136, 137, 138, 139, 140, 141, 142, 143, 144, 145, 146, 147] rfl (by decide +kernel)
set_option maxRecDepth 20000 in
theorem gX11_misfitOf_X5_weakStructure : GoodIn wsX11_misfitOf (wsV RX11 236 RX5 yX5_weakStructure wsX5_weakStructure) := goodIn_app (goodIn_of _ (by decide +kernel)) ggX11_misfitOf_X5_weakStructure
set_option maxRecDepth 20000 in
theorem ggX11_misfitOf_X5_measure : GoodIn wsX11_misfitOf wsX5_measure := goodIn_r _ [93, 18, 17, 94, 95, 96, 97, 19, 20, 21, 15, 22, 23, 24, 5, 6, 7, 8, 9, 10, 11, 98, 99, 100, 101, 75, 76, 77, 78, 79, 80, 81, 82, 56, 57, 58, 59, 60, 61, 102, 103, 104, 105, 69, 106, 66, 67, 68, 70, 107, 108, 109, 133, 134, 135, 136, 137, 138, 139, 140, 141, 142, 143, 144, 145, 146, 147, 161, 162, 163, 164, 165, 166, 167, 168, 169, 170, 171, 172, 173, 174, 175, 176] rfl (by decide +kernel)
set_option maxRecDepth 20000 in
theorem gX11_misfitOf_X5_measure : GoodIn wsX11_misfitOf (wsV RX11 77 RX5 yX5_measure wsX5_measure) := goodIn_app (goodIn_of _ (by decide +kernel)) ggX11_misfitOf_X5_measure
set_option maxRecDepth 20000 in
theorem ggX11_misfitOf_X5_deepStructure : GoodIn wsX11_misfitOf wsX5_deepStructure := goodIn_r _ [113, 17, 19, 20, 21, 15, 22, 18, 23, 133, 134, 135, 136, 137, 138, 139, 140, 141, 142, 143, 144, 145, 146, 147] rfl (by decide +kernel)
set_option maxRecDepth 20000 in
theorem gX11_misfitOf_X5_deepStructure : GoodIn wsX11_misfitOf (wsV RX11 239 RX5 yX5_deepStructure wsX5_deepStructure) := goodIn_app (goodIn_of _ (by decide +kernel)) ggX11_misfitOf_X5_deepStructure
set_option maxRecDepth 20000 in
theorem ggX11_resource_X7_writeBytes : GoodIn wsX11_resource wsX7_writeBytes := goodIn_r _ [16, 9, 17, 18, 19, 20, 21, 7, 22, 36, 37, 38, 39, 40, 41, 42, 43, 44, 45, 46, 47, 48, 49, 50, 51] rfl (by decide +kernel)
set_option maxRecDepth 20000 in
theorem gX11_resource_X7_writeBytes : GoodIn wsX11_resource (wsV RX11 281 RX7 yX7_writeBytes wsX7_writeBytes) := goodIn_app (goodIn_of _ (by decide +kernel)) ggX11_resource_X7_writeBytes
set_option maxRecDepth 20000 in
theorem ggX11_root_X9_rebuild : GoodIn wsX11_root wsX9_rebuild := goodIn_r _ [9, 10, 11, 12, 13, 14, 15, 16, 17, 8, 18, 19, 20, 21, 22, 23, 24, 25, 26, 27, 28, 29, 30, 31, 32, 33, 34, 35, 36, 37, 38, 39, 40, 41, 42, 43, 44, 45, 46, 47, 48, 49, 50, 51, 52, 53, 54, 55, 56, 57, 58, 59, 60, 61, 62, 63, 64, 65, 66, 67, 68, 69, 70, 71, 72, 73, 74, 75, 76, 77, 78, 79, 80, 81, 82, 83, 84, 85, 86, 87, 88, 89, 90, 91, 92, 93, 94, 95, 96, 97, 98, 99, 100, 101, 102, 103, 104, 105, 106, 107, 108, 109, 110, 111, 112, 113, 114, 115, 116, 117, 118, 119, 120, 121, 122, 123, 124, 125, 126, 127, 128, 129, 130, 131, 132, 133, 134, 135, 136, 137, 138, 139, 140, 141, 142, 143, 144, 145, 146, 147, 148, 149, 150, 151, 152, 153, 154, 155, 156, 157, 171, 172, 173, 174, 175, 176, 177, 178, 179, 180, 181, 182, 183, 184, 185, 186, 187, 188, 189, 190, 191, 192, 193, 194, 195, 196, 197, 198, 199, 200, 201, 202, 203, 204, 205, 206, 207, 208, 209, 210, 211, 212, 213, 214, 215, 216, 217, 218] rfl (by decide +kernel)
set_option maxRecDepth 20000 in
theorem gX11_root_X9_rebuild : GoodIn wsX11_root (wsV RX11 285 RX9 yX9_rebuild wsX9_rebuild) := goodIn_app (goodIn_of _ (by decide +kernel)) ggX11_root_X9_rebuild
set_option maxRecDepth 20000 in
theorem ggX12_addNumber_X12_add : GoodIn wsX12_addNumber wsX12_add := goodIn_r _ [5, 6, 7, 8, 9, 10, 11] rfl (by decide +kernel)
set_option maxRecDepth 20000 in
theorem gX12_addNumber_X12_add : GoodIn wsX12_addNumber (wsV RX12 24 RX12 yX12_add wsX12_add) := goodIn_app (goodIn_of _ (by decide +kernel)) ggX12_addNumber_X12_add
set_option maxRecDepth 20000 in
theorem ggX12_end_X12_add : GoodIn wsX12_end wsX12_add := goodIn_r _ [16, 17, 10, 33, 34, 35, 36] rfl (by decide +kernel)
set_option maxRecDepth 20000 in
theorem gX12_end_X12_add : GoodIn wsX12_end (wsV RX12 24 RX12 yX12_add wsX12_add) := goodIn_app (goodIn_of _ (by decide +kernel)) ggX12_end_X12_add
set_option maxRecDepth 20000 in
theorem ggX12_end_X12_addNumber : GoodIn wsX12_end wsX12_addNumber := goodIn_r _ [21, 12, 13, 14, 15, 16, 17, 10, 33, 34, 35, 36] rfl (by decide +kernel)
set_option maxRecDepth 20000 in
theorem gX12_end_X12_addNumber : GoodIn wsX12_end (wsV RX12 48 RX12 yX12_addNumber wsX12_addNumber) := goodIn_app (goodIn_of _ (by decide +kernel)) ggX12_end_X12_addNumber
set_option maxRecDepth 20000 in
theorem ggX12_end_X12_block : GoodIn wsX12_end wsX12_block := goodIn_r _ [25, 26, 17, 27, 28, 1, 29, 30, 31, 15, 32, 33, 34, 35, 36] rfl (by decide +kernel)
set_option maxRecDepth 20000 in
theorem gX12_end_X12_block : GoodIn wsX12_end (wsV RX12 52 RX12 yX12_block wsX12_block) := goodIn_app (goodIn_of _ (by decide +kernel)) ggX12_end_X12_block
set_option maxRecDepth 20000 in
theorem ggX12_block_X12_turned : GoodIn wsX12_block wsX12_turned := goodIn_r _ [10, 4] rfl (by decide +kernel)
set_option maxRecDepth 20000 in
theorem gX12_block_X12_turned : GoodIn wsX12_block (va_wsS RX12 57 yX12_turned wsX12_turned) := goodIn_app (goodIn_of _ (by decide +kernel)) ggX12_block_X12_turned
set_option maxRecDepth 20000 in
theorem ggX13_need_X13_fail : GoodIn wsX13_need wsX13_fail := goodIn_r _ [5, 6, 7, 8, 9, 10, 11, 12, 13, 14, 15, 16, 17, 18, 19, 20, 21, 22, 23, 24, 25, 26, 27, 28] rfl (by decide +kernel)
set_option maxRecDepth 20000 in
theorem gX13_need_X13_fail : GoodIn wsX13_need (wsV RX13 52 RX13 yX13_fail wsX13_fail) := goodIn_app (goodIn_of _ (by decide +kernel)) ggX13_need_X13_fail
set_option maxRecDepth 20000 in
theorem ggX13_isReference_X13_bytesOf : GoodIn wsX13_isReference wsX13_bytesOf := goodIn_r _ [4] rfl (by decide +kernel)
set_option maxRecDepth 20000 in
theorem gX13_isReference_X13_bytesOf : GoodIn wsX13_isReference (va_wsS RX13 58 yX13_bytesOf wsX13_bytesOf) := goodIn_app (goodIn_of _ (by decide +kernel)) ggX13_isReference_X13_bytesOf
set_option maxRecDepth 20000 in
theorem ggX13_isReference_X13_byteOf : GoodIn wsX13_isReference wsX13_byteOf := goodIn_r _ [7, 8] rfl (by decide +kernel)
set_option maxRecDepth 20000 in
theorem gX13_isReference_X13_byteOf : GoodIn wsX13_isReference (va_wsS RX13 62 yX13_byteOf wsX13_byteOf) := goodIn_app (goodIn_of _ (by decide +kernel)) ggX13_isReference_X13_byteOf
set_option maxRecDepth 20000 in
theorem ggX13_writes_X13_bytesOf : GoodIn wsX13_writes wsX13_bytesOf := goodIn_r _ [4] rfl (by decide +kernel)
set_option maxRecDepth 20000 in
theorem gX13_writes_X13_bytesOf : GoodIn wsX13_writes (va_wsS RX13 58 yX13_bytesOf wsX13_bytesOf) := goodIn_app (goodIn_of _ (by decide +kernel)) ggX13_writes_X13_bytesOf
set_option maxRecDepth 20000 in
theorem ggX13_writes_X13_byteOf : GoodIn wsX13_writes wsX13_byteOf := goodIn_r _ [7, 8] rfl (by decide +kernel)
set_option maxRecDepth 20000 in
theorem gX13_writes_X13_byteOf : GoodIn wsX13_writes (va_wsS RX13 62 yX13_byteOf wsX13_byteOf) := goodIn_app (goodIn_of _ (by decide +kernel)) ggX13_writes_X13_byteOf
set_option maxRecDepth 20000 in
theorem ggX13_pointed_X13_bytesOf : GoodIn wsX13_pointed wsX13_bytesOf := goodIn_r _ [4] rfl (by decide +kernel)
set_option maxRecDepth 20000 in
theorem gX13_pointed_X13_bytesOf : GoodIn wsX13_pointed (va_wsS RX13 58 yX13_bytesOf wsX13_bytesOf) := goodIn_app (goodIn_of _ (by decide +kernel)) ggX13_pointed_X13_bytesOf
set_option maxRecDepth 20000 in
theorem ggX13_before_X13_bytesOf : GoodIn wsX13_before wsX13_bytesOf := goodIn_r _ [4] rfl (by decide +kernel)
set_option maxRecDepth 20000 in
theorem gX13_before_X13_bytesOf : GoodIn wsX13_before (va_wsS RX13 58 yX13_bytesOf wsX13_bytesOf) := goodIn_app (goodIn_of _ (by decide +kernel)) ggX13_before_X13_bytesOf
set_option maxRecDepth 20000 in
theorem ggX13_abilitiesFor_X13_isReference : GoodIn wsX13_abilitiesFor wsX13_isReference := goodIn_r _ [5, 6, 7, 4, 8, 9, 10, 11, 12] rfl (by decide +kernel)
set_option maxRecDepth 20000 in
theorem gX13_abilitiesFor_X13_isReference : GoodIn wsX13_abilitiesFor (va_wsS RX13 68 yX13_isReference wsX13_isReference) := goodIn_app (goodIn_of _ (by decide +kernel)) ggX13_abilitiesFor_X13_isReference
set_option maxRecDepth 20000 in
theorem ggX13_abilitiesFor_X13_bytesOf : GoodIn wsX13_abilitiesFor wsX13_bytesOf := goodIn_r _ [8] rfl (by decide +kernel)
set_option maxRecDepth 20000 in
theorem gX13_abilitiesFor_X13_bytesOf : GoodIn wsX13_abilitiesFor (va_wsS RX13 58 yX13_bytesOf wsX13_bytesOf) := goodIn_app (goodIn_of _ (by decide +kernel)) ggX13_abilitiesFor_X13_bytesOf
set_option maxRecDepth 20000 in
theorem ggX13_abilitiesFor_X13_byteOf : GoodIn wsX13_abilitiesFor wsX13_byteOf := goodIn_r _ [11, 12] rfl (by decide +kernel)
set_option maxRecDepth 20000 in
theorem gX13_abilitiesFor_X13_byteOf : GoodIn wsX13_abilitiesFor (va_wsS RX13 62 yX13_byteOf wsX13_byteOf) := goodIn_app (goodIn_of _ (by decide +kernel)) ggX13_abilitiesFor_X13_byteOf
set_option maxRecDepth 20000 in
theorem ggX13_abilitiesFor_X16_abilitiesOf : GoodIn wsX13_abilitiesFor wsX16_abilitiesOf := goodIn_r _ [17, 18, 19, 20, 21, 22, 16, 23, 24, 25, 48, 49, 50, 51, 52, 53, 54, 55, 56, 57, 58, 59, 60, 61, 62, 63, 64, 65] rfl (by decide +kernel)
set_option maxRecDepth 20000 in
theorem gX13_abilitiesFor_X16_abilitiesOf : GoodIn wsX13_abilitiesFor (wsV RX13 76 RX16 yX16_abilitiesOf wsX16_abilitiesOf) := goodIn_app (goodIn_of _ (by decide +kernel)) ggX13_abilitiesFor_X16_abilitiesOf
set_option maxRecDepth 20000 in
theorem ggX13_has_X13_abilitiesFor : GoodIn wsX13_has wsX13_abilitiesFor := goodIn_r _ [5, 6, 7, 8, 4, 9, 10, 11, 12, 13, 14, 15, 16, 17, 18, 19, 20, 21, 22, 23, 24, 25, 26, 27, 28, 29, 30, 31, 32, 33, 34, 35, 36, 37, 38, 39, 40, 41, 42, 43, 44, 45, 46, 47, 48, 49, 50, 51, 52, 53, 54, 55, 56, 57, 58, 59, 60, 61, 62, 63, 64, 65, 66, 67, 68, 69] rfl (by decide +kernel)
set_option maxRecDepth 20000 in
theorem gX13_has_X13_abilitiesFor : GoodIn wsX13_has (wsV RX13 82 RX13 yX13_abilitiesFor wsX13_abilitiesFor) := goodIn_app (goodIn_of _ (by decide +kernel)) ggX13_has_X13_abilitiesFor
set_option maxRecDepth 20000 in
theorem ggX13_bears_X16_abilitiesOf : GoodIn wsX13_bears wsX16_abilitiesOf := goodIn_r _ [6, 7, 8, 9, 10, 11, 5, 12, 13, 14, 68, 69, 70, 71, 72, 73, 74, 75, 76, 77, 78, 79, 80, 81, 82, 83, 84, 85] rfl (by decide +kernel)
set_option maxRecDepth 20000 in
theorem gX13_bears_X16_abilitiesOf : GoodIn wsX13_bears (wsV RX13 76 RX16 yX16_abilitiesOf wsX16_abilitiesOf) := goodIn_app (goodIn_of _ (by decide +kernel)) ggX13_bears_X16_abilitiesOf
set_option maxRecDepth 20000 in
theorem ggX13_bears_X16_fieldsOf : GoodIn wsX13_bears wsX16_fieldsOf := goodIn_r _ [17, 7, 9, 10, 11, 5, 12, 13, 14, 68, 69, 70, 71, 72, 73, 74, 75, 76, 77, 78, 79, 80, 81, 82, 83, 84, 85] rfl (by decide +kernel)
set_option maxRecDepth 20000 in
theorem ggX13_bears_X16_field : GoodIn wsX13_bears wsX16_field := goodIn_r _ [21, 7, 22, 23, 24, 5, 25, 9, 10, 11, 12, 13, 14, 26, 27, 28, 29, 30, 68, 69, 70, 71, 72, 73, 74, 75, 76, 77, 78, 79, 80, 81, 82, 83, 84, 85] rfl (by decide +kernel)
set_option maxRecDepth 20000 in
theorem gX13_bears_X16_field : GoodIn wsX13_bears (wsV RX13 88 RX16 yX16_field wsX16_field) := goodIn_app (goodIn_of _ (by decide +kernel)) ggX13_bears_X16_field
set_option maxRecDepth 20000 in
theorem ggX13_bears_X13_abilitiesFor : GoodIn wsX13_bears wsX13_abilitiesFor := goodIn_r _ [35, 1, 36, 37, 34, 38, 39, 40, 41, 42, 43, 44, 45, 2, 3, 4, 5, 6, 7, 8, 9, 10, 11, 12, 13, 14, 46, 47, 48, 49, 50, 51, 52, 53, 54, 55, 56, 57, 58, 59, 60, 61, 62, 63, 64, 65, 66, 67, 68, 69, 70, 71, 72, 73, 74, 75, 76, 77, 78, 79, 80, 81, 82, 83, 84, 85] rfl (by decide +kernel)
set_option maxRecDepth 20000 in
theorem gX13_bears_X13_abilitiesFor : GoodIn wsX13_bears (wsV RX13 82 RX13 yX13_abilitiesFor wsX13_abilitiesFor) := goodIn_app (goodIn_of _ (by decide +kernel)) ggX13_bears_X13_abilitiesFor
set_option maxRecDepth 20000 in
theorem ggX13_push_X13_isReference : GoodIn wsX13_push wsX13_isReference := goodIn_r _ [9, 10, 11, 8, 12, 13, 14, 15, 16] rfl (by decide +kernel)
set_option maxRecDepth 20000 in
theorem gX13_push_X13_isReference : GoodIn wsX13_push (va_wsS RX13 68 yX13_isReference wsX13_isReference) := goodIn_app (goodIn_of _ (by decide +kernel)) ggX13_push_X13_isReference
set_option maxRecDepth 20000 in
theorem ggX13_push_X13_fail : GoodIn wsX13_push wsX13_fail := goodIn_r _ [20, 1, 21, 22, 23, 24, 25, 26, 27, 28, 29, 30, 31, 32, 33, 34, 35, 36, 37, 38, 39, 40, 41, 42] rfl (by decide +kernel)
set_option maxRecDepth 20000 in
theorem gX13_push_X13_fail : GoodIn wsX13_push (wsV RX13 52 RX13 yX13_fail wsX13_fail) := goodIn_app (goodIn_of _ (by decide +kernel)) ggX13_push_X13_fail
set_option maxRecDepth 20000 in
theorem ggX13_give_X13_push : GoodIn wsX13_give wsX13_push := goodIn_r _ [5, 6, 7, 8, 9, 10, 11, 12, 4, 13, 14, 15, 16, 17, 18, 19, 20, 21, 22, 23, 24, 25, 26, 27, 28, 29, 30, 31, 32, 33, 34, 35, 36, 37, 38, 39, 40, 41, 42, 43, 44, 45, 46] rfl (by decide +kernel)
set_option maxRecDepth 20000 in
theorem gX13_give_X13_push : GoodIn wsX13_give (wsV RX13 95 RX13 yX13_push wsX13_push) := goodIn_app (goodIn_of _ (by decide +kernel)) ggX13_give_X13_push
set_option maxRecDepth 20000 in
theorem ggX13_take_X13_fail : GoodIn wsX13_take wsX13_fail := goodIn_r _ [13, 1, 14, 15, 16, 17, 18, 19, 20, 21, 22, 23, 24, 25, 26, 27, 28, 29, 30, 31, 32, 33, 34, 35] rfl (by decide +kernel)
set_option maxRecDepth 20000 in
theorem gX13_take_X13_fail : GoodIn wsX13_take (wsV RX13 52 RX13 yX13_fail wsX13_fail) := goodIn_app (goodIn_of _ (by decide +kernel)) ggX13_take_X13_fail
set_option maxRecDepth 20000 in
theorem ggX13_take__X13_take : GoodIn wsX13_take_ wsX13_take := goodIn_r _ [7, 1, 8, 9, 2, 10, 11, 12, 13, 14, 15, 16, 6, 17, 18, 19, 20, 21, 22, 23, 24, 25, 26, 27, 28, 29, 30, 31, 32, 33, 34, 35, 36, 37, 38, 39] rfl (by decide +kernel)
set_option maxRecDepth 20000 in
theorem gX13_take__X13_take : GoodIn wsX13_take_ (wsV RX13 110 RX13 yX13_take wsX13_take) := goodIn_app (goodIn_of _ (by decide +kernel)) ggX13_take__X13_take
set_option maxRecDepth 20000 in
theorem ggX13_take__X13_fail : GoodIn wsX13_take_ wsX13_fail := goodIn_r _ [17, 1, 18, 19, 20, 21, 22, 23, 24, 25, 26, 27, 28, 29, 30, 31, 32, 33, 34, 35, 36, 37, 38, 39] rfl (by decide +kernel)
set_option maxRecDepth 20000 in
theorem gX13_take__X13_fail : GoodIn wsX13_take_ (wsV RX13 52 RX13 yX13_fail wsX13_fail) := goodIn_app (goodIn_of _ (by decide +kernel)) ggX13_take__X13_fail
set_option maxRecDepth 20000 in
theorem ggX13_takeReference_X13_take : GoodIn wsX13_takeReference wsX13_take := goodIn_r _ [7, 1, 8, 9, 2, 10, 11, 12, 13, 14, 15, 16, 6, 17, 38, 39, 40, 41, 42, 43, 44, 45, 46, 47, 48, 49, 50, 51, 52, 53, 54, 55, 56, 57, 58, 59] rfl (by decide +kernel)
set_option maxRecDepth 20000 in
theorem gX13_takeReference_X13_take : GoodIn wsX13_takeReference (wsV RX13 110 RX13 yX13_take wsX13_take) := goodIn_app (goodIn_of _ (by decide +kernel)) ggX13_takeReference_X13_take
set_option maxRecDepth 20000 in
theorem ggX13_takeReference_X13_isReference : GoodIn wsX13_takeReference wsX13_isReference := goodIn_r _ [20, 21, 22, 6, 23, 24, 25, 26, 27] rfl (by decide +kernel)
set_option maxRecDepth 20000 in
theorem gX13_takeReference_X13_isReference : GoodIn wsX13_takeReference (va_wsS RX13 68 yX13_isReference wsX13_isReference) := goodIn_app (goodIn_of _ (by decide +kernel)) ggX13_takeReference_X13_isReference
set_option maxRecDepth 20000 in
theorem ggX13_takeReference_X13_pointed : GoodIn wsX13_takeReference wsX13_pointed := goodIn_r _ [30, 21, 22, 6, 23] rfl (by decide +kernel)
set_option maxRecDepth 20000 in
theorem gX13_takeReference_X13_pointed : GoodIn wsX13_takeReference (va_wsS RX13 113 yX13_pointed wsX13_pointed) := goodIn_app (goodIn_of _ (by decide +kernel)) ggX13_takeReference_X13_pointed
set_option maxRecDepth 20000 in
theorem ggX13_takeReference_X13_need : GoodIn wsX13_takeReference wsX13_need := goodIn_r _ [34, 14, 15, 16, 6, 17, 1, 38, 39, 40, 41, 42, 43, 44, 45, 46, 47, 48, 49, 50, 51, 52, 53, 54, 55, 56, 57, 58, 59] rfl (by decide +kernel)
set_option maxRecDepth 20000 in
theorem gX13_takeReference_X13_need : GoodIn wsX13_takeReference (wsV RX13 117 RX13 yX13_need wsX13_need) := goodIn_app (goodIn_of _ (by decide +kernel)) ggX13_takeReference_X13_need
set_option maxRecDepth 20000 in
theorem ggX13_takeReference_X13_writes : GoodIn wsX13_takeReference wsX13_writes := goodIn_r _ [37, 21, 22, 6, 23, 24, 25, 26, 27] rfl (by decide +kernel)
set_option maxRecDepth 20000 in
theorem gX13_takeReference_X13_writes : GoodIn wsX13_takeReference (va_wsS RX13 121 yX13_writes wsX13_writes) := goodIn_app (goodIn_of _ (by decide +kernel)) ggX13_takeReference_X13_writes
set_option maxRecDepth 20000 in
theorem ggX13_takeNumbers_X13_take : GoodIn wsX13_takeNumbers wsX13_take := goodIn_r _ [7, 1, 8, 9, 2, 10, 11, 12, 13, 14, 15, 16, 6, 17, 32, 33, 34, 35, 36, 37, 38, 39, 40, 41, 42, 43, 44, 45, 46, 47, 48, 49, 50, 51, 52, 53] rfl (by decide +kernel)
set_option maxRecDepth 20000 in
theorem gX13_takeNumbers_X13_take : GoodIn wsX13_takeNumbers (wsV RX13 110 RX13 yX13_take wsX13_take) := goodIn_app (goodIn_of _ (by decide +kernel)) ggX13_takeNumbers_X13_take
set_option maxRecDepth 20000 in
theorem ggX13_takeNumbers_X13_isNumber : GoodIn wsX13_takeNumbers wsX13_isNumber := goodIn_r _ [20, 21, 22, 23] rfl (by decide +kernel)
set_option maxRecDepth 20000 in
theorem gX13_takeNumbers_X13_isNumber : GoodIn wsX13_takeNumbers (va_wsS RX13 130 yX13_isNumber wsX13_isNumber) := goodIn_app (goodIn_of _ (by decide +kernel)) ggX13_takeNumbers_X13_isNumber
set_option maxRecDepth 20000 in
theorem ggX13_takeNumbers_X13_need : GoodIn wsX13_takeNumbers wsX13_need := goodIn_r _ [27, 14, 15, 16, 6, 17, 1, 32, 33, 34, 35, 36, 37, 38, 39, 40, 41, 42, 43, 44, 45, 46, 47, 48, 49, 50, 51, 52, 53] rfl (by decide +kernel)
set_option maxRecDepth 20000 in
theorem gX13_takeNumbers_X13_need : GoodIn wsX13_takeNumbers (wsV RX13 117 RX13 yX13_need wsX13_need) := goodIn_app (goodIn_of _ (by decide +kernel)) ggX13_takeNumbers_X13_need
set_option maxRecDepth 20000 in
theorem ggX13_takeNumbers_X13_take_ : GoodIn wsX13_takeNumbers wsX13_take_ := goodIn_r _ [31, 1, 2, 3, 4, 5, 6, 7, 8, 9, 10, 11, 12, 13, 14, 15, 16, 17, 32, 33, 34, 35, 36, 37, 38, 39, 40, 41, 42, 43, 44, 45, 46, 47, 48, 49, 50, 51, 52, 53] rfl (by decide +kernel)
set_option maxRecDepth 20000 in
theorem gX13_takeNumbers_X13_take_ : GoodIn wsX13_takeNumbers (wsV RX13 133 RX13 yX13_take_ wsX13_take_) := goodIn_app (goodIn_of _ (by decide +kernel)) ggX13_takeNumbers_X13_take_
set_option maxRecDepth 20000 in
theorem ggX13_isPointed_X13_writes : GoodIn wsX13_isPointed wsX13_writes := goodIn_r _ [11, 12, 13, 10, 14, 15, 16, 17, 18] rfl (by decide +kernel)
set_option maxRecDepth 20000 in
theorem gX13_isPointed_X13_writes : GoodIn wsX13_isPointed (va_wsS RX13 121 yX13_writes wsX13_writes) := goodIn_app (goodIn_of _ (by decide +kernel)) ggX13_isPointed_X13_writes
set_option maxRecDepth 20000 in
theorem ggX13_isSole_X13_writes : GoodIn wsX13_isSole wsX13_writes := goodIn_r _ [13, 14, 15, 12, 16, 17, 18, 19, 20] rfl (by decide +kernel)
set_option maxRecDepth 20000 in
theorem gX13_isSole_X13_writes : GoodIn wsX13_isSole (va_wsS RX13 121 yX13_writes wsX13_writes) := goodIn_app (goodIn_of _ (by decide +kernel)) ggX13_isSole_X13_writes
set_option maxRecDepth 20000 in
theorem ggX13_onLocal_X13_isReference : GoodIn wsX13_onLocal wsX13_isReference := goodIn_r _ [11, 12, 13, 10, 14, 15, 16, 17, 18] rfl (by decide +kernel)
set_option maxRecDepth 20000 in
theorem gX13_onLocal_X13_isReference : GoodIn wsX13_onLocal (va_wsS RX13 68 yX13_isReference wsX13_isReference) := goodIn_app (goodIn_of _ (by decide +kernel)) ggX13_onLocal_X13_isReference
set_option maxRecDepth 20000 in
theorem ggX13_onLocal_X13_take_ : GoodIn wsX13_onLocal wsX13_take_ := goodIn_r _ [22, 3, 23, 24, 25, 26, 10, 27, 28, 29, 30, 5, 31, 7, 32, 33, 34, 35, 77, 78, 79, 80, 81, 82, 83, 84, 85, 86, 87, 88, 89, 90, 91, 92, 93, 94, 95, 96, 97, 98] rfl (by decide +kernel)
set_option maxRecDepth 20000 in
theorem gX13_onLocal_X13_take_ : GoodIn wsX13_onLocal (wsV RX13 133 RX13 yX13_take_ wsX13_take_) := goodIn_app (goodIn_of _ (by decide +kernel)) ggX13_onLocal_X13_take_
set_option maxRecDepth 20000 in
theorem ggX13_onLocal_X13_has : GoodIn wsX13_onLocal wsX13_has := goodIn_r _ [39, 40, 41, 42, 10, 43, 44, 8, 9, 11, 12, 13, 14, 15, 16, 17, 18, 45, 46, 47, 48, 49, 50, 51, 52, 53, 54, 55, 56, 57, 77, 78, 79, 80, 81, 82, 83, 84, 85, 86, 87, 88, 89, 90, 91, 92, 93, 94, 95, 96, 97, 98, 99, 100, 101, 102, 103, 104, 105, 106, 107, 108, 109, 110, 111, 112, 113, 114, 115, 116] rfl (by decide +kernel)
set_option maxRecDepth 20000 in
theorem gX13_onLocal_X13_has : GoodIn wsX13_onLocal (wsV RX13 139 RX13 yX13_has wsX13_has) := goodIn_app (goodIn_of _ (by decide +kernel)) ggX13_onLocal_X13_has
set_option maxRecDepth 20000 in
theorem ggX13_onLocal_X13_need : GoodIn wsX13_onLocal wsX13_need := goodIn_r _ [61, 32, 33, 34, 10, 35, 3, 77, 78, 79, 80, 81, 82, 83, 84, 85, 86, 87, 88, 89, 90, 91, 92, 93, 94, 95, 96, 97, 98] rfl (by decide +kernel)
set_option maxRecDepth 20000 in
theorem gX13_onLocal_X13_need : GoodIn wsX13_onLocal (wsV RX13 117 RX13 yX13_need wsX13_need) := goodIn_app (goodIn_of _ (by decide +kernel)) ggX13_onLocal_X13_need
set_option maxRecDepth 20000 in
theorem ggX13_onLocal_X13_isPointed : GoodIn wsX13_onLocal wsX13_isPointed := goodIn_r _ [65, 28, 30, 29, 66, 2, 4, 1, 67, 68, 10, 69, 12, 13, 14, 15, 16, 17, 18, 77, 78, 79, 80, 81, 82, 83, 84, 85, 86, 87, 88, 89, 90, 91, 92, 93, 94, 95, 96, 97, 98] rfl (by decide +kernel)
set_option maxRecDepth 20000 in
theorem gX13_onLocal_X13_isPointed : GoodIn wsX13_onLocal (wsV RX13 143 RX13 yX13_isPointed wsX13_isPointed) := goodIn_app (goodIn_of _ (by decide +kernel)) ggX13_onLocal_X13_isPointed
set_option maxRecDepth 20000 in
theorem ggX13_onLocal_X13_push : GoodIn wsX13_onLocal wsX13_push := goodIn_r _ [73, 3, 29, 28, 30, 31, 8, 9, 10, 11, 12, 13, 14, 15, 16, 17, 18, 32, 33, 34, 35, 77, 78, 79, 80, 81, 82, 83, 84, 85, 86, 87, 88, 89, 90, 91, 92, 93, 94, 95, 96, 97, 98] rfl (by decide +kernel)
set_option maxRecDepth 20000 in
theorem gX13_onLocal_X13_push : GoodIn wsX13_onLocal (wsV RX13 95 RX13 yX13_push wsX13_push) := goodIn_app (goodIn_of _ (by decide +kernel)) ggX13_onLocal_X13_push
set_option maxRecDepth 20000 in
theorem ggX13_onLocal_X13_before : GoodIn wsX13_onLocal wsX13_before := goodIn_r _ [76, 12, 13, 10, 14] rfl (by decide +kernel)
set_option maxRecDepth 20000 in
theorem gX13_onLocal_X13_before : GoodIn wsX13_onLocal (va_wsS RX13 147 yX13_before wsX13_before) := goodIn_app (goodIn_of _ (by decide +kernel)) ggX13_onLocal_X13_before
set_option maxRecDepth 20000 in
theorem ggX13_onReference_X13_structureType : GoodIn wsX13_onReference wsX13_structureType := goodIn_r _ [9, 10] rfl (by decide +kernel)
set_option maxRecDepth 20000 in
theorem gX13_onReference_X13_structureType : GoodIn wsX13_onReference (va_wsS RX13 151 yX13_structureType wsX13_structureType) := goodIn_app (goodIn_of _ (by decide +kernel)) ggX13_onReference_X13_structureType
set_option maxRecDepth 20000 in
theorem ggX13_onReference_X13_takeReference : GoodIn wsX13_onReference wsX13_takeReference := goodIn_r _ [14, 1, 4, 15, 16, 17, 8, 18, 19, 20, 21, 3, 22, 5, 23, 24, 25, 26, 27, 28, 29, 30, 31, 32, 33, 34, 35, 36, 37, 38, 39, 40, 41, 42, 43, 44, 45, 46, 105, 106, 107, 108, 109, 110, 111, 112, 113, 114, 115, 116, 117, 118, 119, 120, 121, 122, 123, 124, 125, 126] rfl (by decide +kernel)
set_option maxRecDepth 20000 in
theorem gX13_onReference_X13_takeReference : GoodIn wsX13_onReference (wsV RX13 155 RX13 yX13_takeReference wsX13_takeReference) := goodIn_app (goodIn_of _ (by decide +kernel)) ggX13_onReference_X13_takeReference
set_option maxRecDepth 20000 in
theorem ggX13_onReference_X16_field : GoodIn wsX13_onReference wsX16_field := goodIn_r _ [51, 52, 53, 54, 55, 50, 56, 57, 58, 59, 60, 61, 62, 63, 64, 65, 66, 67, 127, 128, 129, 130, 131, 132, 133, 134, 135, 136, 137, 138, 139, 140, 141, 142, 143, 144] rfl (by decide +kernel)
set_option maxRecDepth 20000 in
theorem gX13_onReference_X16_field : GoodIn wsX13_onReference (wsV RX13 88 RX16 yX16_field wsX16_field) := goodIn_app (goodIn_of _ (by decide +kernel)) ggX13_onReference_X16_field
set_option maxRecDepth 20000 in
theorem ggX13_onReference_X13_before : GoodIn wsX13_onReference wsX13_before := goodIn_r _ [70, 30, 31, 8, 32] rfl (by decide +kernel)
set_option maxRecDepth 20000 in
theorem gX13_onReference_X13_before : GoodIn wsX13_onReference (va_wsS RX13 147 yX13_before wsX13_before) := goodIn_app (goodIn_of _ (by decide +kernel)) ggX13_onReference_X13_before
set_option maxRecDepth 20000 in
theorem ggX13_onReference_X13_push : GoodIn wsX13_onReference wsX13_push := goodIn_r _ [74, 1, 20, 19, 21, 22, 27, 28, 8, 29, 30, 31, 32, 33, 34, 35, 36, 23, 24, 25, 26, 105, 106, 107, 108, 109, 110, 111, 112, 113, 114, 115, 116, 117, 118, 119, 120, 121, 122, 123, 124, 125, 126] rfl (by decide +kernel)
set_option maxRecDepth 20000 in
theorem gX13_onReference_X13_push : GoodIn wsX13_onReference (wsV RX13 95 RX13 yX13_push wsX13_push) := goodIn_app (goodIn_of _ (by decide +kernel)) ggX13_onReference_X13_push
set_option maxRecDepth 20000 in
theorem ggX13_onReference_X13_pointed : GoodIn wsX13_onReference wsX13_pointed := goodIn_r _ [39, 30, 31, 8, 32] rfl (by decide +kernel)
set_option maxRecDepth 20000 in
theorem gX13_onReference_X13_pointed : GoodIn wsX13_onReference (va_wsS RX13 113 yX13_pointed wsX13_pointed) := goodIn_app (goodIn_of _ (by decide +kernel)) ggX13_onReference_X13_pointed
set_option maxRecDepth 20000 in
theorem ggX13_onReference_X13_has : GoodIn wsX13_onReference wsX13_has := goodIn_r _ [78, 79, 80, 81, 8, 82, 2, 27, 28, 29, 30, 31, 32, 33, 34, 35, 36, 83, 84, 85, 50, 86, 52, 87, 57, 58, 59, 60, 61, 62, 105, 106, 107, 108, 109, 110, 111, 112, 113, 114, 115, 116, 117, 118, 119, 120, 121, 122, 123, 124, 125, 126, 127, 128, 129, 130, 131, 132, 133, 134, 135, 136, 137, 138, 139, 140, 141, 142, 143, 144] rfl (by decide +kernel)
set_option maxRecDepth 20000 in
theorem gX13_onReference_X13_has : GoodIn wsX13_onReference (wsV RX13 139 RX13 yX13_has wsX13_has) := goodIn_app (goodIn_of _ (by decide +kernel)) ggX13_onReference_X13_has
set_option maxRecDepth 20000 in
theorem ggX13_onReference_X13_need : GoodIn wsX13_onReference wsX13_need := goodIn_r _ [43, 23, 24, 25, 8, 26, 1, 105, 106, 107, 108, 109, 110, 111, 112, 113, 114, 115, 116, 117, 118, 119, 120, 121, 122, 123, 124, 125, 126] rfl (by decide +kernel)
set_option maxRecDepth 20000 in
theorem gX13_onReference_X13_need : GoodIn wsX13_onReference (wsV RX13 117 RX13 yX13_need wsX13_need) := goodIn_app (goodIn_of _ (by decide +kernel)) ggX13_onReference_X13_need
set_option maxRecDepth 20000 in
theorem ggX13_onReference_X13_give : GoodIn wsX13_onReference wsX13_give := goodIn_r _ [91, 71, 72, 73, 8, 74, 1, 20, 19, 21, 22, 27, 28, 29, 30, 31, 32, 33, 34, 35, 36, 23, 24, 25, 26, 105, 106, 107, 108, 109, 110, 111, 112, 113, 114, 115, 116, 117, 118, 119, 120, 121, 122, 123, 124, 125, 126] rfl (by decide +kernel)
set_option maxRecDepth 20000 in
theorem gX13_onReference_X13_give : GoodIn wsX13_onReference (wsV RX13 159 RX13 yX13_give wsX13_give) := goodIn_app (goodIn_of _ (by decide +kernel)) ggX13_onReference_X13_give
set_option maxRecDepth 20000 in
theorem ggX13_onReference_X13_take_ : GoodIn wsX13_onReference wsX13_take_ := goodIn_r _ [95, 1, 4, 15, 16, 17, 8, 18, 19, 20, 21, 3, 22, 5, 23, 24, 25, 26, 105, 106, 107, 108, 109, 110, 111, 112, 113, 114, 115, 116, 117, 118, 119, 120, 121, 122, 123, 124, 125, 126] rfl (by decide +kernel)
set_option maxRecDepth 20000 in
theorem gX13_onReference_X13_take_ : GoodIn wsX13_onReference (wsV RX13 133 RX13 yX13_take_ wsX13_take_) := goodIn_app (goodIn_of _ (by decide +kernel)) ggX13_onReference_X13_take_
set_option maxRecDepth 20000 in
theorem ggX13_onReference_X13_isSole : GoodIn wsX13_onReference wsX13_isSole := goodIn_r _ [99, 19, 21, 20, 22, 100, 101, 102, 103, 104, 44, 45, 8, 46, 30, 31, 32, 33, 34, 35, 36, 105, 106, 107, 108, 109, 110, 111, 112, 113, 114, 115, 116, 117, 118, 119, 120, 121, 122, 123, 124, 125, 126] rfl (by decide +kernel)
set_option maxRecDepth 20000 in
theorem gX13_onReference_X13_isSole : GoodIn wsX13_onReference (wsV RX13 162 RX13 yX13_isSole wsX13_isSole) := goodIn_app (goodIn_of _ (by decide +kernel)) ggX13_onReference_X13_isSole
set_option maxRecDepth 20000 in
theorem ggX13_call_X16_many : GoodIn wsX13_call wsX16_many := goodIn_r _ [11, 12, 13, 14, 15, 10, 16, 17, 18, 19, 20, 21, 22, 23, 24, 25, 26, 27, 28, 29, 30, 31, 32, 33, 34, 35, 36, 123, 124, 125, 126, 127, 128, 129, 130, 131, 132, 133, 134, 135, 136, 137, 138, 139, 140] rfl (by decide +kernel)
set_option maxRecDepth 20000 in
theorem gX13_call_X16_many : GoodIn wsX13_call (wsV RX13 165 RX16 yX16_many wsX16_many) := goodIn_app (goodIn_of _ (by decide +kernel)) ggX13_call_X16_many
set_option maxRecDepth 20000 in
theorem ggX13_call_X16_listed : GoodIn wsX13_call wsX16_listed := goodIn_r _ [40, 13, 14, 15, 10, 16, 12, 17, 18, 19, 20, 21, 22, 23, 24, 25, 26, 27, 28, 29, 30, 31, 32, 33, 34, 35, 36, 41, 42, 43, 44, 45, 123, 124, 125, 126, 127, 128, 129, 130, 131, 132, 133, 134, 135, 136, 137, 138, 139, 140] rfl (by decide +kernel)
set_option maxRecDepth 20000 in
theorem gX13_call_X16_listed : GoodIn wsX13_call (wsV RX13 169 RX16 yX16_listed wsX16_listed) := goodIn_app (goodIn_of _ (by decide +kernel)) ggX13_call_X16_listed
set_option maxRecDepth 20000 in
theorem ggX13_call_X13_take_ : GoodIn wsX13_call wsX13_take_ := goodIn_r _ [50, 3, 51, 52, 53, 54, 49, 55, 2, 6, 5, 56, 57, 58, 59, 60, 61, 62, 101, 102, 103, 104, 105, 106, 107, 108, 109, 110, 111, 112, 113, 114, 115, 116, 117, 118, 119, 120, 121, 122] rfl (by decide +kernel)
set_option maxRecDepth 20000 in
theorem gX13_call_X13_take_ : GoodIn wsX13_call (wsV RX13 133 RX13 yX13_take_ wsX13_take_) := goodIn_app (goodIn_of _ (by decide +kernel)) ggX13_call_X13_take_
set_option maxRecDepth 20000 in
theorem ggX13_call_X16_flags : GoodIn wsX13_call wsX16_flags := goodIn_r _ [66, 12, 22, 17, 27, 28, 29, 10, 30, 31, 32, 123, 124, 125, 126, 127, 128, 129, 130, 131, 132, 133, 134, 135, 136, 137, 138, 139, 140] rfl (by decide +kernel)
set_option maxRecDepth 20000 in
theorem gX13_call_X16_flags : GoodIn wsX13_call (wsV RX13 173 RX16 yX16_flags wsX16_flags) := goodIn_app (goodIn_of _ (by decide +kernel)) ggX13_call_X16_flags
set_option maxRecDepth 20000 in
theorem ggX13_call_X13_need : GoodIn wsX13_call wsX13_need := goodIn_r _ [70, 59, 60, 61, 49, 62, 3, 101, 102, 103, 104, 105, 106, 107, 108, 109, 110, 111, 112, 113, 114, 115, 116, 117, 118, 119, 120, 121, 122] rfl (by decide +kernel)
set_option maxRecDepth 20000 in
theorem gX13_call_X13_need : GoodIn wsX13_call (wsV RX13 117 RX13 yX13_need wsX13_need) := goodIn_app (goodIn_of _ (by decide +kernel)) ggX13_call_X13_need
set_option maxRecDepth 20000 in
theorem ggX13_call_X13_writes : GoodIn wsX13_call wsX13_writes := goodIn_r _ [73, 74, 75, 49, 76, 77, 78, 79, 80] rfl (by decide +kernel)
set_option maxRecDepth 20000 in
theorem gX13_call_X13_writes : GoodIn wsX13_call (va_wsS RX13 121 yX13_writes wsX13_writes) := goodIn_app (goodIn_of _ (by decide +kernel)) ggX13_call_X13_writes
set_option maxRecDepth 20000 in
theorem ggX13_call_X13_isSole : GoodIn wsX13_call wsX13_isSole := goodIn_r _ [84, 2, 5, 6, 57, 85, 86, 87, 88, 89, 71, 72, 49, 73, 74, 75, 76, 77, 78, 79, 80, 101, 102, 103, 104, 105, 106, 107, 108, 109, 110, 111, 112, 113, 114, 115, 116, 117, 118, 119, 120, 121, 122] rfl (by decide +kernel)
set_option maxRecDepth 20000 in
theorem gX13_call_X13_isSole : GoodIn wsX13_call (wsV RX13 162 RX13 yX13_isSole wsX13_isSole) := goodIn_app (goodIn_of _ (by decide +kernel)) ggX13_call_X13_isSole
set_option maxRecDepth 20000 in
theorem ggX13_call_X13_isPointed : GoodIn wsX13_call wsX13_isPointed := goodIn_r _ [93, 2, 5, 6, 85, 86, 87, 88, 71, 72, 49, 73, 74, 75, 76, 77, 78, 79, 80, 101, 102, 103, 104, 105, 106, 107, 108, 109, 110, 111, 112, 113, 114, 115, 116, 117, 118, 119, 120, 121, 122] rfl (by decide +kernel)
set_option maxRecDepth 20000 in
theorem gX13_call_X13_isPointed : GoodIn wsX13_call (wsV RX13 143 RX13 yX13_isPointed wsX13_isPointed) := goodIn_app (goodIn_of _ (by decide +kernel)) ggX13_call_X13_isPointed
set_option maxRecDepth 20000 in
theorem ggX13_call_X13_push : GoodIn wsX13_call wsX13_push := goodIn_r _ [97, 3, 6, 2, 5, 57, 98, 99, 49, 100, 74, 75, 76, 77, 78, 79, 80, 59, 60, 61, 62, 101, 102, 103, 104, 105, 106, 107, 108, 109, 110, 111, 112, 113, 114, 115, 116, 117, 118, 119, 120, 121, 122] rfl (by decide +kernel)
set_option maxRecDepth 20000 in
theorem gX13_call_X13_push : GoodIn wsX13_call (wsV RX13 95 RX13 yX13_push wsX13_push) := goodIn_app (goodIn_of _ (by decide +kernel)) ggX13_call_X13_push
set_option maxRecDepth 20000 in
theorem ggX13_onNumbers_X13_takeNumbers : GoodIn wsX13_onNumbers wsX13_takeNumbers := goodIn_r _ [9, 3, 1, 10, 11, 12, 8, 13, 14, 15, 16, 17, 18, 19, 20, 21, 22, 23, 24, 25, 26, 2, 27, 28, 29, 30, 31, 32, 33, 34, 35, 36, 77, 78, 79, 80, 81, 82, 83, 84, 85, 86, 87, 88, 89, 90, 91, 92, 93, 94, 95, 96, 97, 98] rfl (by decide +kernel)
set_option maxRecDepth 20000 in
theorem gX13_onNumbers_X13_takeNumbers : GoodIn wsX13_onNumbers (wsV RX13 179 RX13 yX13_takeNumbers wsX13_takeNumbers) := goodIn_app (goodIn_of _ (by decide +kernel)) ggX13_onNumbers_X13_takeNumbers
set_option maxRecDepth 20000 in
theorem ggX13_onNumbers_X13_give : GoodIn wsX13_onNumbers wsX13_give := goodIn_r _ [40, 41, 42, 43, 8, 44, 3, 15, 14, 16, 18, 45, 46, 47, 48, 49, 50, 51, 52, 53, 54, 20, 21, 22, 23, 77, 78, 79, 80, 81, 82, 83, 84, 85, 86, 87, 88, 89, 90, 91, 92, 93, 94, 95, 96, 97, 98] rfl (by decide +kernel)
set_option maxRecDepth 20000 in
theorem gX13_onNumbers_X13_give : GoodIn wsX13_onNumbers (wsV RX13 159 RX13 yX13_give wsX13_give) := goodIn_app (goodIn_of _ (by decide +kernel)) ggX13_onNumbers_X13_give
set_option maxRecDepth 20000 in
theorem ggX13_onNumbers_X13_take_ : GoodIn wsX13_onNumbers wsX13_take_ := goodIn_r _ [36, 3, 1, 10, 11, 12, 8, 13, 14, 15, 16, 17, 18, 19, 20, 21, 22, 23, 77, 78, 79, 80, 81, 82, 83, 84, 85, 86, 87, 88, 89, 90, 91, 92, 93, 94, 95, 96, 97, 98] rfl (by decide +kernel)
set_option maxRecDepth 20000 in
theorem gX13_onNumbers_X13_take_ : GoodIn wsX13_onNumbers (wsV RX13 133 RX13 yX13_take_ wsX13_take_) := goodIn_app (goodIn_of _ (by decide +kernel)) ggX13_onNumbers_X13_take_
set_option maxRecDepth 20000 in
theorem ggX13_onNumbers_X13_take : GoodIn wsX13_onNumbers wsX13_take := goodIn_r _ [13, 3, 14, 15, 1, 16, 17, 18, 19, 20, 21, 22, 8, 23, 77, 78, 79, 80, 81, 82, 83, 84, 85, 86, 87, 88, 89, 90, 91, 92, 93, 94, 95, 96, 97, 98] rfl (by decide +kernel)
set_option maxRecDepth 20000 in
theorem gX13_onNumbers_X13_take : GoodIn wsX13_onNumbers (wsV RX13 110 RX13 yX13_take wsX13_take) := goodIn_app (goodIn_of _ (by decide +kernel)) ggX13_onNumbers_X13_take
set_option maxRecDepth 20000 in
theorem ggX13_onNumbers_X13_isNumber : GoodIn wsX13_onNumbers wsX13_isNumber := goodIn_r _ [26, 2, 27, 28] rfl (by decide +kernel)
set_option maxRecDepth 20000 in
theorem gX13_onNumbers_X13_isNumber : GoodIn wsX13_onNumbers (va_wsS RX13 130 yX13_isNumber wsX13_isNumber) := goodIn_app (goodIn_of _ (by decide +kernel)) ggX13_onNumbers_X13_isNumber
set_option maxRecDepth 20000 in
theorem ggX13_onNumbers_X13_need : GoodIn wsX13_onNumbers wsX13_need := goodIn_r _ [32, 20, 21, 22, 8, 23, 3, 77, 78, 79, 80, 81, 82, 83, 84, 85, 86, 87, 88, 89, 90, 91, 92, 93, 94, 95, 96, 97, 98] rfl (by decide +kernel)
set_option maxRecDepth 20000 in
theorem gX13_onNumbers_X13_need : GoodIn wsX13_onNumbers (wsV RX13 117 RX13 yX13_need wsX13_need) := goodIn_app (goodIn_of _ (by decide +kernel)) ggX13_onNumbers_X13_need
set_option maxRecDepth 20000 in
theorem ggX13_onNumbers_X13_isReference : GoodIn wsX13_onNumbers wsX13_isReference := goodIn_r _ [47, 48, 49, 8, 50, 51, 52, 53, 54] rfl (by decide +kernel)
set_option maxRecDepth 20000 in
theorem gX13_onNumbers_X13_isReference : GoodIn wsX13_onNumbers (va_wsS RX13 68 yX13_isReference wsX13_isReference) := goodIn_app (goodIn_of _ (by decide +kernel)) ggX13_onNumbers_X13_isReference
set_option maxRecDepth 20000 in
theorem ggX13_onNumbers_X13_has : GoodIn wsX13_onNumbers wsX13_has := goodIn_r _ [58, 59, 60, 61, 8, 62, 63, 45, 46, 47, 48, 49, 50, 51, 52, 53, 54, 64, 65, 66, 67, 68, 69, 70, 71, 72, 73, 74, 75, 76, 77, 78, 79, 80, 81, 82, 83, 84, 85, 86, 87, 88, 89, 90, 91, 92, 93, 94, 95, 96, 97, 98, 99, 100, 101, 102, 103, 104, 105, 106, 107, 108, 109, 110, 111, 112, 113, 114, 115, 116] rfl (by decide +kernel)
set_option maxRecDepth 20000 in
theorem gX13_onNumbers_X13_has : GoodIn wsX13_onNumbers (wsV RX13 139 RX13 yX13_has wsX13_has) := goodIn_app (goodIn_of _ (by decide +kernel)) ggX13_onNumbers_X13_has
set_option maxRecDepth 20000 in
theorem ggX13_onResource_X13_structureType : GoodIn wsX13_onResource wsX13_structureType := goodIn_r _ [8, 9] rfl (by decide +kernel)
set_option maxRecDepth 20000 in
theorem gX13_onResource_X13_structureType : GoodIn wsX13_onResource (va_wsS RX13 151 yX13_structureType wsX13_structureType) := goodIn_app (goodIn_of _ (by decide +kernel)) ggX13_onResource_X13_structureType
set_option maxRecDepth 20000 in
theorem ggX13_onResource_X13_take_ : GoodIn wsX13_onResource wsX13_take_ := goodIn_r _ [13, 4, 14, 15, 16, 17, 7, 18, 19, 20, 21, 22, 23, 24, 25, 26, 27, 28, 85, 86, 87, 88, 89, 90, 91, 92, 93, 94, 95, 96, 97, 98, 99, 100, 101, 102, 103, 104, 105, 106] rfl (by decide +kernel)
set_option maxRecDepth 20000 in
theorem gX13_onResource_X13_take_ : GoodIn wsX13_onResource (wsV RX13 133 RX13 yX13_take_ wsX13_take_) := goodIn_app (goodIn_of _ (by decide +kernel)) ggX13_onResource_X13_take_
set_option maxRecDepth 20000 in
theorem ggX13_onResource_X16_flags : GoodIn wsX13_onResource wsX16_flags := goodIn_r _ [33, 34, 35, 36, 37, 38, 39, 32, 40, 41, 42, 107, 108, 109, 110, 111, 112, 113, 114, 115, 116, 117, 118, 119, 120, 121, 122, 123, 124] rfl (by decide +kernel)
set_option maxRecDepth 20000 in
theorem gX13_onResource_X16_flags : GoodIn wsX13_onResource (wsV RX13 173 RX16 yX16_flags wsX16_flags) := goodIn_app (goodIn_of _ (by decide +kernel)) ggX13_onResource_X16_flags
set_option maxRecDepth 20000 in
theorem ggX13_onResource_X13_need : GoodIn wsX13_onResource wsX13_need := goodIn_r _ [46, 25, 26, 27, 7, 28, 4, 85, 86, 87, 88, 89, 90, 91, 92, 93, 94, 95, 96, 97, 98, 99, 100, 101, 102, 103, 104, 105, 106] rfl (by decide +kernel)
set_option maxRecDepth 20000 in
theorem gX13_onResource_X13_need : GoodIn wsX13_onResource (wsV RX13 117 RX13 yX13_need wsX13_need) := goodIn_app (goodIn_of _ (by decide +kernel)) ggX13_onResource_X13_need
set_option maxRecDepth 20000 in
theorem ggX13_onResource_X16_abilitiesOf : GoodIn wsX13_onResource wsX16_abilitiesOf := goodIn_r _ [50, 51, 52, 37, 38, 39, 32, 40, 41, 42, 107, 108, 109, 110, 111, 112, 113, 114, 115, 116, 117, 118, 119, 120, 121, 122, 123, 124] rfl (by decide +kernel)
set_option maxRecDepth 20000 in
theorem gX13_onResource_X16_abilitiesOf : GoodIn wsX13_onResource (wsV RX13 76 RX16 yX16_abilitiesOf wsX16_abilitiesOf) := goodIn_app (goodIn_of _ (by decide +kernel)) ggX13_onResource_X16_abilitiesOf
set_option maxRecDepth 20000 in
theorem ggX13_onResource_X13_isPointed : GoodIn wsX13_onResource wsX13_isPointed := goodIn_r _ [56, 19, 21, 20, 57, 58, 59, 60, 61, 62, 7, 63, 64, 65, 66, 67, 68, 69, 70, 85, 86, 87, 88, 89, 90, 91, 92, 93, 94, 95, 96, 97, 98, 99, 100, 101, 102, 103, 104, 105, 106] rfl (by decide +kernel)
set_option maxRecDepth 20000 in
theorem gX13_onResource_X13_isPointed : GoodIn wsX13_onResource (wsV RX13 143 RX13 yX13_isPointed wsX13_isPointed) := goodIn_app (goodIn_of _ (by decide +kernel)) ggX13_onResource_X13_isPointed
set_option maxRecDepth 20000 in
theorem ggX13_onResource_X13_give : GoodIn wsX13_onResource wsX13_give := goodIn_r _ [74, 75, 76, 77, 7, 78, 4, 20, 19, 21, 23, 79, 80, 81, 64, 65, 66, 67, 68, 69, 70, 25, 26, 27, 28, 85, 86, 87, 88, 89, 90, 91, 92, 93, 94, 95, 96, 97, 98, 99, 100, 101, 102, 103, 104, 105, 106] rfl (by decide +kernel)
set_option maxRecDepth 20000 in
theorem gX13_onResource_X13_give : GoodIn wsX13_onResource (wsV RX13 159 RX13 yX13_give wsX13_give) := goodIn_app (goodIn_of _ (by decide +kernel)) ggX13_onResource_X13_give
set_option maxRecDepth 20000 in
theorem ggX13_onResource_X13_before : GoodIn wsX13_onResource wsX13_before := goodIn_r _ [84, 64, 65, 7, 66] rfl (by decide +kernel)
set_option maxRecDepth 20000 in
theorem gX13_onResource_X13_before : GoodIn wsX13_onResource (va_wsS RX13 147 yX13_before wsX13_before) := goodIn_app (goodIn_of _ (by decide +kernel)) ggX13_onResource_X13_before
set_option maxRecDepth 20000 in
theorem ggX13_onResource_X13_push : GoodIn wsX13_onResource wsX13_push := goodIn_r _ [78, 4, 20, 19, 21, 23, 79, 80, 7, 81, 64, 65, 66, 67, 68, 69, 70, 25, 26, 27, 28, 85, 86, 87, 88, 89, 90, 91, 92, 93, 94, 95, 96, 97, 98, 99, 100, 101, 102, 103, 104, 105, 106] rfl (by decide +kernel)
set_option maxRecDepth 20000 in
theorem gX13_onResource_X13_push : GoodIn wsX13_onResource (wsV RX13 95 RX13 yX13_push wsX13_push) := goodIn_app (goodIn_of _ (by decide +kernel)) ggX13_onResource_X13_push
set_option maxRecDepth 20000 in
theorem ggX13_onVector_X13_take_ : GoodIn wsX13_onVector wsX13_take_ := goodIn_r _ [10, 5, 11, 12, 13, 14, 9, 15, 16, 17, 18, 4, 19, 20, 21, 22, 23, 24, 90, 91, 92, 93, 94, 95, 96, 97, 98, 99, 100, 101, 102, 103, 104, 105, 106, 107, 108, 109, 110, 111] rfl (by decide +kernel)
set_option maxRecDepth 20000 in
theorem gX13_onVector_X13_take_ : GoodIn wsX13_onVector (wsV RX13 133 RX13 yX13_take_ wsX13_take_) := goodIn_app (goodIn_of _ (by decide +kernel)) ggX13_onVector_X13_take_
set_option maxRecDepth 20000 in
theorem ggX13_onVector_X13_give : GoodIn wsX13_onVector wsX13_give := goodIn_r _ [28, 29, 30, 31, 9, 32, 5, 17, 16, 18, 19, 33, 34, 35, 36, 37, 38, 39, 40, 41, 42, 21, 22, 23, 24, 90, 91, 92, 93, 94, 95, 96, 97, 98, 99, 100, 101, 102, 103, 104, 105, 106, 107, 108, 109, 110, 111] rfl (by decide +kernel)
set_option maxRecDepth 20000 in
theorem gX13_onVector_X13_give : GoodIn wsX13_onVector (wsV RX13 159 RX13 yX13_give wsX13_give) := goodIn_app (goodIn_of _ (by decide +kernel)) ggX13_onVector_X13_give
set_option maxRecDepth 20000 in
theorem ggX13_onVector_X16_element : GoodIn wsX13_onVector wsX16_element := goodIn_r _ [47, 48, 49, 50, 51, 46, 52, 53, 54, 55, 56, 57, 58, 59, 60, 61, 62, 63, 112, 113, 114, 115, 116, 117, 118, 119, 120, 121, 122, 123, 124, 125, 126, 127, 128, 129] rfl (by decide +kernel)
set_option maxRecDepth 20000 in
theorem gX13_onVector_X16_element : GoodIn wsX13_onVector (wsV RX13 189 RX16 yX16_element wsX16_element) := goodIn_app (goodIn_of _ (by decide +kernel)) ggX13_onVector_X16_element
set_option maxRecDepth 20000 in
theorem ggX13_onVector_X13_before : GoodIn wsX13_onVector wsX13_before := goodIn_r _ [66, 36, 37, 9, 38] rfl (by decide +kernel)
set_option maxRecDepth 20000 in
theorem gX13_onVector_X13_before : GoodIn wsX13_onVector (va_wsS RX13 147 yX13_before wsX13_before) := goodIn_app (goodIn_of _ (by decide +kernel)) ggX13_onVector_X13_before
set_option maxRecDepth 20000 in
theorem ggX13_onVector_X13_takeReference : GoodIn wsX13_onVector wsX13_takeReference := goodIn_r _ [70, 5, 11, 12, 13, 14, 9, 15, 16, 17, 18, 4, 19, 20, 21, 22, 23, 24, 33, 34, 35, 36, 37, 38, 39, 40, 41, 42, 71, 72, 73, 74, 75, 76, 77, 78, 79, 80, 90, 91, 92, 93, 94, 95, 96, 97, 98, 99, 100, 101, 102, 103, 104, 105, 106, 107, 108, 109, 110, 111] rfl (by decide +kernel)
set_option maxRecDepth 20000 in
theorem gX13_onVector_X13_takeReference : GoodIn wsX13_onVector (wsV RX13 155 RX13 yX13_takeReference wsX13_takeReference) := goodIn_app (goodIn_of _ (by decide +kernel)) ggX13_onVector_X13_takeReference
set_option maxRecDepth 20000 in
theorem ggX13_onVector_X13_isSole : GoodIn wsX13_onVector wsX13_isSole := goodIn_r _ [84, 16, 18, 17, 19, 85, 86, 87, 88, 89, 78, 79, 9, 80, 36, 37, 38, 39, 40, 41, 42, 90, 91, 92, 93, 94, 95, 96, 97, 98, 99, 100, 101, 102, 103, 104, 105, 106, 107, 108, 109, 110, 111] rfl (by decide +kernel)
set_option maxRecDepth 20000 in
theorem gX13_onVector_X13_isSole : GoodIn wsX13_onVector (wsV RX13 162 RX13 yX13_isSole wsX13_isSole) := goodIn_app (goodIn_of _ (by decide +kernel)) ggX13_onVector_X13_isSole
set_option maxRecDepth 20000 in
theorem ggX13_onVector_X13_need : GoodIn wsX13_onVector wsX13_need := goodIn_r _ [77, 21, 22, 23, 9, 24, 5, 90, 91, 92, 93, 94, 95, 96, 97, 98, 99, 100, 101, 102, 103, 104, 105, 106, 107, 108, 109, 110, 111] rfl (by decide +kernel)
set_option maxRecDepth 20000 in
theorem gX13_onVector_X13_need : GoodIn wsX13_onVector (wsV RX13 117 RX13 yX13_need wsX13_need) := goodIn_app (goodIn_of _ (by decide +kernel)) ggX13_onVector_X13_need
set_option maxRecDepth 20000 in
theorem ggX13_onVector_X13_push : GoodIn wsX13_onVector wsX13_push := goodIn_r _ [32, 5, 17, 16, 18, 19, 33, 34, 9, 35, 36, 37, 38, 39, 40, 41, 42, 21, 22, 23, 24, 90, 91, 92, 93, 94, 95, 96, 97, 98, 99, 100, 101, 102, 103, 104, 105, 106, 107, 108, 109, 110, 111] rfl (by decide +kernel)
set_option maxRecDepth 20000 in
theorem gX13_onVector_X13_push : GoodIn wsX13_onVector (wsV RX13 95 RX13 yX13_push wsX13_push) := goodIn_app (goodIn_of _ (by decide +kernel)) ggX13_onVector_X13_push
set_option maxRecDepth 20000 in
theorem ggX13_giveBack_X16_many : GoodIn wsX13_giveBack wsX16_many := goodIn_r _ [15, 16, 17, 18, 19, 14, 20, 21, 22, 23, 24, 25, 26, 27, 28, 29, 30, 31, 32, 33, 34, 35, 36, 37, 38, 39, 40, 105, 106, 107, 108, 109, 110, 111, 112, 113, 114, 115, 116, 117, 118, 119, 120, 121, 122] rfl (by decide +kernel)
set_option maxRecDepth 20000 in
theorem gX13_giveBack_X16_many : GoodIn wsX13_giveBack (wsV RX13 165 RX16 yX16_many wsX16_many) := goodIn_app (goodIn_of _ (by decide +kernel)) ggX13_giveBack_X16_many
set_option maxRecDepth 20000 in
theorem ggX13_giveBack_X16_listed : GoodIn wsX13_giveBack wsX16_listed := goodIn_r _ [44, 17, 18, 19, 14, 20, 16, 21, 22, 23, 24, 25, 26, 27, 28, 29, 30, 31, 32, 33, 34, 35, 36, 37, 38, 39, 40, 45, 46, 47, 48, 49, 105, 106, 107, 108, 109, 110, 111, 112, 113, 114, 115, 116, 117, 118, 119, 120, 121, 122] rfl (by decide +kernel)
set_option maxRecDepth 20000 in
theorem gX13_giveBack_X16_listed : GoodIn wsX13_giveBack (wsV RX13 169 RX16 yX16_listed wsX16_listed) := goodIn_app (goodIn_of _ (by decide +kernel)) ggX13_giveBack_X16_listed
set_option maxRecDepth 20000 in
theorem ggX13_giveBack_X13_need : GoodIn wsX13_giveBack wsX13_need := goodIn_r _ [54, 55, 56, 57, 53, 58, 5, 83, 84, 85, 86, 87, 88, 89, 90, 91, 92, 93, 94, 95, 96, 97, 98, 99, 100, 101, 102, 103, 104] rfl (by decide +kernel)
set_option maxRecDepth 20000 in
theorem gX13_giveBack_X13_need : GoodIn wsX13_giveBack (wsV RX13 117 RX13 yX13_need wsX13_need) := goodIn_app (goodIn_of _ (by decide +kernel)) ggX13_giveBack_X13_need
set_option maxRecDepth 20000 in
theorem ggX13_giveBack_X13_has : GoodIn wsX13_giveBack wsX13_has := goodIn_r _ [62, 63, 64, 65, 53, 66, 2, 67, 68, 69, 70, 71, 72, 73, 74, 75, 76, 77, 78, 79, 14, 80, 81, 82, 31, 32, 33, 34, 35, 36, 83, 84, 85, 86, 87, 88, 89, 90, 91, 92, 93, 94, 95, 96, 97, 98, 99, 100, 101, 102, 103, 104, 105, 106, 107, 108, 109, 110, 111, 112, 113, 114, 115, 116, 117, 118, 119, 120, 121, 122] rfl (by decide +kernel)
set_option maxRecDepth 20000 in
theorem gX13_giveBack_X13_has : GoodIn wsX13_giveBack (wsV RX13 139 RX13 yX13_has wsX13_has) := goodIn_app (goodIn_of _ (by decide +kernel)) ggX13_giveBack_X13_has
set_option maxRecDepth 20000 in
theorem ggX13_operate_X13_take : GoodIn wsX13_operate wsX13_take := goodIn_r _ [10, 1, 3, 11, 2, 12, 13, 14, 15, 16, 17, 18, 9, 19, 191, 192, 193, 194, 195, 196, 197, 198, 199, 200, 201, 202, 203, 204, 205, 206, 207, 208, 209, 210, 211, 212] rfl (by decide +kernel)
set_option maxRecDepth 20000 in
theorem gX13_operate_X13_take : GoodIn wsX13_operate (wsV RX13 110 RX13 yX13_take wsX13_take) := goodIn_app (goodIn_of _ (by decide +kernel)) ggX13_operate_X13_take
set_option maxRecDepth 20000 in
theorem ggX13_operate_X13_has : GoodIn wsX13_operate wsX13_has := goodIn_r _ [23, 24, 25, 26, 9, 27, 28, 29, 30, 31, 32, 33, 34, 35, 36, 37, 38, 39, 40, 41, 42, 43, 44, 45, 46, 47, 48, 49, 50, 51, 191, 192, 193, 194, 195, 196, 197, 198, 199, 200, 201, 202, 203, 204, 205, 206, 207, 208, 209, 210, 211, 212, 213, 214, 215, 216, 217, 218, 219, 220, 221, 222, 223, 224, 225, 226, 227, 228, 229, 230] rfl (by decide +kernel)
set_option maxRecDepth 20000 in
theorem gX13_operate_X13_has : GoodIn wsX13_operate (wsV RX13 139 RX13 yX13_has wsX13_has) := goodIn_app (goodIn_of _ (by decide +kernel)) ggX13_operate_X13_has
set_option maxRecDepth 20000 in
theorem ggX13_operate_X13_need : GoodIn wsX13_operate wsX13_need := goodIn_r _ [55, 16, 17, 18, 9, 19, 1, 191, 192, 193, 194, 195, 196, 197, 198, 199, 200, 201, 202, 203, 204, 205, 206, 207, 208, 209, 210, 211, 212] rfl (by decide +kernel)
set_option maxRecDepth 20000 in
theorem gX13_operate_X13_need : GoodIn wsX13_operate (wsV RX13 117 RX13 yX13_need wsX13_need) := goodIn_app (goodIn_of _ (by decide +kernel)) ggX13_operate_X13_need
set_option maxRecDepth 20000 in
theorem ggX13_operate_X13_giveBack : GoodIn wsX13_operate wsX13_giveBack := goodIn_r _ [59, 3, 28, 60, 11, 1, 12, 61, 62, 63, 64, 65, 66, 67, 42, 68, 69, 70, 71, 72, 73, 74, 75, 76, 77, 78, 79, 80, 81, 82, 83, 46, 47, 48, 49, 50, 51, 84, 85, 86, 87, 88, 89, 90, 91, 92, 93, 94, 95, 96, 52, 53, 54, 9, 55, 16, 17, 18, 19, 20, 21, 22, 23, 24, 25, 26, 27, 29, 30, 31, 32, 33, 34, 35, 36, 37, 38, 39, 40, 41, 43, 44, 45, 191, 192, 193, 194, 195, 196, 197, 198, 199, 200, 201, 202, 203, 204, 205, 206, 207, 208, 209, 210, 211, 212, 213, 214, 215, 216, 217, 218, 219, 220, 221, 222, 223, 224, 225, 226, 227, 228, 229, 230] rfl (by decide +kernel)
set_option maxRecDepth 20000 in
theorem gX13_operate_X13_giveBack : GoodIn wsX13_operate (wsV RX13 194 RX13 yX13_giveBack wsX13_giveBack) := goodIn_app (goodIn_of _ (by decide +kernel)) ggX13_operate_X13_giveBack
set_option maxRecDepth 20000 in
theorem ggX13_operate_X13_take_ : GoodIn wsX13_operate wsX13_take_ := goodIn_r _ [100, 1, 2, 6, 7, 8, 9, 10, 3, 11, 12, 13, 14, 15, 16, 17, 18, 19, 191, 192, 193, 194, 195, 196, 197, 198, 199, 200, 201, 202, 203, 204, 205, 206, 207, 208, 209, 210, 211, 212] rfl (by decide +kernel)
set_option maxRecDepth 20000 in
theorem gX13_operate_X13_take_ : GoodIn wsX13_operate (wsV RX13 133 RX13 yX13_take_ wsX13_take_) := goodIn_app (goodIn_of _ (by decide +kernel)) ggX13_operate_X13_take_
set_option maxRecDepth 20000 in
theorem ggX13_operate_X13_give : GoodIn wsX13_operate wsX13_give := goodIn_r _ [104, 105, 106, 107, 9, 108, 1, 11, 3, 12, 14, 29, 30, 31, 32, 33, 34, 35, 36, 37, 38, 16, 17, 18, 19, 191, 192, 193, 194, 195, 196, 197, 198, 199, 200, 201, 202, 203, 204, 205, 206, 207, 208, 209, 210, 211, 212] rfl (by decide +kernel)
set_option maxRecDepth 20000 in
theorem gX13_operate_X13_give : GoodIn wsX13_operate (wsV RX13 159 RX13 yX13_give wsX13_give) := goodIn_app (goodIn_of _ (by decide +kernel)) ggX13_operate_X13_give
set_option maxRecDepth 20000 in
theorem ggX13_operate_X13_onLocal : GoodIn wsX13_operate wsX13_onLocal := goodIn_r _ [112, 64, 63, 1, 113, 13, 114, 15, 29, 30, 9, 31, 32, 33, 34, 35, 36, 37, 38, 97, 98, 99, 100, 2, 6, 7, 8, 10, 3, 11, 12, 14, 16, 17, 18, 19, 20, 21, 22, 23, 24, 25, 26, 27, 28, 39, 40, 41, 42, 43, 44, 45, 46, 47, 48, 49, 50, 51, 52, 53, 54, 55, 115, 116, 117, 118, 62, 119, 120, 121, 105, 106, 107, 108, 122, 123, 124, 191, 192, 193, 194, 195, 196, 197, 198, 199, 200, 201, 202, 203, 204, 205, 206, 207, 208, 209, 210, 211, 212, 213, 214, 215, 216, 217, 218, 219, 220, 221, 222, 223, 224, 225, 226, 227, 228, 229, 230] rfl (by decide +kernel)
set_option maxRecDepth 20000 in
theorem gX13_operate_X13_onLocal : GoodIn wsX13_operate (wsV RX13 197 RX13 yX13_onLocal wsX13_onLocal) := goodIn_app (goodIn_of _ (by decide +kernel)) ggX13_operate_X13_onLocal
set_option maxRecDepth 20000 in
theorem ggX13_operate_X13_onReference : GoodIn wsX13_operate wsX13_onReference := goodIn_r _ [128, 1, 28, 13, 2, 15, 129, 130, 9, 131, 132, 133, 134, 135, 136, 6, 7, 8, 10, 3, 11, 12, 14, 16, 17, 18, 19, 29, 30, 31, 32, 33, 34, 35, 36, 37, 38, 137, 138, 139, 52, 53, 54, 55, 119, 120, 121, 140, 141, 142, 42, 143, 44, 84, 85, 86, 87, 46, 47, 48, 49, 50, 51, 92, 93, 94, 95, 96, 122, 123, 124, 105, 106, 107, 108, 20, 21, 22, 23, 24, 25, 26, 27, 39, 40, 41, 43, 45, 101, 102, 103, 104, 97, 98, 99, 100, 144, 145, 146, 147, 62, 63, 113, 64, 114, 191, 192, 193, 194, 195, 196, 197, 198, 199, 200, 201, 202, 203, 204, 205, 206, 207, 208, 209, 210, 211, 212, 213, 214, 215, 216, 217, 218, 219, 220, 221, 222, 223, 224, 225, 226, 227, 228, 229, 230] rfl (by decide +kernel)
set_option maxRecDepth 20000 in
theorem gX13_operate_X13_onReference : GoodIn wsX13_operate (wsV RX13 201 RX13 yX13_onReference wsX13_onReference) := goodIn_app (goodIn_of _ (by decide +kernel)) ggX13_operate_X13_onReference
set_option maxRecDepth 20000 in
theorem ggX13_operate_X13_pack : GoodIn wsX13_operate wsX13_pack := goodIn_r _ [151, 28, 129, 130, 9, 131, 132, 97, 98, 99, 100, 1, 2, 6, 7, 8, 10, 3, 11, 12, 13, 14, 15, 16, 17, 18, 19, 152, 42, 153, 154, 44, 46, 47, 48, 49, 50, 51, 140, 141, 142, 143, 84, 85, 86, 87, 92, 93, 94, 95, 96, 101, 102, 103, 104, 105, 106, 107, 108, 29, 30, 31, 32, 33, 34, 35, 36, 37, 38, 191, 192, 193, 194, 195, 196, 197, 198, 199, 200, 201, 202, 203, 204, 205, 206, 207, 208, 209, 210, 211, 212, 213, 214, 215, 216, 217, 218, 219, 220, 221, 222, 223, 224, 225, 226, 227, 228, 229, 230] rfl (by decide +kernel)
set_option maxRecDepth 20000 in
theorem gX13_operate_X13_pack : GoodIn wsX13_operate (wsV RX13 205 RX13 yX13_pack wsX13_pack) := goodIn_app (goodIn_of _ (by decide +kernel)) ggX13_operate_X13_pack
set_option maxRecDepth 20000 in
theorem ggX13_operate_X13_call : GoodIn wsX13_operate wsX13_call := goodIn_r _ [158, 28, 3, 1, 60, 12, 11, 65, 66, 67, 42, 68, 69, 70, 71, 72, 73, 74, 75, 76, 77, 78, 79, 80, 81, 82, 83, 46, 47, 48, 49, 50, 51, 84, 85, 86, 87, 88, 89, 90, 91, 92, 93, 94, 95, 96, 97, 98, 99, 9, 100, 2, 6, 7, 8, 10, 13, 14, 15, 16, 17, 18, 19, 159, 160, 161, 162, 52, 53, 54, 55, 119, 120, 121, 32, 33, 34, 35, 36, 37, 38, 144, 145, 146, 147, 62, 63, 113, 64, 114, 115, 116, 117, 118, 105, 106, 107, 108, 29, 30, 31, 191, 192, 193, 194, 195, 196, 197, 198, 199, 200, 201, 202, 203, 204, 205, 206, 207, 208, 209, 210, 211, 212, 213, 214, 215, 216, 217, 218, 219, 220, 221, 222, 223, 224, 225, 226, 227, 228, 229, 230] rfl (by decide +kernel)
set_option maxRecDepth 20000 in
theorem gX13_operate_X13_call : GoodIn wsX13_operate (wsV RX13 208 RX13 yX13_call wsX13_call) := goodIn_app (goodIn_of _ (by decide +kernel)) ggX13_operate_X13_call
set_option maxRecDepth 20000 in
theorem ggX13_operate_X13_onNumbers : GoodIn wsX13_operate wsX13_onNumbers := goodIn_r _ [166, 2, 167, 1, 168, 169, 170, 171, 9, 172, 6, 7, 8, 10, 3, 11, 12, 13, 14, 15, 16, 17, 18, 19, 173, 174, 175, 4, 176, 52, 53, 54, 55, 97, 98, 99, 100, 101, 102, 103, 104, 105, 106, 107, 108, 29, 30, 31, 32, 33, 34, 35, 36, 37, 38, 20, 21, 22, 23, 24, 25, 26, 27, 28, 39, 40, 41, 42, 43, 44, 45, 46, 47, 48, 49, 50, 51, 191, 192, 193, 194, 195, 196, 197, 198, 199, 200, 201, 202, 203, 204, 205, 206, 207, 208, 209, 210, 211, 212, 213, 214, 215, 216, 217, 218, 219, 220, 221, 222, 223, 224, 225, 226, 227, 228, 229, 230] rfl (by decide +kernel)
set_option maxRecDepth 20000 in
theorem gX13_operate_X13_onNumbers : GoodIn wsX13_operate (wsV RX13 211 RX13 yX13_onNumbers wsX13_onNumbers) := goodIn_app (goodIn_of _ (by decide +kernel)) ggX13_operate_X13_onNumbers
set_option maxRecDepth 20000 in
theorem ggX13_operate_X13_onResource : GoodIn wsX13_operate wsX13_onResource := goodIn_r _ [180, 5, 28, 60, 1, 129, 130, 9, 131, 132, 97, 98, 99, 100, 2, 6, 7, 8, 10, 3, 11, 12, 13, 14, 15, 16, 17, 18, 19, 159, 160, 161, 42, 162, 69, 79, 74, 46, 47, 48, 49, 50, 51, 52, 53, 54, 55, 39, 40, 41, 43, 44, 45, 115, 116, 117, 118, 62, 63, 113, 64, 119, 120, 121, 32, 33, 34, 35, 36, 37, 38, 101, 102, 103, 104, 105, 106, 107, 108, 29, 30, 31, 122, 123, 124, 191, 192, 193, 194, 195, 196, 197, 198, 199, 200, 201, 202, 203, 204, 205, 206, 207, 208, 209, 210, 211, 212, 213, 214, 215, 216, 217, 218, 219, 220, 221, 222, 223, 224, 225, 226, 227, 228, 229, 230] rfl (by decide +kernel)
set_option maxRecDepth 20000 in
theorem gX13_operate_X13_onResource : GoodIn wsX13_operate (wsV RX13 214 RX13 yX13_onResource wsX13_onResource) := goodIn_app (goodIn_of _ (by decide +kernel)) ggX13_operate_X13_onResource
set_option maxRecDepth 20000 in
theorem ggX13_operate_X13_onVector : GoodIn wsX13_operate wsX13_onVector := goodIn_r _ [184, 185, 28, 4, 13, 1, 97, 98, 99, 9, 100, 2, 6, 7, 8, 10, 3, 11, 12, 14, 15, 16, 17, 18, 19, 101, 102, 103, 104, 105, 106, 107, 108, 29, 30, 31, 32, 33, 34, 35, 36, 37, 38, 186, 187, 188, 42, 189, 190, 92, 93, 94, 95, 96, 84, 85, 86, 87, 46, 47, 48, 49, 50, 51, 122, 123, 124, 133, 134, 135, 136, 137, 138, 139, 52, 53, 54, 55, 119, 120, 121, 144, 145, 146, 147, 62, 63, 113, 64, 114, 191, 192, 193, 194, 195, 196, 197, 198, 199, 200, 201, 202, 203, 204, 205, 206, 207, 208, 209, 210, 211, 212, 213, 214, 215, 216, 217, 218, 219, 220, 221, 222, 223, 224, 225, 226, 227, 228, 229, 230] rfl (by decide +kernel)
set_option maxRecDepth 20000 in
theorem gX13_operate_X13_onVector : GoodIn wsX13_operate (wsV RX13 217 RX13 yX13_onVector wsX13_onVector) := goodIn_app (goodIn_of _ (by decide +kernel)) ggX13_operate_X13_onVector
set_option maxRecDepth 20000 in
theorem ggX13_pack_X13_structureType : GoodIn wsX13_pack wsX13_structureType := goodIn_r _ [5, 6] rfl (by decide +kernel)
set_option maxRecDepth 20000 in
theorem gX13_pack_X13_structureType : GoodIn wsX13_pack (va_wsS RX13 151 yX13_structureType wsX13_structureType) := goodIn_app (goodIn_of _ (by decide +kernel)) ggX13_pack_X13_structureType
set_option maxRecDepth 20000 in
theorem ggX13_pack_X13_take_ : GoodIn wsX13_pack wsX13_take_ := goodIn_r _ [10, 11, 12, 13, 14, 15, 4, 16, 17, 18, 19, 20, 21, 22, 23, 24, 25, 26, 69, 70, 71, 72, 73, 74, 75, 76, 77, 78, 79, 80, 81, 82, 83, 84, 85, 86, 87, 88, 89, 90] rfl (by decide +kernel)
set_option maxRecDepth 20000 in
theorem gX13_pack_X13_take_ : GoodIn wsX13_pack (wsV RX13 133 RX13 yX13_take_ wsX13_take_) := goodIn_app (goodIn_of _ (by decide +kernel)) ggX13_pack_X13_take_
set_option maxRecDepth 20000 in
theorem ggX13_pack_X16_fieldsOf : GoodIn wsX13_pack wsX16_fieldsOf := goodIn_r _ [30, 31, 32, 33, 34, 28, 35, 36, 37, 91, 92, 93, 94, 95, 96, 97, 98, 99, 100, 101, 102, 103, 104, 105, 106, 107, 108] rfl (by decide +kernel)
set_option maxRecDepth 20000 in
theorem ggX13_pack_X16_field : GoodIn wsX13_pack wsX16_field := goodIn_r _ [41, 31, 42, 43, 44, 28, 45, 32, 33, 34, 35, 36, 37, 46, 47, 48, 49, 50, 91, 92, 93, 94, 95, 96, 97, 98, 99, 100, 101, 102, 103, 104, 105, 106, 107, 108] rfl (by decide +kernel)
set_option maxRecDepth 20000 in
theorem gX13_pack_X16_field : GoodIn wsX13_pack (wsV RX13 88 RX16 yX16_field wsX16_field) := goodIn_app (goodIn_of _ (by decide +kernel)) ggX13_pack_X16_field
set_option maxRecDepth 20000 in
theorem ggX13_pack_X13_give : GoodIn wsX13_pack wsX13_give := goodIn_r _ [54, 55, 56, 57, 4, 58, 11, 18, 17, 19, 21, 59, 60, 61, 62, 63, 64, 65, 66, 67, 68, 23, 24, 25, 26, 69, 70, 71, 72, 73, 74, 75, 76, 77, 78, 79, 80, 81, 82, 83, 84, 85, 86, 87, 88, 89, 90] rfl (by decide +kernel)
set_option maxRecDepth 20000 in
theorem gX13_pack_X13_give : GoodIn wsX13_pack (wsV RX13 159 RX13 yX13_give wsX13_give) := goodIn_app (goodIn_of _ (by decide +kernel)) ggX13_pack_X13_give
set_option maxRecDepth 20000 in
theorem ggX13_come_X13_meet : GoodIn wsX13_come wsX13_meet := goodIn_r _ [14, 4, 5, 15, 6, 7, 8, 9, 16, 17, 18, 13, 19, 20, 21, 22, 23, 24, 25, 26, 27, 28, 29, 30, 31, 32, 33, 34, 35, 36, 37, 38, 39, 40, 41, 42, 43, 44, 45, 46, 47, 48, 49, 50, 51, 52, 53, 54, 55, 1, 61, 62, 63, 64, 65, 66, 67, 68, 69, 70, 71, 72, 73, 74, 75, 76, 77, 78, 79, 80, 81, 82, 83, 84, 85, 86, 87, 88, 89, 90, 91, 92, 93, 94, 95, 96, 97, 98, 99, 100] rfl (by decide +kernel)
set_option maxRecDepth 20000 in
theorem gX13_come_X13_meet : GoodIn wsX13_come (wsV RX13 220 RX13 yX13_meet wsX13_meet) := goodIn_app (goodIn_of _ (by decide +kernel)) ggX13_come_X13_meet
set_option maxRecDepth 20000 in
theorem ggX13_come_X13_back : GoodIn wsX13_come wsX13_back := goodIn_r _ [59, 4, 5, 7, 6, 60, 9, 8, 15, 48, 49, 50, 13, 51, 52, 53, 54, 55, 1, 16, 17, 18, 19, 20, 21, 22, 23, 24, 25, 26, 27, 28, 29, 30, 31, 32, 33, 34, 35, 36, 37, 38, 39, 40, 41, 42, 43, 44, 45, 46, 47, 61, 62, 63, 64, 65, 66, 67, 68, 69, 70, 71, 72, 73, 74, 75, 76, 77, 78, 79, 80, 81, 82, 83, 84, 85, 86, 87, 88, 89, 90, 91, 92, 93, 94, 95, 96, 97, 98, 99, 100] rfl (by decide +kernel)
set_option maxRecDepth 20000 in
theorem gX13_come_X13_back : GoodIn wsX13_come (wsV RX13 223 RX13 yX13_back wsX13_back) := goodIn_app (goodIn_of _ (by decide +kernel)) ggX13_come_X13_back
set_option maxRecDepth 20000 in
theorem ggX13_meet_X13_has : GoodIn wsX13_meet wsX13_has := goodIn_r _ [12, 13, 14, 15, 11, 16, 17, 18, 19, 20, 21, 22, 23, 24, 25, 26, 27, 28, 29, 30, 31, 32, 33, 34, 35, 36, 37, 38, 39, 40, 50, 51, 52, 53, 54, 55, 56, 57, 58, 59, 60, 61, 62, 63, 64, 65, 66, 67, 68, 69, 70, 71, 72, 73, 74, 75, 76, 77, 78, 79, 80, 81, 82, 83, 84, 85, 86, 87, 88, 89] rfl (by decide +kernel)
set_option maxRecDepth 20000 in
theorem gX13_meet_X13_has : GoodIn wsX13_meet (wsV RX13 139 RX13 yX13_has wsX13_has) := goodIn_app (goodIn_of _ (by decide +kernel)) ggX13_meet_X13_has
set_option maxRecDepth 20000 in
theorem ggX13_meet_X13_need : GoodIn wsX13_meet wsX13_need := goodIn_r _ [44, 45, 46, 47, 11, 48, 49, 50, 51, 52, 53, 54, 55, 56, 57, 58, 59, 60, 61, 62, 63, 64, 65, 66, 67, 68, 69, 70, 71] rfl (by decide +kernel)
set_option maxRecDepth 20000 in
theorem gX13_meet_X13_need : GoodIn wsX13_meet (wsV RX13 117 RX13 yX13_need wsX13_need) := goodIn_app (goodIn_of _ (by decide +kernel)) ggX13_meet_X13_need
set_option maxRecDepth 20000 in
theorem ggX13_back_X13_need : GoodIn wsX13_back wsX13_need := goodIn_r _ [13, 14, 15, 16, 12, 17, 18, 51, 52, 53, 54, 55, 56, 57, 58, 59, 60, 61, 62, 63, 64, 65, 66, 67, 68, 69, 70, 71, 72] rfl (by decide +kernel)
set_option maxRecDepth 20000 in
theorem gX13_back_X13_need : GoodIn wsX13_back (wsV RX13 117 RX13 yX13_need wsX13_need) := goodIn_app (goodIn_of _ (by decide +kernel)) ggX13_back_X13_need
set_option maxRecDepth 20000 in
theorem ggX13_back_X13_has : GoodIn wsX13_back wsX13_has := goodIn_r _ [22, 23, 24, 25, 12, 26, 27, 28, 29, 30, 31, 32, 33, 34, 35, 36, 37, 38, 39, 40, 41, 42, 43, 44, 45, 46, 47, 48, 49, 50, 51, 52, 53, 54, 55, 56, 57, 58, 59, 60, 61, 62, 63, 64, 65, 66, 67, 68, 69, 70, 71, 72, 73, 74, 75, 76, 77, 78, 79, 80, 81, 82, 83, 84, 85, 86, 87, 88, 89, 90] rfl (by decide +kernel)
set_option maxRecDepth 20000 in
theorem gX13_back_X13_has : GoodIn wsX13_back (wsV RX13 139 RX13 yX13_has wsX13_has) := goodIn_app (goodIn_of _ (by decide +kernel)) ggX13_back_X13_has
set_option maxRecDepth 20000 in
theorem ggX13_begin_X16_instructions : GoodIn wsX13_begin wsX16_instructions := goodIn_r _ [17, 18, 106, 107, 108, 109, 110, 111, 112, 113, 114, 115, 116, 117, 118, 119, 120, 121, 122, 123] rfl (by decide +kernel)
set_option maxRecDepth 20000 in
theorem gX13_begin_X16_instructions : GoodIn wsX13_begin (wsV RX13 228 RX16 yX16_instructions wsX16_instructions) := goodIn_app (goodIn_of _ (by decide +kernel)) ggX13_begin_X16_instructions
set_option maxRecDepth 20000 in
theorem ggX13_begin_X16_many : GoodIn wsX13_begin wsX16_many := goodIn_r _ [22, 23, 24, 25, 26, 16, 27, 28, 29, 30, 31, 32, 33, 34, 35, 36, 37, 38, 39, 40, 41, 42, 43, 44, 45, 46, 47, 106, 107, 108, 109, 110, 111, 112, 113, 114, 115, 116, 117, 118, 119, 120, 121, 122, 123] rfl (by decide +kernel)
set_option maxRecDepth 20000 in
theorem gX13_begin_X16_many : GoodIn wsX13_begin (wsV RX13 165 RX16 yX16_many wsX16_many) := goodIn_app (goodIn_of _ (by decide +kernel)) ggX13_begin_X16_many
set_option maxRecDepth 20000 in
theorem ggX13_begin_X16_listed : GoodIn wsX13_begin wsX16_listed := goodIn_r _ [51, 24, 25, 26, 16, 27, 23, 28, 29, 30, 31, 32, 33, 34, 35, 36, 37, 38, 39, 40, 41, 42, 43, 44, 45, 46, 47, 52, 53, 54, 55, 56, 106, 107, 108, 109, 110, 111, 112, 113, 114, 115, 116, 117, 118, 119, 120, 121, 122, 123] rfl (by decide +kernel)
set_option maxRecDepth 20000 in
theorem gX13_begin_X16_listed : GoodIn wsX13_begin (wsV RX13 169 RX16 yX16_listed wsX16_listed) := goodIn_app (goodIn_of _ (by decide +kernel)) ggX13_begin_X16_listed
set_option maxRecDepth 20000 in
theorem ggX13_begin_X16_operation : GoodIn wsX13_begin wsX16_operation := goodIn_r _ [60, 61, 18, 38, 39, 40, 16, 41, 42, 43, 106, 107, 108, 109, 110, 111, 112, 113, 114, 115, 116, 117, 118, 119, 120, 121, 122, 123] rfl (by decide +kernel)
set_option maxRecDepth 20000 in
theorem gX13_begin_X16_operation : GoodIn wsX13_begin (wsV RX13 233 RX16 yX16_operation wsX16_operation) := goodIn_app (goodIn_of _ (by decide +kernel)) ggX13_begin_X16_operation
set_option maxRecDepth 20000 in
theorem ggX13_begin_X16_operand : GoodIn wsX13_begin wsX16_operand := goodIn_r _ [65, 61, 18, 38, 39, 40, 16, 41, 42, 43, 66, 67, 68, 69, 70, 71, 72, 56, 106, 107, 108, 109, 110, 111, 112, 113, 114, 115, 116, 117, 118, 119, 120, 121, 122, 123] rfl (by decide +kernel)
set_option maxRecDepth 20000 in
theorem gX13_begin_X16_operand : GoodIn wsX13_begin (wsV RX13 236 RX16 yX16_operand wsX16_operand) := goodIn_app (goodIn_of _ (by decide +kernel)) ggX13_begin_X16_operand
set_option maxRecDepth 20000 in
theorem ggX13_begin_X13_isReference : GoodIn wsX13_begin wsX13_isReference := goodIn_r _ [76, 77, 78, 75, 79, 80, 81, 82, 83] rfl (by decide +kernel)
set_option maxRecDepth 20000 in
theorem gX13_begin_X13_isReference : GoodIn wsX13_begin (va_wsS RX13 68 yX13_isReference wsX13_isReference) := goodIn_app (goodIn_of _ (by decide +kernel)) ggX13_begin_X13_isReference
set_option maxRecDepth 20000 in
theorem ggX13_look_X13_need : GoodIn wsX13_look wsX13_need := goodIn_r _ [19, 20, 21, 22, 18, 23, 4, 231, 232, 233, 234, 235, 236, 237, 238, 239, 240, 241, 242, 243, 244, 245, 246, 247, 248, 249, 250, 251, 252] rfl (by decide +kernel)
set_option maxRecDepth 20000 in
theorem gX13_look_X13_need : GoodIn wsX13_look (wsV RX13 117 RX13 yX13_need wsX13_need) := goodIn_app (goodIn_of _ (by decide +kernel)) ggX13_look_X13_need
set_option maxRecDepth 20000 in
theorem ggX13_look_X16_operation : GoodIn wsX13_look wsX16_operation := goodIn_r _ [28, 29, 30, 31, 32, 33, 27, 34, 35, 36, 253, 254, 255, 256, 257, 258, 259, 260, 261, 262, 263, 264, 265, 266, 267, 268, 269, 270] rfl (by decide +kernel)
set_option maxRecDepth 20000 in
theorem gX13_look_X16_operation : GoodIn wsX13_look (wsV RX13 233 RX16 yX16_operation wsX16_operation) := goodIn_app (goodIn_of _ (by decide +kernel)) ggX13_look_X16_operation
set_option maxRecDepth 20000 in
theorem ggX13_look_X16_operand : GoodIn wsX13_look wsX16_operand := goodIn_r _ [40, 29, 30, 31, 32, 33, 27, 34, 35, 36, 41, 42, 43, 44, 45, 46, 47, 48, 253, 254, 255, 256, 257, 258, 259, 260, 261, 262, 263, 264, 265, 266, 267, 268, 269, 270] rfl (by decide +kernel)
set_option maxRecDepth 20000 in
theorem gX13_look_X16_operand : GoodIn wsX13_look (wsV RX13 236 RX16 yX16_operand wsX16_operand) := goodIn_app (goodIn_of _ (by decide +kernel)) ggX13_look_X16_operand
set_option maxRecDepth 20000 in
theorem ggX13_look_X13_operate : GoodIn wsX13_look wsX13_operate := goodIn_r _ [52, 4, 53, 3, 54, 55, 56, 57, 58, 18, 59, 60, 61, 62, 63, 64, 20, 21, 22, 23, 65, 66, 67, 68, 69, 70, 71, 72, 12, 73, 74, 75, 76, 77, 78, 79, 80, 81, 82, 83, 84, 85, 27, 86, 87, 88, 31, 32, 33, 34, 35, 36, 15, 16, 17, 19, 89, 90, 91, 92, 13, 93, 5, 6, 94, 95, 96, 97, 98, 99, 100, 101, 102, 103, 104, 105, 106, 107, 108, 109, 110, 111, 112, 113, 114, 115, 116, 117, 118, 119, 120, 121, 122, 123, 124, 125, 48, 126, 127, 128, 129, 130, 131, 132, 133, 134, 135, 136, 137, 138, 139, 140, 141, 8, 10, 142, 143, 144, 145, 146, 147, 148, 149, 150, 151, 152, 153, 154, 155, 156, 157, 158, 159, 160, 161, 162, 163, 164, 165, 166, 167, 168, 169, 170, 171, 172, 173, 174, 175, 176, 177, 178, 179, 180, 181, 182, 183, 184, 185, 186, 187, 188, 189, 190, 191, 192, 193, 194, 195, 196, 197, 198, 199, 200, 201, 202, 203, 204, 205, 206, 207, 208, 209, 210, 211, 212, 213, 214, 215, 216, 217, 231, 232, 233, 234, 235, 236, 237, 238, 239, 240, 241, 242, 243, 244, 245, 246, 247, 248, 249, 250, 251, 252, 253, 254, 255, 256, 257, 258, 259, 260, 261, 262, 263, 264, 265, 266, 267, 268, 269, 270] rfl (by decide +kernel)
set_option maxRecDepth 20000 in
theorem gX13_look_X13_operate : GoodIn wsX13_look (wsV RX13 239 RX13 yX13_operate wsX13_operate) := goodIn_app (goodIn_of _ (by decide +kernel)) ggX13_look_X13_operate
set_option maxRecDepth 20000 in
theorem ggX13_look_X13_come : GoodIn wsX13_look wsX13_come := goodIn_r _ [221, 4, 1, 5, 7, 6, 9, 8, 11, 10, 222, 223, 224, 18, 225, 94, 65, 66, 67, 68, 69, 70, 71, 72, 12, 73, 74, 75, 76, 77, 78, 79, 80, 81, 82, 83, 84, 85, 27, 86, 87, 88, 31, 32, 33, 34, 35, 36, 15, 16, 17, 19, 20, 21, 22, 23, 226, 227, 228, 229, 230, 231, 232, 233, 234, 235, 236, 237, 238, 239, 240, 241, 242, 243, 244, 245, 246, 247, 248, 249, 250, 251, 252, 253, 254, 255, 256, 257, 258, 259, 260, 261, 262, 263, 264, 265, 266, 267, 268, 269, 270] rfl (by decide +kernel)
set_option maxRecDepth 20000 in
theorem gX13_look_X13_come : GoodIn wsX13_look (wsV RX13 242 RX13 yX13_come wsX13_come) := goodIn_app (goodIn_of _ (by decide +kernel)) ggX13_look_X13_come
set_option maxRecDepth 20000 in
theorem ggX13_check_X13_begin : GoodIn wsX13_check wsX13_begin := goodIn_r _ [10, 4, 11, 1, 2, 3, 12, 13, 14, 15, 16, 17, 18, 19, 20, 21, 22, 23, 24, 25, 26, 27, 28, 29, 30, 31, 32, 33, 34, 35, 36, 37, 38, 39, 40, 41, 42, 43, 44, 45, 46, 47, 48, 49, 50, 51, 52, 53, 54, 55, 56, 57, 58, 59, 60, 61, 62, 63, 64, 65, 66, 67, 68, 69, 70, 71, 72, 73, 74, 75, 76, 77, 78, 79, 80, 9, 81, 82, 83, 84, 85, 86, 87, 88, 244, 245, 246, 247, 248, 249, 250, 251, 252, 253, 254, 255, 256, 257, 258, 259, 260, 261, 262, 263, 264, 265, 266, 267, 268, 269, 270, 271, 272, 273, 274, 275, 276, 277, 278, 279, 280, 281, 282, 283] rfl (by decide +kernel)
set_option maxRecDepth 20000 in
theorem gX13_check_X13_begin : GoodIn wsX13_check (wsV RX13 245 RX13 yX13_begin wsX13_begin) := goodIn_app (goodIn_of _ (by decide +kernel)) ggX13_check_X13_begin
set_option maxRecDepth 20000 in
theorem ggX13_check_X13_look : GoodIn wsX13_check wsX13_look := goodIn_r _ [92, 14, 15, 11, 4, 12, 93, 16, 94, 17, 95, 18, 1, 2, 3, 96, 97, 98, 9, 99, 100, 101, 102, 103, 63, 64, 65, 22, 66, 67, 24, 44, 45, 46, 47, 48, 49, 68, 69, 70, 71, 72, 73, 74, 75, 76, 77, 78, 62, 104, 105, 106, 107, 108, 109, 110, 111, 112, 113, 114, 115, 116, 117, 118, 119, 120, 121, 122, 123, 124, 125, 126, 127, 79, 80, 81, 82, 83, 84, 85, 86, 87, 88, 128, 129, 130, 131, 132, 133, 134, 135, 136, 137, 138, 13, 25, 26, 27, 28, 29, 30, 31, 32, 33, 34, 35, 36, 37, 38, 39, 40, 41, 42, 43, 50, 51, 52, 53, 54, 55, 56, 57, 58, 59, 60, 61, 139, 140, 141, 142, 143, 144, 145, 146, 147, 148, 149, 150, 151, 152, 153, 154, 155, 156, 157, 158, 159, 160, 161, 162, 163, 164, 165, 166, 167, 168, 169, 170, 171, 172, 173, 174, 175, 176, 177, 178, 179, 180, 181, 182, 183, 184, 185, 186, 187, 188, 189, 190, 191, 192, 193, 194, 195, 196, 197, 198, 199, 200, 201, 202, 203, 204, 205, 206, 207, 208, 209, 210, 211, 212, 213, 214, 215, 216, 217, 218, 219, 220, 221, 222, 223, 224, 225, 226, 227, 228, 229, 230, 231, 232, 233, 234, 235, 236, 237, 238, 239, 240, 241, 242, 243, 244, 245, 246, 247, 248, 249, 250, 251, 252, 253, 254, 255, 256, 257, 258, 259, 260, 261, 262, 263, 264, 265, 266, 267, 268, 269, 270, 271, 272, 273, 274, 275, 276, 277, 278, 279, 280, 281, 282, 283] rfl (by decide +kernel)
set_option maxRecDepth 20000 in
theorem gX13_check_X13_look : GoodIn wsX13_check (wsV RX13 248 RX13 yX13_look wsX13_look) := goodIn_app (goodIn_of _ (by decide +kernel)) ggX13_check_X13_look
set_option maxRecDepth 20000 in
theorem ggX14_isBehind_X14_order : GoodIn wsX14_isBehind wsX14_order := goodIn_r _ [5, 6] rfl (by decide +kernel)
set_option maxRecDepth 20000 in
theorem gX14_isBehind_X14_order : GoodIn wsX14_isBehind (va_wsS RX14 47 yX14_order wsX14_order) := goodIn_app (goodIn_of _ (by decide +kernel)) ggX14_isBehind_X14_order
set_option maxRecDepth 20000 in
theorem ggX14_isLess_X14_order : GoodIn wsX14_isLess wsX14_order := goodIn_r _ [7, 8] rfl (by decide +kernel)
set_option maxRecDepth 20000 in
theorem gX14_isLess_X14_order : GoodIn wsX14_isLess (va_wsS RX14 47 yX14_order wsX14_order) := goodIn_app (goodIn_of _ (by decide +kernel)) ggX14_isLess_X14_order
set_option maxRecDepth 20000 in
theorem ggX14_put_X14_isBehind : GoodIn wsX14_put wsX14_isBehind := goodIn_r _ [11, 2, 12, 13, 10, 14, 15, 28, 29, 30, 31, 32, 33, 34, 35, 36, 37, 38] rfl (by decide +kernel)
set_option maxRecDepth 20000 in
theorem gX14_put_X14_isBehind : GoodIn wsX14_put (wsV RX14 51 RX14 yX14_isBehind wsX14_isBehind) := goodIn_app (goodIn_of _ (by decide +kernel)) ggX14_put_X14_isBehind
set_option maxRecDepth 20000 in
theorem ggX14_put_X14_isAt : GoodIn wsX14_put wsX14_isAt := goodIn_r _ [19, 2, 28, 29, 30, 31, 32, 33, 34, 35, 36, 37, 38] rfl (by decide +kernel)
set_option maxRecDepth 20000 in
theorem gX14_put_X14_isAt : GoodIn wsX14_put (wsV RX14 55 RX14 yX14_isAt wsX14_isAt) := goodIn_app (goodIn_of _ (by decide +kernel)) ggX14_put_X14_isAt
set_option maxRecDepth 20000 in
theorem ggX14_put_X14_isLess : GoodIn wsX14_put wsX14_isLess := goodIn_r _ [23, 4, 5, 6, 12, 13, 10, 14, 15, 28, 29, 30, 31, 32, 33, 34, 35, 36, 37, 38] rfl (by decide +kernel)
set_option maxRecDepth 20000 in
theorem gX14_put_X14_isLess : GoodIn wsX14_put (wsV RX14 58 RX14 yX14_isLess wsX14_isLess) := goodIn_app (goodIn_of _ (by decide +kernel)) ggX14_put_X14_isLess
set_option maxRecDepth 20000 in
theorem ggX14_put_X14_keep : GoodIn wsX14_put wsX14_keep := goodIn_r _ [27, 2, 3, 4, 5, 6, 28, 29, 30, 31, 32, 33, 34, 35, 36, 37, 38] rfl (by decide +kernel)
set_option maxRecDepth 20000 in
theorem gX14_put_X14_keep : GoodIn wsX14_put (wsV RX14 62 RX14 yX14_keep wsX14_keep) := goodIn_app (goodIn_of _ (by decide +kernel)) ggX14_put_X14_keep
set_option maxRecDepth 20000 in
theorem ggX14_add_X12_addNumber : GoodIn wsX14_add wsX12_addNumber := goodIn_r _ [6, 7, 8, 9, 5, 10, 11, 12, 24, 25, 26, 27] rfl (by decide +kernel)
set_option maxRecDepth 20000 in
theorem gX14_add_X12_addNumber : GoodIn wsX14_add (wsV RX14 66 RX12 yX12_addNumber wsX12_addNumber) := goodIn_app (goodIn_of _ (by decide +kernel)) ggX14_add_X12_addNumber
set_option maxRecDepth 20000 in
theorem ggX14_keepHash_X12_end : GoodIn wsX14_keepHash wsX12_end := goodIn_r _ [7, 8, 9, 10, 11, 12, 13, 14, 15, 16, 17, 18, 19, 20, 21, 6, 22, 23, 24, 25, 26, 27, 28, 29, 30, 31, 32, 33, 34, 35, 36, 37, 38, 54, 55, 56, 57] rfl (by decide +kernel)
set_option maxRecDepth 20000 in
theorem gX14_keepHash_X12_end : GoodIn wsX14_keepHash (wsV RX14 72 RX12 yX12_end wsX12_end) := goodIn_app (goodIn_of _ (by decide +kernel)) ggX14_keepHash_X12_end
set_option maxRecDepth 20000 in
theorem ggX14_keepHash_X12_four : GoodIn wsX14_keepHash wsX12_four := goodIn_r _ [42, 8, 54, 55, 56, 57] rfl (by decide +kernel)
set_option maxRecDepth 20000 in
theorem gX14_keepHash_X12_four : GoodIn wsX14_keepHash (wsV RX14 75 RX12 yX12_four wsX12_four) := goodIn_app (goodIn_of _ (by decide +kernel)) ggX14_keepHash_X12_four
set_option maxRecDepth 20000 in
theorem ggX14_all_X12_add : GoodIn wsX14_all wsX12_add := goodIn_r _ [21, 22, 17, 91, 92, 93, 94] rfl (by decide +kernel)
set_option maxRecDepth 20000 in
theorem gX14_all_X12_add : GoodIn wsX14_all (wsV RX14 85 RX12 yX12_add wsX12_add) := goodIn_app (goodIn_of _ (by decide +kernel)) ggX14_all_X12_add
set_option maxRecDepth 20000 in
theorem ggX14_all_X14_add : GoodIn wsX14_all wsX14_add := goodIn_r _ [27, 5, 28, 29, 30, 15, 31, 32, 19, 20, 21, 22, 17, 80, 81, 82, 83, 84, 85, 86, 87, 88, 89, 90, 91, 92, 93, 94] rfl (by decide +kernel)
set_option maxRecDepth 20000 in
theorem gX14_all_X14_add : GoodIn wsX14_all (wsV RX14 89 RX14 yX14_add wsX14_add) := goodIn_app (goodIn_of _ (by decide +kernel)) ggX14_all_X14_add
set_option maxRecDepth 20000 in
theorem ggX14_all_X14_keepHash : GoodIn wsX14_all wsX14_keepHash := goodIn_r _ [36, 5, 37, 38, 39, 40, 15, 41, 42, 43, 44, 45, 46, 47, 48, 49, 50, 17, 51, 32, 19, 20, 21, 22, 52, 29, 30, 31, 53, 54, 55, 56, 57, 58, 59, 60, 61, 62, 63, 64, 65, 66, 67, 80, 81, 82, 83, 84, 85, 86, 87, 88, 89, 90, 91, 92, 93, 94] rfl (by decide +kernel)
set_option maxRecDepth 20000 in
theorem gX14_all_X14_keepHash : GoodIn wsX14_all (wsV RX14 92 RX14 yX14_keepHash wsX14_keepHash) := goodIn_app (goodIn_of _ (by decide +kernel)) ggX14_all_X14_keepHash
set_option maxRecDepth 20000 in
theorem ggX14_all_X14_parting : GoodIn wsX14_all wsX14_parting := goodIn_r _ [71, 6, 80, 81, 82, 83, 84, 85, 86, 87, 88, 89, 90] rfl (by decide +kernel)
set_option maxRecDepth 20000 in
theorem gX14_all_X14_parting : GoodIn wsX14_all (wsV RX14 95 RX14 yX14_parting wsX14_parting) := goodIn_app (goodIn_of _ (by decide +kernel)) ggX14_all_X14_parting
set_option maxRecDepth 20000 in
theorem ggX14_all_X14_level : GoodIn wsX14_all wsX14_level := goodIn_r _ [75, 2, 3, 4, 6, 5, 37, 76, 77, 78, 26, 79, 12, 13, 14, 15, 16, 17, 18, 19, 20, 21, 22, 23, 24, 25, 27, 28, 29, 30, 31, 32, 33, 34, 35, 36, 38, 39, 40, 41, 42, 43, 44, 45, 46, 47, 48, 49, 50, 51, 52, 53, 54, 55, 56, 57, 58, 59, 60, 61, 62, 63, 64, 65, 66, 67, 80, 81, 82, 83, 84, 85, 86, 87, 88, 89, 90, 91, 92, 93, 94] rfl (by decide +kernel)
set_option maxRecDepth 20000 in
theorem gX14_all_X14_level : GoodIn wsX14_all (wsV RX14 105 RX14 yX14_level wsX14_level) := goodIn_app (goodIn_of _ (by decide +kernel)) ggX14_all_X14_level
set_option maxRecDepth 20000 in
theorem ggX14_level_X14_agree : GoodIn wsX14_level wsX14_agree := goodIn_r _ [11, 4, 66, 67, 68, 69, 70, 71, 72, 73, 74, 75, 76] rfl (by decide +kernel)
set_option maxRecDepth 20000 in
theorem gX14_level_X14_agree : GoodIn wsX14_level (wsV RX14 108 RX14 yX14_agree wsX14_agree) := goodIn_app (goodIn_of _ (by decide +kernel)) ggX14_level_X14_agree
set_option maxRecDepth 20000 in
theorem ggX14_level_X12_begin : GoodIn wsX14_level wsX12_begin := goodIn_r _ [16, 17, 77, 78, 79, 80] rfl (by decide +kernel)
set_option maxRecDepth 20000 in
theorem gX14_level_X12_begin : GoodIn wsX14_level (wsV RX14 82 RX12 yX12_begin wsX12_begin) := goodIn_app (goodIn_of _ (by decide +kernel)) ggX14_level_X12_begin
set_option maxRecDepth 20000 in
theorem ggX14_level_X12_add : GoodIn wsX14_level wsX12_add := goodIn_r _ [21, 22, 17, 77, 78, 79, 80] rfl (by decide +kernel)
set_option maxRecDepth 20000 in
theorem gX14_level_X12_add : GoodIn wsX14_level (wsV RX14 85 RX12 yX12_add wsX12_add) := goodIn_app (goodIn_of _ (by decide +kernel)) ggX14_level_X12_add
set_option maxRecDepth 20000 in
theorem ggX14_level_X14_add : GoodIn wsX14_level wsX14_add := goodIn_r _ [26, 5, 27, 28, 29, 15, 30, 31, 19, 20, 21, 22, 17, 66, 67, 68, 69, 70, 71, 72, 73, 74, 75, 76, 77, 78, 79, 80] rfl (by decide +kernel)
set_option maxRecDepth 20000 in
theorem gX14_level_X14_add : GoodIn wsX14_level (wsV RX14 89 RX14 yX14_add wsX14_add) := goodIn_app (goodIn_of _ (by decide +kernel)) ggX14_level_X14_add
set_option maxRecDepth 20000 in
theorem ggX14_level_X14_keepHash : GoodIn wsX14_level wsX14_keepHash := goodIn_r _ [35, 5, 6, 36, 37, 38, 15, 39, 40, 41, 42, 43, 44, 45, 46, 47, 48, 17, 49, 31, 19, 20, 21, 22, 50, 28, 29, 30, 51, 52, 53, 54, 55, 56, 57, 58, 59, 60, 61, 62, 63, 64, 65, 66, 67, 68, 69, 70, 71, 72, 73, 74, 75, 76, 77, 78, 79, 80] rfl (by decide +kernel)
set_option maxRecDepth 20000 in
theorem gX14_level_X14_keepHash : GoodIn wsX14_level (wsV RX14 92 RX14 yX14_keepHash wsX14_keepHash) := goodIn_app (goodIn_of _ (by decide +kernel)) ggX14_level_X14_keepHash
set_option maxRecDepth 20000 in
theorem ggX15_sizeOf_X15_sizeOf : GoodIn wsX15_sizeOf wsX15_sizeOf := goodIn_r _ [0, 1, 2, 3, 4, 5, 6, 7, 8, 9, 10, 11, 12] rfl (by decide +kernel)
set_option maxRecDepth 20000 in
theorem gX15_sizeOf_X15_sizeOf : GoodIn wsX15_sizeOf (wsV RX15 31 RX15 yX15_sizeOf wsX15_sizeOf) := goodIn_app (goodIn_of _ (by decide +kernel)) ggX15_sizeOf_X15_sizeOf
set_option maxRecDepth 20000 in
theorem ggX15_copy_X15_make : GoodIn wsX15_copy wsX15_make := goodIn_r _ [10, 11, 1, 2, 3, 4, 5, 19, 20, 21, 22, 23, 24] rfl (by decide +kernel)
set_option maxRecDepth 20000 in
theorem gX15_copy_X15_make : GoodIn wsX15_copy (wsV RX15 35 RX15 yX15_make wsX15_make) := goodIn_app (goodIn_of _ (by decide +kernel)) ggX15_copy_X15_make
set_option maxRecDepth 20000 in
theorem ggX15_copy_X15_copy : GoodIn wsX15_copy wsX15_copy := goodIn_r _ [0, 1, 2, 3, 4, 5, 6, 7, 8, 9, 10, 11, 12, 13, 14, 15, 16, 17, 18, 19, 20, 21, 22, 23, 24] rfl (by decide +kernel)
set_option maxRecDepth 20000 in
theorem gX15_copy_X15_copy : GoodIn wsX15_copy (wsV RX15 39 RX15 yX15_copy wsX15_copy) := goodIn_app (goodIn_of _ (by decide +kernel)) ggX15_copy_X15_copy
set_option maxRecDepth 20000 in
theorem ggX15_copy_X15_add : GoodIn wsX15_copy wsX15_add := goodIn_r _ [18, 5, 4, 19, 20, 21, 22, 23, 24] rfl (by decide +kernel)
set_option maxRecDepth 20000 in
theorem gX15_copy_X15_add : GoodIn wsX15_copy (wsV RX15 42 RX15 yX15_add wsX15_add) := goodIn_app (goodIn_of _ (by decide +kernel)) ggX15_copy_X15_add
set_option maxRecDepth 20000 in
theorem ggX15_isAlike_X15_isAlike : GoodIn wsX15_isAlike wsX15_isAlike := goodIn_r _ [0, 1, 2, 3, 4, 5, 6, 7, 8, 9, 10, 11, 12, 13, 14, 15] rfl (by decide +kernel)
set_option maxRecDepth 20000 in
theorem gX15_isAlike_X15_isAlike : GoodIn wsX15_isAlike (wsV RX15 46 RX15 yX15_isAlike wsX15_isAlike) := goodIn_app (goodIn_of _ (by decide +kernel)) ggX15_isAlike_X15_isAlike
set_option maxRecDepth 20000 in
theorem ggX15_swap_X15_become : GoodIn wsX15_swap wsX15_become := goodIn_r _ [9, 1, 2, 3, 4, 10, 11, 12, 13, 14, 15] rfl (by decide +kernel)
set_option maxRecDepth 20000 in
theorem gX15_swap_X15_become : GoodIn wsX15_swap (wsV RX15 50 RX15 yX15_become wsX15_become) := goodIn_app (goodIn_of _ (by decide +kernel)) ggX15_swap_X15_become
set_option maxRecDepth 20000 in
theorem ggX16_shortAt_X16_byteAt : GoodIn wsX16_shortAt wsX16_byteAt := goodIn_r _ [5, 6, 7, 8, 9, 10, 11, 12, 13, 14, 15, 16, 17, 18, 19, 20, 21, 22, 23, 24, 25] rfl (by decide +kernel)
set_option maxRecDepth 20000 in
theorem gX16_shortAt_X16_byteAt : GoodIn wsX16_shortAt (wsV RX16 46 RX16 yX16_byteAt wsX16_byteAt) := goodIn_app (goodIn_of _ (by decide +kernel)) ggX16_shortAt_X16_byteAt
set_option maxRecDepth 20000 in
theorem ggX16_over_X16_fail : GoodIn wsX16_over wsX16_fail := goodIn_r _ [7, 8, 9, 10, 11, 12, 13, 14, 15, 16, 17, 18, 19, 20, 21, 22, 23, 24, 25, 26, 27] rfl (by decide +kernel)
set_option maxRecDepth 20000 in
theorem gX16_over_X16_fail : GoodIn wsX16_over (wsV RX16 53 RX16 yX16_fail wsX16_fail) := goodIn_app (goodIn_of _ (by decide +kernel)) ggX16_over_X16_fail
set_option maxRecDepth 20000 in
theorem ggX16_count_X16_over : GoodIn wsX16_count wsX16_over := goodIn_r _ [5, 6, 7, 8, 9, 10, 4, 11, 12, 13, 23, 24, 25, 26, 27, 28, 29, 30, 31, 32, 33, 34, 35, 36, 37, 38, 39, 40] rfl (by decide +kernel)
set_option maxRecDepth 20000 in
theorem gX16_count_X16_over : GoodIn wsX16_count (wsV RX16 57 RX16 yX16_over wsX16_over) := goodIn_app (goodIn_of _ (by decide +kernel)) ggX16_count_X16_over
set_option maxRecDepth 20000 in
theorem ggX16_count_X16_isGood : GoodIn wsX16_count wsX16_isGood := goodIn_r _ [17, 12, 23, 24, 25, 26, 27, 28, 29, 30, 31, 32, 33, 34, 35, 36, 37, 38, 39, 40] rfl (by decide +kernel)
set_option maxRecDepth 20000 in
theorem gX16_count_X16_isGood : GoodIn wsX16_count (wsV RX16 60 RX16 yX16_isGood wsX16_isGood) := goodIn_app (goodIn_of _ (by decide +kernel)) ggX16_count_X16_isGood
set_option maxRecDepth 20000 in
theorem ggX16_count_X16_byteAt : GoodIn wsX16_count wsX16_byteAt := goodIn_r _ [21, 7, 22, 23, 24, 25, 26, 27, 28, 29, 30, 31, 32, 33, 34, 35, 36, 37, 38, 39, 40] rfl (by decide +kernel)
set_option maxRecDepth 20000 in
theorem gX16_count_X16_byteAt : GoodIn wsX16_count (wsV RX16 46 RX16 yX16_byteAt wsX16_byteAt) := goodIn_app (goodIn_of _ (by decide +kernel)) ggX16_count_X16_byteAt
set_option maxRecDepth 20000 in
theorem ggX16_count_X16_fail : GoodIn wsX16_count wsX16_fail := goodIn_r _ [11, 12, 13, 23, 24, 25, 26, 27, 28, 29, 30, 31, 32, 33, 34, 35, 36, 37, 38, 39, 40] rfl (by decide +kernel)
set_option maxRecDepth 20000 in
theorem gX16_count_X16_fail : GoodIn wsX16_count (wsV RX16 53 RX16 yX16_fail wsX16_fail) := goodIn_app (goodIn_of _ (by decide +kernel)) ggX16_count_X16_fail
set_option maxRecDepth 20000 in
theorem ggX16_overType_X16_over : GoodIn wsX16_overType wsX16_over := goodIn_r _ [5, 6, 7, 8, 9, 10, 4, 11, 12, 13, 23, 24, 25, 26, 27, 28, 29, 30, 31, 32, 33, 34, 35, 36, 37, 38, 39, 40] rfl (by decide +kernel)
set_option maxRecDepth 20000 in
theorem gX16_overType_X16_over : GoodIn wsX16_overType (wsV RX16 57 RX16 yX16_over wsX16_over) := goodIn_app (goodIn_of _ (by decide +kernel)) ggX16_overType_X16_over
set_option maxRecDepth 20000 in
theorem ggX16_overType_X16_isGood : GoodIn wsX16_overType wsX16_isGood := goodIn_r _ [17, 12, 23, 24, 25, 26, 27, 28, 29, 30, 31, 32, 33, 34, 35, 36, 37, 38, 39, 40] rfl (by decide +kernel)
set_option maxRecDepth 20000 in
theorem gX16_overType_X16_isGood : GoodIn wsX16_overType (wsV RX16 60 RX16 yX16_isGood wsX16_isGood) := goodIn_app (goodIn_of _ (by decide +kernel)) ggX16_overType_X16_isGood
set_option maxRecDepth 20000 in
theorem ggX16_overType_X16_byteAt : GoodIn wsX16_overType wsX16_byteAt := goodIn_r _ [21, 7, 22, 23, 24, 25, 26, 27, 28, 29, 30, 31, 32, 33, 34, 35, 36, 37, 38, 39, 40] rfl (by decide +kernel)
set_option maxRecDepth 20000 in
theorem gX16_overType_X16_byteAt : GoodIn wsX16_overType (wsV RX16 46 RX16 yX16_byteAt wsX16_byteAt) := goodIn_app (goodIn_of _ (by decide +kernel)) ggX16_overType_X16_byteAt
set_option maxRecDepth 20000 in
theorem ggX16_overType_X16_fail : GoodIn wsX16_overType wsX16_fail := goodIn_r _ [11, 12, 13, 23, 24, 25, 26, 27, 28, 29, 30, 31, 32, 33, 34, 35, 36, 37, 38, 39, 40] rfl (by decide +kernel)
set_option maxRecDepth 20000 in
theorem gX16_overType_X16_fail : GoodIn wsX16_overType (wsV RX16 53 RX16 yX16_fail wsX16_fail) := goodIn_app (goodIn_of _ (by decide +kernel)) ggX16_overType_X16_fail
set_option maxRecDepth 20000 in
theorem ggX16_overList_X16_count : GoodIn wsX16_overList wsX16_count := goodIn_r _ [5, 6, 7, 8, 4, 9, 10, 11, 12, 13, 14, 15, 16, 17, 18, 19, 20, 21, 22, 23, 24, 25, 26, 31, 32, 33, 34, 35, 36, 37, 38, 39, 40, 41, 42, 43, 44, 45, 46, 47, 48] rfl (by decide +kernel)
set_option maxRecDepth 20000 in
theorem gX16_overList_X16_count : GoodIn wsX16_overList (wsV RX16 64 RX16 yX16_count wsX16_count) := goodIn_app (goodIn_of _ (by decide +kernel)) ggX16_overList_X16_count
set_option maxRecDepth 20000 in
theorem ggX16_overList_X16_isGood : GoodIn wsX16_overList wsX16_isGood := goodIn_r _ [21, 16, 31, 32, 33, 34, 35, 36, 37, 38, 39, 40, 41, 42, 43, 44, 45, 46, 47, 48] rfl (by decide +kernel)
set_option maxRecDepth 20000 in
theorem gX16_overList_X16_isGood : GoodIn wsX16_overList (wsV RX16 60 RX16 yX16_isGood wsX16_isGood) := goodIn_app (goodIn_of _ (by decide +kernel)) ggX16_overList_X16_isGood
set_option maxRecDepth 20000 in
theorem ggX16_overList_X16_overType : GoodIn wsX16_overList wsX16_overType := goodIn_r _ [30, 6, 7, 8, 4, 9, 10, 11, 12, 13, 14, 15, 16, 17, 18, 19, 20, 21, 22, 23, 24, 25, 26, 31, 32, 33, 34, 35, 36, 37, 38, 39, 40, 41, 42, 43, 44, 45, 46, 47, 48] rfl (by decide +kernel)
set_option maxRecDepth 20000 in
theorem gX16_overList_X16_overType : GoodIn wsX16_overList (wsV RX16 68 RX16 yX16_overType wsX16_overType) := goodIn_app (goodIn_of _ (by decide +kernel)) ggX16_overList_X16_overType
set_option maxRecDepth 20000 in
theorem ggX16_overInstruction_X16_over : GoodIn wsX16_overInstruction wsX16_over := goodIn_r _ [7, 8, 9, 10, 11, 12, 6, 13, 14, 15, 32, 33, 34, 35, 36, 37, 38, 39, 40, 41, 42, 43, 44, 45, 46, 47, 48, 49] rfl (by decide +kernel)
set_option maxRecDepth 20000 in
theorem gX16_overInstruction_X16_over : GoodIn wsX16_overInstruction (wsV RX16 57 RX16 yX16_over wsX16_over) := goodIn_app (goodIn_of _ (by decide +kernel)) ggX16_overInstruction_X16_over
set_option maxRecDepth 20000 in
theorem ggX16_overInstruction_X16_isGood : GoodIn wsX16_overInstruction wsX16_isGood := goodIn_r _ [19, 14, 32, 33, 34, 35, 36, 37, 38, 39, 40, 41, 42, 43, 44, 45, 46, 47, 48, 49] rfl (by decide +kernel)
set_option maxRecDepth 20000 in
theorem gX16_overInstruction_X16_isGood : GoodIn wsX16_overInstruction (wsV RX16 60 RX16 yX16_isGood wsX16_isGood) := goodIn_app (goodIn_of _ (by decide +kernel)) ggX16_overInstruction_X16_isGood
set_option maxRecDepth 20000 in
theorem ggX16_overInstruction_X16_byteAt : GoodIn wsX16_overInstruction wsX16_byteAt := goodIn_r _ [23, 9, 24, 32, 33, 34, 35, 36, 37, 38, 39, 40, 41, 42, 43, 44, 45, 46, 47, 48, 49] rfl (by decide +kernel)
set_option maxRecDepth 20000 in
theorem gX16_overInstruction_X16_byteAt : GoodIn wsX16_overInstruction (wsV RX16 46 RX16 yX16_byteAt wsX16_byteAt) := goodIn_app (goodIn_of _ (by decide +kernel)) ggX16_overInstruction_X16_byteAt
set_option maxRecDepth 20000 in
theorem ggX16_overInstruction_X16_fail : GoodIn wsX16_overInstruction wsX16_fail := goodIn_r _ [13, 14, 15, 32, 33, 34, 35, 36, 37, 38, 39, 40, 41, 42, 43, 44, 45, 46, 47, 48, 49] rfl (by decide +kernel)
set_option maxRecDepth 20000 in
theorem gX16_overInstruction_X16_fail : GoodIn wsX16_overInstruction (wsV RX16 53 RX16 yX16_fail wsX16_fail) := goodIn_app (goodIn_of _ (by decide +kernel)) ggX16_overInstruction_X16_fail
set_option maxRecDepth 20000 in
theorem ggX16_overInstruction_X16_count : GoodIn wsX16_overInstruction wsX16_count := goodIn_r _ [28, 3, 4, 5, 6, 7, 8, 9, 10, 11, 12, 13, 14, 15, 16, 17, 18, 19, 20, 21, 22, 23, 24, 32, 33, 34, 35, 36, 37, 38, 39, 40, 41, 42, 43, 44, 45, 46, 47, 48, 49] rfl (by decide +kernel)
set_option maxRecDepth 20000 in
theorem gX16_overInstruction_X16_count : GoodIn wsX16_overInstruction (wsV RX16 64 RX16 yX16_count wsX16_count) := goodIn_app (goodIn_of _ (by decide +kernel)) ggX16_overInstruction_X16_count
set_option maxRecDepth 20000 in
theorem ggX16_overInstruction_X16_operandBytes : GoodIn wsX16_overInstruction wsX16_operandBytes := goodIn_r _ [31] rfl (by decide +kernel)
set_option maxRecDepth 20000 in
theorem gX16_overInstruction_X16_operandBytes : GoodIn wsX16_overInstruction (va_wsS RX16 75 yX16_operandBytes wsX16_operandBytes) := goodIn_app (goodIn_of _ (by decide +kernel)) ggX16_overInstruction_X16_operandBytes
set_option maxRecDepth 20000 in
theorem ggX16_overFunction_X16_count : GoodIn wsX16_overFunction wsX16_count := goodIn_r _ [9, 10, 11, 12, 8, 13, 2, 14, 15, 16, 17, 18, 19, 20, 21, 22, 23, 24, 25, 26, 27, 28, 29, 54, 55, 56, 57, 58, 59, 60, 61, 62, 63, 64, 65, 66, 67, 68, 69, 70, 71] rfl (by decide +kernel)
set_option maxRecDepth 20000 in
theorem gX16_overFunction_X16_count : GoodIn wsX16_overFunction (wsV RX16 64 RX16 yX16_count wsX16_count) := goodIn_app (goodIn_of _ (by decide +kernel)) ggX16_overFunction_X16_count
set_option maxRecDepth 20000 in
theorem ggX16_overFunction_X16_overLists : GoodIn wsX16_overFunction wsX16_overLists := goodIn_r _ [33, 21, 22, 23, 8, 24, 19, 34, 35, 36, 37, 5, 6, 7, 9, 10, 11, 12, 13, 2, 14, 15, 16, 17, 18, 20, 25, 26, 27, 28, 29, 38, 39, 40, 41, 54, 55, 56, 57, 58, 59, 60, 61, 62, 63, 64, 65, 66, 67, 68, 69, 70, 71] rfl (by decide +kernel)
set_option maxRecDepth 20000 in
theorem gX16_overFunction_X16_overLists : GoodIn wsX16_overFunction (wsV RX16 78 RX16 yX16_overLists wsX16_overLists) := goodIn_app (goodIn_of _ (by decide +kernel)) ggX16_overFunction_X16_overLists
set_option maxRecDepth 20000 in
theorem ggX16_overFunction_X16_isGood : GoodIn wsX16_overFunction wsX16_isGood := goodIn_r _ [24, 19, 54, 55, 56, 57, 58, 59, 60, 61, 62, 63, 64, 65, 66, 67, 68, 69, 70, 71] rfl (by decide +kernel)
set_option maxRecDepth 20000 in
theorem gX16_overFunction_X16_isGood : GoodIn wsX16_overFunction (wsV RX16 60 RX16 yX16_isGood wsX16_isGood) := goodIn_app (goodIn_of _ (by decide +kernel)) ggX16_overFunction_X16_isGood
set_option maxRecDepth 20000 in
theorem ggX16_overFunction_X16_over : GoodIn wsX16_overFunction wsX16_over := goodIn_r _ [13, 2, 14, 15, 16, 17, 8, 18, 19, 20, 54, 55, 56, 57, 58, 59, 60, 61, 62, 63, 64, 65, 66, 67, 68, 69, 70, 71] rfl (by decide +kernel)
set_option maxRecDepth 20000 in
theorem gX16_overFunction_X16_over : GoodIn wsX16_overFunction (wsV RX16 57 RX16 yX16_over wsX16_over) := goodIn_app (goodIn_of _ (by decide +kernel)) ggX16_overFunction_X16_over
set_option maxRecDepth 20000 in
theorem ggX16_overFunction_X16_shortAt : GoodIn wsX16_overFunction wsX16_shortAt := goodIn_r _ [45, 25, 26, 27, 8, 28, 14, 29, 54, 55, 56, 57, 58, 59, 60, 61, 62, 63, 64, 65, 66, 67, 68, 69, 70, 71] rfl (by decide +kernel)
set_option maxRecDepth 20000 in
theorem gX16_overFunction_X16_shortAt : GoodIn wsX16_overFunction (wsV RX16 82 RX16 yX16_shortAt wsX16_shortAt) := goodIn_app (goodIn_of _ (by decide +kernel)) ggX16_overFunction_X16_shortAt
set_option maxRecDepth 20000 in
theorem ggX16_overFunction_X16_fail : GoodIn wsX16_overFunction wsX16_fail := goodIn_r _ [18, 19, 20, 54, 55, 56, 57, 58, 59, 60, 61, 62, 63, 64, 65, 66, 67, 68, 69, 70, 71] rfl (by decide +kernel)
set_option maxRecDepth 20000 in
theorem gX16_overFunction_X16_fail : GoodIn wsX16_overFunction (wsV RX16 53 RX16 yX16_fail wsX16_fail) := goodIn_app (goodIn_of _ (by decide +kernel)) ggX16_overFunction_X16_fail
set_option maxRecDepth 20000 in
theorem ggX16_overFunction_X16_overInstruction : GoodIn wsX16_overFunction wsX16_overInstruction := goodIn_r _ [49, 50, 4, 10, 11, 12, 8, 13, 2, 14, 15, 16, 17, 18, 19, 20, 21, 22, 23, 24, 25, 26, 27, 28, 29, 5, 6, 7, 9, 51, 52, 53, 54, 55, 56, 57, 58, 59, 60, 61, 62, 63, 64, 65, 66, 67, 68, 69, 70, 71] rfl (by decide +kernel)
set_option maxRecDepth 20000 in
theorem gX16_overFunction_X16_overInstruction : GoodIn wsX16_overFunction (wsV RX16 85 RX16 yX16_overInstruction wsX16_overInstruction) := goodIn_app (goodIn_of _ (by decide +kernel)) ggX16_overFunction_X16_overInstruction
set_option maxRecDepth 20000 in
theorem ggX16_overLists_X16_isGood : GoodIn wsX16_overLists wsX16_isGood := goodIn_r _ [5, 6, 35, 36, 37, 38, 39, 40, 41, 42, 43, 44, 45, 46, 47, 48, 49, 50, 51, 52] rfl (by decide +kernel)
set_option maxRecDepth 20000 in
theorem gX16_overLists_X16_isGood : GoodIn wsX16_overLists (wsV RX16 60 RX16 yX16_isGood wsX16_isGood) := goodIn_app (goodIn_of _ (by decide +kernel)) ggX16_overLists_X16_isGood
set_option maxRecDepth 20000 in
theorem ggX16_overLists_X16_overList : GoodIn wsX16_overLists wsX16_overList := goodIn_r _ [10, 11, 12, 13, 4, 14, 15, 16, 17, 18, 19, 20, 21, 22, 23, 24, 6, 25, 1, 2, 3, 5, 26, 27, 28, 29, 30, 31, 32, 33, 34, 35, 36, 37, 38, 39, 40, 41, 42, 43, 44, 45, 46, 47, 48, 49, 50, 51, 52] rfl (by decide +kernel)
set_option maxRecDepth 20000 in
theorem gX16_overLists_X16_overList : GoodIn wsX16_overLists (wsV RX16 88 RX16 yX16_overList wsX16_overList) := goodIn_app (goodIn_of _ (by decide +kernel)) ggX16_overLists_X16_overList
set_option maxRecDepth 20000 in
theorem ggX16_overAll_X16_isGood : GoodIn wsX16_overAll wsX16_isGood := goodIn_r _ [15, 16, 66, 67, 68, 69, 70, 71, 72, 73, 74, 75, 76, 77, 78, 79, 80, 81, 82, 83] rfl (by decide +kernel)
set_option maxRecDepth 20000 in
theorem gX16_overAll_X16_isGood : GoodIn wsX16_overAll (wsV RX16 60 RX16 yX16_isGood wsX16_isGood) := goodIn_app (goodIn_of _ (by decide +kernel)) ggX16_overAll_X16_isGood
set_option maxRecDepth 20000 in
theorem ggX16_overAll_X16_over : GoodIn wsX16_overAll wsX16_over := goodIn_r _ [20, 3, 10, 21, 22, 23, 14, 24, 16, 25, 66, 67, 68, 69, 70, 71, 72, 73, 74, 75, 76, 77, 78, 79, 80, 81, 82, 83] rfl (by decide +kernel)
set_option maxRecDepth 20000 in
theorem gX16_overAll_X16_over : GoodIn wsX16_overAll (wsV RX16 57 RX16 yX16_over wsX16_over) := goodIn_app (goodIn_of _ (by decide +kernel)) ggX16_overAll_X16_over
set_option maxRecDepth 20000 in
theorem ggX16_overAll_X16_byteAt : GoodIn wsX16_overAll wsX16_byteAt := goodIn_r _ [29, 10, 30, 66, 67, 68, 69, 70, 71, 72, 73, 74, 75, 76, 77, 78, 79, 80, 81, 82, 83] rfl (by decide +kernel)
set_option maxRecDepth 20000 in
theorem gX16_overAll_X16_byteAt : GoodIn wsX16_overAll (wsV RX16 46 RX16 yX16_byteAt wsX16_byteAt) := goodIn_app (goodIn_of _ (by decide +kernel)) ggX16_overAll_X16_byteAt
set_option maxRecDepth 20000 in
theorem ggX16_overAll_X16_fail : GoodIn wsX16_overAll wsX16_fail := goodIn_r _ [24, 16, 25, 66, 67, 68, 69, 70, 71, 72, 73, 74, 75, 76, 77, 78, 79, 80, 81, 82, 83] rfl (by decide +kernel)
set_option maxRecDepth 20000 in
theorem gX16_overAll_X16_fail : GoodIn wsX16_overAll (wsV RX16 53 RX16 yX16_fail wsX16_fail) := goodIn_app (goodIn_of _ (by decide +kernel)) ggX16_overAll_X16_fail
set_option maxRecDepth 20000 in
theorem ggX16_overAll_X16_count : GoodIn wsX16_overAll wsX16_count := goodIn_r _ [34, 17, 18, 19, 14, 20, 3, 10, 21, 22, 23, 24, 16, 25, 11, 12, 13, 15, 26, 27, 28, 29, 30, 66, 67, 68, 69, 70, 71, 72, 73, 74, 75, 76, 77, 78, 79, 80, 81, 82, 83] rfl (by decide +kernel)
set_option maxRecDepth 20000 in
theorem gX16_overAll_X16_count : GoodIn wsX16_overAll (wsV RX16 64 RX16 yX16_count wsX16_count) := goodIn_app (goodIn_of _ (by decide +kernel)) ggX16_overAll_X16_count
set_option maxRecDepth 20000 in
theorem ggX16_overAll_X16_overType : GoodIn wsX16_overAll wsX16_overType := goodIn_r _ [38, 17, 18, 19, 14, 20, 3, 10, 21, 22, 23, 24, 16, 25, 11, 12, 13, 15, 26, 27, 28, 29, 30, 66, 67, 68, 69, 70, 71, 72, 73, 74, 75, 76, 77, 78, 79, 80, 81, 82, 83] rfl (by decide +kernel)
set_option maxRecDepth 20000 in
theorem gX16_overAll_X16_overType : GoodIn wsX16_overAll (wsV RX16 68 RX16 yX16_overType wsX16_overType) := goodIn_app (goodIn_of _ (by decide +kernel)) ggX16_overAll_X16_overType
set_option maxRecDepth 20000 in
theorem ggX16_overAll_X16_overList : GoodIn wsX16_overAll wsX16_overList := goodIn_r _ [42, 31, 32, 33, 14, 34, 17, 18, 19, 20, 3, 10, 21, 22, 23, 24, 16, 25, 11, 12, 13, 15, 26, 27, 28, 29, 30, 35, 36, 37, 38, 66, 67, 68, 69, 70, 71, 72, 73, 74, 75, 76, 77, 78, 79, 80, 81, 82, 83] rfl (by decide +kernel)
set_option maxRecDepth 20000 in
theorem gX16_overAll_X16_overList : GoodIn wsX16_overAll (wsV RX16 88 RX16 yX16_overList wsX16_overList) := goodIn_app (goodIn_of _ (by decide +kernel)) ggX16_overAll_X16_overList
set_option maxRecDepth 20000 in
theorem ggX16_overAll_X16_overFunction : GoodIn wsX16_overAll wsX16_overFunction := goodIn_r _ [46, 47, 3, 48, 49, 31, 32, 33, 14, 34, 17, 18, 19, 20, 10, 21, 22, 23, 24, 16, 25, 11, 12, 13, 15, 26, 27, 28, 29, 30, 50, 51, 52, 53, 39, 40, 41, 42, 35, 36, 37, 38, 54, 55, 56, 57, 58, 59, 60, 61, 62, 63, 64, 65, 66, 67, 68, 69, 70, 71, 72, 73, 74, 75, 76, 77, 78, 79, 80, 81, 82, 83] rfl (by decide +kernel)
set_option maxRecDepth 20000 in
theorem gX16_overAll_X16_overFunction : GoodIn wsX16_overAll (wsV RX16 107 RX16 yX16_overFunction wsX16_overFunction) := goodIn_app (goodIn_of _ (by decide +kernel)) ggX16_overAll_X16_overFunction
set_option maxRecDepth 20000 in
theorem ggX16_typeEnd_X16_byteAt : GoodIn wsX16_typeEnd wsX16_byteAt := goodIn_r _ [5, 6, 7, 8, 9, 10, 11, 12, 13, 14, 15, 16, 17, 18, 19, 20, 21, 22, 23, 24, 25] rfl (by decide +kernel)
set_option maxRecDepth 20000 in
theorem gX16_typeEnd_X16_byteAt : GoodIn wsX16_typeEnd (wsV RX16 46 RX16 yX16_byteAt wsX16_byteAt) := goodIn_app (goodIn_of _ (by decide +kernel)) ggX16_typeEnd_X16_byteAt
set_option maxRecDepth 20000 in
theorem ggX16_lookType_X16_typeEnd : GoodIn wsX16_lookType wsX16_typeEnd := goodIn_r _ [7, 8, 9, 10, 6, 11, 12, 13, 24, 25, 26, 27, 28, 29, 30, 31, 32, 33, 34, 35, 36, 37, 38, 39, 40, 41] rfl (by decide +kernel)
set_option maxRecDepth 20000 in
theorem gX16_lookType_X16_typeEnd : GoodIn wsX16_lookType (wsV RX16 110 RX16 yX16_typeEnd wsX16_typeEnd) := goodIn_app (goodIn_of _ (by decide +kernel)) ggX16_lookType_X16_typeEnd
set_option maxRecDepth 20000 in
theorem ggX16_lookType_X16_isStructureType : GoodIn wsX16_lookType wsX16_isStructureType := goodIn_r _ [17, 8, 9, 10, 6, 11, 12, 13, 24, 25, 26, 27, 28, 29, 30, 31, 32, 33, 34, 35, 36, 37, 38, 39, 40, 41] rfl (by decide +kernel)
set_option maxRecDepth 20000 in
theorem gX16_lookType_X16_isStructureType : GoodIn wsX16_lookType (wsV RX16 113 RX16 yX16_isStructureType wsX16_isStructureType) := goodIn_app (goodIn_of _ (by decide +kernel)) ggX16_lookType_X16_isStructureType
set_option maxRecDepth 20000 in
theorem ggX16_lookType_X16_byteAt : GoodIn wsX16_lookType wsX16_byteAt := goodIn_r _ [11, 12, 13, 24, 25, 26, 27, 28, 29, 30, 31, 32, 33, 34, 35, 36, 37, 38, 39, 40, 41] rfl (by decide +kernel)
set_option maxRecDepth 20000 in
theorem gX16_lookType_X16_byteAt : GoodIn wsX16_lookType (wsV RX16 46 RX16 yX16_byteAt wsX16_byteAt) := goodIn_app (goodIn_of _ (by decide +kernel)) ggX16_lookType_X16_byteAt
set_option maxRecDepth 20000 in
theorem ggX16_lookType_X16_fail : GoodIn wsX16_lookType wsX16_fail := goodIn_r _ [21, 22, 23, 24, 25, 26, 27, 28, 29, 30, 31, 32, 33, 34, 35, 36, 37, 38, 39, 40, 41] rfl (by decide +kernel)
set_option maxRecDepth 20000 in
theorem gX16_lookType_X16_fail : GoodIn wsX16_lookType (wsV RX16 53 RX16 yX16_fail wsX16_fail) := goodIn_app (goodIn_of _ (by decide +kernel)) ggX16_lookType_X16_fail
set_option maxRecDepth 20000 in
theorem ggX16_isStructureType_X16_byteAt : GoodIn wsX16_isStructureType wsX16_byteAt := goodIn_r _ [5, 6, 7, 8, 9, 10, 11, 12, 13, 14, 15, 16, 17, 18, 19, 20, 21, 22, 23, 24, 25] rfl (by decide +kernel)
set_option maxRecDepth 20000 in
theorem gX16_isStructureType_X16_byteAt : GoodIn wsX16_isStructureType (wsV RX16 46 RX16 yX16_byteAt wsX16_byteAt) := goodIn_app (goodIn_of _ (by decide +kernel)) ggX16_isStructureType_X16_byteAt
set_option maxRecDepth 20000 in
theorem ggX16_lookList_X16_byteAt : GoodIn wsX16_lookList wsX16_byteAt := goodIn_r _ [5, 6, 7, 28, 29, 30, 31, 32, 33, 34, 35, 36, 37, 38, 39, 40, 41, 42, 43, 44, 45] rfl (by decide +kernel)
set_option maxRecDepth 20000 in
theorem gX16_lookList_X16_byteAt : GoodIn wsX16_lookList (wsV RX16 46 RX16 yX16_byteAt wsX16_byteAt) := goodIn_app (goodIn_of _ (by decide +kernel)) ggX16_lookList_X16_byteAt
set_option maxRecDepth 20000 in
theorem ggX16_lookList_X16_lookType : GoodIn wsX16_lookList wsX16_lookType := goodIn_r _ [11, 12, 13, 14, 15, 16, 4, 17, 1, 2, 3, 5, 6, 7, 18, 19, 20, 21, 22, 23, 24, 25, 26, 27, 28, 29, 30, 31, 32, 33, 34, 35, 36, 37, 38, 39, 40, 41, 42, 43, 44, 45] rfl (by decide +kernel)
set_option maxRecDepth 20000 in
theorem gX16_lookList_X16_lookType : GoodIn wsX16_lookList (wsV RX16 117 RX16 yX16_lookType wsX16_lookType) := goodIn_app (goodIn_of _ (by decide +kernel)) ggX16_lookList_X16_lookType
set_option maxRecDepth 20000 in
theorem ggX16_listEnd_X16_byteAt : GoodIn wsX16_listEnd wsX16_byteAt := goodIn_r _ [5, 6, 7, 12, 13, 14, 15, 16, 17, 18, 19, 20, 21, 22, 23, 24, 25, 26, 27, 28, 29] rfl (by decide +kernel)
set_option maxRecDepth 20000 in
theorem gX16_listEnd_X16_byteAt : GoodIn wsX16_listEnd (wsV RX16 46 RX16 yX16_byteAt wsX16_byteAt) := goodIn_app (goodIn_of _ (by decide +kernel)) ggX16_listEnd_X16_byteAt
set_option maxRecDepth 20000 in
theorem ggX16_listEnd_X16_typeEnd : GoodIn wsX16_listEnd wsX16_typeEnd := goodIn_r _ [11, 1, 2, 3, 4, 5, 6, 7, 12, 13, 14, 15, 16, 17, 18, 19, 20, 21, 22, 23, 24, 25, 26, 27, 28, 29] rfl (by decide +kernel)
set_option maxRecDepth 20000 in
theorem gX16_listEnd_X16_typeEnd : GoodIn wsX16_listEnd (wsV RX16 110 RX16 yX16_typeEnd wsX16_typeEnd) := goodIn_app (goodIn_of _ (by decide +kernel)) ggX16_listEnd_X16_typeEnd
set_option maxRecDepth 20000 in
theorem ggX16_fieldsOf_X16_byteAt : GoodIn wsX16_fieldsOf wsX16_byteAt := goodIn_r _ [6, 7, 8, 9, 10, 11, 12, 13, 14, 15, 16, 17, 18, 19, 20, 21, 22, 23, 24, 25, 26] rfl (by decide +kernel)
set_option maxRecDepth 20000 in
theorem gX16_fieldsOf_X16_byteAt : GoodIn wsX16_fieldsOf (wsV RX16 46 RX16 yX16_byteAt wsX16_byteAt) := goodIn_app (goodIn_of _ (by decide +kernel)) ggX16_fieldsOf_X16_byteAt
set_option maxRecDepth 20000 in
theorem ggX16_lookOwn_X16_byteAt : GoodIn wsX16_lookOwn wsX16_byteAt := goodIn_r _ [7, 8, 9, 16, 17, 18, 19, 20, 21, 22, 23, 24, 25, 26, 27, 28, 29, 30, 31, 32, 33] rfl (by decide +kernel)
set_option maxRecDepth 20000 in
theorem gX16_lookOwn_X16_byteAt : GoodIn wsX16_lookOwn (wsV RX16 46 RX16 yX16_byteAt wsX16_byteAt) := goodIn_app (goodIn_of _ (by decide +kernel)) ggX16_lookOwn_X16_byteAt
set_option maxRecDepth 20000 in
theorem ggX16_lookOwn_X16_fail : GoodIn wsX16_lookOwn wsX16_fail := goodIn_r _ [13, 14, 15, 16, 17, 18, 19, 20, 21, 22, 23, 24, 25, 26, 27, 28, 29, 30, 31, 32, 33] rfl (by decide +kernel)
set_option maxRecDepth 20000 in
theorem gX16_lookOwn_X16_fail : GoodIn wsX16_lookOwn (wsV RX16 53 RX16 yX16_fail wsX16_fail) := goodIn_app (goodIn_of _ (by decide +kernel)) ggX16_lookOwn_X16_fail
set_option maxRecDepth 20000 in
theorem ggX16_lookInstruction_X16_byteAt : GoodIn wsX16_lookInstruction wsX16_byteAt := goodIn_r _ [8, 9, 10, 36, 37, 38, 39, 40, 41, 42, 43, 44, 45, 46, 47, 48, 49, 50, 51, 52, 53] rfl (by decide +kernel)
set_option maxRecDepth 20000 in
theorem gX16_lookInstruction_X16_byteAt : GoodIn wsX16_lookInstruction (wsV RX16 46 RX16 yX16_byteAt wsX16_byteAt) := goodIn_app (goodIn_of _ (by decide +kernel)) ggX16_lookInstruction_X16_byteAt
set_option maxRecDepth 20000 in
theorem ggX16_lookInstruction_X16_shortAt : GoodIn wsX16_lookInstruction wsX16_shortAt := goodIn_r _ [14, 4, 5, 6, 7, 8, 9, 10, 36, 37, 38, 39, 40, 41, 42, 43, 44, 45, 46, 47, 48, 49, 50, 51, 52, 53] rfl (by decide +kernel)
set_option maxRecDepth 20000 in
theorem gX16_lookInstruction_X16_shortAt : GoodIn wsX16_lookInstruction (wsV RX16 82 RX16 yX16_shortAt wsX16_shortAt) := goodIn_app (goodIn_of _ (by decide +kernel)) ggX16_lookInstruction_X16_shortAt
set_option maxRecDepth 20000 in
theorem ggX16_lookInstruction_X16_fail : GoodIn wsX16_lookInstruction wsX16_fail := goodIn_r _ [18, 19, 20, 36, 37, 38, 39, 40, 41, 42, 43, 44, 45, 46, 47, 48, 49, 50, 51, 52, 53] rfl (by decide +kernel)
set_option maxRecDepth 20000 in
theorem gX16_lookInstruction_X16_fail : GoodIn wsX16_lookInstruction (wsV RX16 53 RX16 yX16_fail wsX16_fail) := goodIn_app (goodIn_of _ (by decide +kernel)) ggX16_lookInstruction_X16_fail
set_option maxRecDepth 20000 in
theorem ggX16_lookInstruction_X16_lookOwn : GoodIn wsX16_lookInstruction wsX16_lookOwn := goodIn_r _ [24, 25, 26, 4, 5, 6, 7, 8, 9, 10, 15, 16, 17, 18, 19, 20, 36, 37, 38, 39, 40, 41, 42, 43, 44, 45, 46, 47, 48, 49, 50, 51, 52, 53] rfl (by decide +kernel)
set_option maxRecDepth 20000 in
theorem gX16_lookInstruction_X16_lookOwn : GoodIn wsX16_lookInstruction (wsV RX16 120 RX16 yX16_lookOwn wsX16_lookOwn) := goodIn_app (goodIn_of _ (by decide +kernel)) ggX16_lookInstruction_X16_lookOwn
set_option maxRecDepth 20000 in
theorem ggX16_lookInstruction_X16_isGood : GoodIn wsX16_lookInstruction wsX16_isGood := goodIn_r _ [30, 19, 36, 37, 38, 39, 40, 41, 42, 43, 44, 45, 46, 47, 48, 49, 50, 51, 52, 53] rfl (by decide +kernel)
set_option maxRecDepth 20000 in
theorem gX16_lookInstruction_X16_isGood : GoodIn wsX16_lookInstruction (wsV RX16 60 RX16 yX16_isGood wsX16_isGood) := goodIn_app (goodIn_of _ (by decide +kernel)) ggX16_lookInstruction_X16_isGood
set_option maxRecDepth 20000 in
theorem ggX16_lookInstruction_X16_fieldsOf : GoodIn wsX16_lookInstruction wsX16_fieldsOf := goodIn_r _ [34, 35, 4, 5, 6, 7, 8, 9, 10, 36, 37, 38, 39, 40, 41, 42, 43, 44, 45, 46, 47, 48, 49, 50, 51, 52, 53] rfl (by decide +kernel)
set_option maxRecDepth 20000 in
theorem gX16_lookInstruction_X16_fieldsOf : GoodIn wsX16_lookInstruction (wsV RX16 123 RX16 yX16_fieldsOf wsX16_fieldsOf) := goodIn_app (goodIn_of _ (by decide +kernel)) ggX16_lookInstruction_X16_fieldsOf
set_option maxRecDepth 20000 in
theorem ggX16_lookAll_X16_isGood : GoodIn wsX16_lookAll wsX16_isGood := goodIn_r _ [15, 16, 73, 74, 75, 76, 77, 78, 79, 80, 81, 82, 83, 84, 85, 86, 87, 88, 89, 90] rfl (by decide +kernel)
set_option maxRecDepth 20000 in
theorem gX16_lookAll_X16_isGood : GoodIn wsX16_lookAll (wsV RX16 60 RX16 yX16_isGood wsX16_isGood) := goodIn_app (goodIn_of _ (by decide +kernel)) ggX16_lookAll_X16_isGood
set_option maxRecDepth 20000 in
theorem ggX16_lookAll_X16_fieldsOf : GoodIn wsX16_lookAll wsX16_fieldsOf := goodIn_r _ [20, 2, 21, 22, 23, 14, 24, 25, 26, 73, 74, 75, 76, 77, 78, 79, 80, 81, 82, 83, 84, 85, 86, 87, 88, 89, 90] rfl (by decide +kernel)
set_option maxRecDepth 20000 in
theorem gX16_lookAll_X16_fieldsOf : GoodIn wsX16_lookAll (wsV RX16 123 RX16 yX16_fieldsOf wsX16_fieldsOf) := goodIn_app (goodIn_of _ (by decide +kernel)) ggX16_lookAll_X16_fieldsOf
set_option maxRecDepth 20000 in
theorem ggX16_lookAll_X16_lookType : GoodIn wsX16_lookAll wsX16_lookType := goodIn_r _ [30, 1, 31, 32, 33, 34, 14, 35, 21, 22, 23, 24, 25, 26, 36, 37, 38, 39, 40, 41, 42, 43, 16, 44, 73, 74, 75, 76, 77, 78, 79, 80, 81, 82, 83, 84, 85, 86, 87, 88, 89, 90] rfl (by decide +kernel)
set_option maxRecDepth 20000 in
theorem gX16_lookAll_X16_lookType : GoodIn wsX16_lookAll (wsV RX16 117 RX16 yX16_lookType wsX16_lookType) := goodIn_app (goodIn_of _ (by decide +kernel)) ggX16_lookAll_X16_lookType
set_option maxRecDepth 20000 in
theorem ggX16_lookAll_X16_lookList : GoodIn wsX16_lookAll wsX16_lookList := goodIn_r _ [48, 21, 22, 23, 14, 24, 25, 26, 27, 28, 29, 30, 1, 31, 32, 33, 34, 35, 36, 37, 38, 39, 40, 41, 42, 43, 16, 44, 73, 74, 75, 76, 77, 78, 79, 80, 81, 82, 83, 84, 85, 86, 87, 88, 89, 90] rfl (by decide +kernel)
set_option maxRecDepth 20000 in
theorem gX16_lookAll_X16_lookList : GoodIn wsX16_lookAll (wsV RX16 126 RX16 yX16_lookList wsX16_lookList) := goodIn_app (goodIn_of _ (by decide +kernel)) ggX16_lookAll_X16_lookList
set_option maxRecDepth 20000 in
theorem ggX16_lookAll_X16_manyIn : GoodIn wsX16_lookAll wsX16_manyIn := goodIn_r _ [52, 53, 54, 55, 14, 56, 8, 57, 58, 59, 60, 21, 22, 23, 24, 25, 26, 32, 33, 34, 35, 73, 74, 75, 76, 77, 78, 79, 80, 81, 82, 83, 84, 85, 86, 87, 88, 89, 90] rfl (by decide +kernel)
set_option maxRecDepth 20000 in
theorem gX16_lookAll_X16_manyIn : GoodIn wsX16_lookAll (wsV RX16 129 RX16 yX16_manyIn wsX16_manyIn) := goodIn_app (goodIn_of _ (by decide +kernel)) ggX16_lookAll_X16_manyIn
set_option maxRecDepth 20000 in
theorem ggX16_lookAll_X16_lookInstruction : GoodIn wsX16_lookAll wsX16_lookInstruction := goodIn_r _ [64, 7, 3, 5, 21, 22, 23, 14, 24, 25, 26, 65, 66, 67, 68, 40, 41, 42, 43, 16, 44, 69, 70, 71, 72, 1, 31, 11, 12, 13, 15, 17, 18, 19, 20, 2, 73, 74, 75, 76, 77, 78, 79, 80, 81, 82, 83, 84, 85, 86, 87, 88, 89, 90] rfl (by decide +kernel)
set_option maxRecDepth 20000 in
theorem gX16_lookAll_X16_lookInstruction : GoodIn wsX16_lookAll (wsV RX16 132 RX16 yX16_lookInstruction wsX16_lookInstruction) := goodIn_app (goodIn_of _ (by decide +kernel)) ggX16_lookAll_X16_lookInstruction
set_option maxRecDepth 20000 in
theorem ggX16_listAt_X16_listEnd : GoodIn wsX16_listAt wsX16_listEnd := goodIn_r _ [6, 7, 8, 9, 5, 10, 11, 12, 13, 14, 15, 16, 17, 18, 19, 20, 21, 22, 23, 24, 25, 26, 27, 28, 29, 30, 31, 32, 33, 34] rfl (by decide +kernel)
set_option maxRecDepth 20000 in
theorem gX16_listAt_X16_listEnd : GoodIn wsX16_listAt (wsV RX16 136 RX16 yX16_listEnd wsX16_listEnd) := goodIn_app (goodIn_of _ (by decide +kernel)) ggX16_listAt_X16_listEnd
set_option maxRecDepth 20000 in
theorem ggX16_manyIn_X16_listAt : GoodIn wsX16_manyIn wsX16_listAt := goodIn_r _ [5, 6, 7, 8, 9, 4, 10, 11, 12, 13, 14, 15, 16, 17, 18, 19, 20, 21, 22, 23, 24, 25, 26, 27, 28, 29, 30, 31, 32, 33, 34, 35, 36, 37, 38] rfl (by decide +kernel)
set_option maxRecDepth 20000 in
theorem gX16_manyIn_X16_listAt : GoodIn wsX16_manyIn (wsV RX16 139 RX16 yX16_listAt wsX16_listAt) := goodIn_app (goodIn_of _ (by decide +kernel)) ggX16_manyIn_X16_listAt
set_option maxRecDepth 20000 in
theorem ggX16_manyIn_X16_byteAt : GoodIn wsX16_manyIn wsX16_byteAt := goodIn_r _ [14, 15, 16, 21, 22, 23, 24, 25, 26, 27, 28, 29, 30, 31, 32, 33, 34, 35, 36, 37, 38] rfl (by decide +kernel)
set_option maxRecDepth 20000 in
theorem gX16_manyIn_X16_byteAt : GoodIn wsX16_manyIn (wsV RX16 46 RX16 yX16_byteAt wsX16_byteAt) := goodIn_app (goodIn_of _ (by decide +kernel)) ggX16_manyIn_X16_byteAt
set_option maxRecDepth 20000 in
theorem ggX16_ownIn_X16_typeEnd : GoodIn wsX16_ownIn wsX16_typeEnd := goodIn_r _ [6, 7, 8, 9, 5, 10, 11, 12, 17, 18, 19, 20, 21, 22, 23, 24, 25, 26, 27, 28, 29, 30, 31, 32, 33, 34] rfl (by decide +kernel)
set_option maxRecDepth 20000 in
theorem gX16_ownIn_X16_typeEnd : GoodIn wsX16_ownIn (wsV RX16 110 RX16 yX16_typeEnd wsX16_typeEnd) := goodIn_app (goodIn_of _ (by decide +kernel)) ggX16_ownIn_X16_typeEnd
set_option maxRecDepth 20000 in
theorem ggX16_ownIn_X16_byteAt : GoodIn wsX16_ownIn wsX16_byteAt := goodIn_r _ [10, 11, 12, 17, 18, 19, 20, 21, 22, 23, 24, 25, 26, 27, 28, 29, 30, 31, 32, 33, 34] rfl (by decide +kernel)
set_option maxRecDepth 20000 in
theorem gX16_ownIn_X16_byteAt : GoodIn wsX16_ownIn (wsV RX16 46 RX16 yX16_byteAt wsX16_byteAt) := goodIn_app (goodIn_of _ (by decide +kernel)) ggX16_ownIn_X16_byteAt
set_option maxRecDepth 20000 in
theorem ggX16_ownIn_X16_isStructureType : GoodIn wsX16_ownIn wsX16_isStructureType := goodIn_r _ [16, 7, 8, 9, 5, 10, 11, 12, 17, 18, 19, 20, 21, 22, 23, 24, 25, 26, 27, 28, 29, 30, 31, 32, 33, 34] rfl (by decide +kernel)
set_option maxRecDepth 20000 in
theorem gX16_ownIn_X16_isStructureType : GoodIn wsX16_ownIn (wsV RX16 113 RX16 yX16_isStructureType wsX16_isStructureType) := goodIn_app (goodIn_of _ (by decide +kernel)) ggX16_ownIn_X16_isStructureType
set_option maxRecDepth 20000 in
theorem ggX16_isRound_X16_reach : GoodIn wsX16_isRound wsX16_reach := goodIn_r _ [7, 8, 2, 9, 10, 11, 6, 12, 13, 14, 15, 16, 17, 18, 19, 20, 21, 22, 1, 23, 24, 25, 26, 27, 28, 29, 30, 31, 32, 33, 34, 35, 36, 37, 38, 39, 40, 41, 42, 43, 44, 45, 46, 47, 48] rfl (by decide +kernel)
set_option maxRecDepth 20000 in
theorem gX16_isRound_X16_reach : GoodIn wsX16_isRound (wsV RX16 142 RX16 yX16_reach wsX16_reach) := goodIn_app (goodIn_of _ (by decide +kernel)) ggX16_isRound_X16_reach
set_option maxRecDepth 20000 in
theorem ggX16_reach_X16_fieldsOf : GoodIn wsX16_reach wsX16_fieldsOf := goodIn_r _ [7, 1, 8, 9, 10, 6, 11, 12, 13, 27, 28, 29, 30, 31, 32, 33, 34, 35, 36, 37, 38, 39, 40, 41, 42, 43, 44] rfl (by decide +kernel)
set_option maxRecDepth 20000 in
theorem gX16_reach_X16_fieldsOf : GoodIn wsX16_reach (wsV RX16 123 RX16 yX16_fieldsOf wsX16_fieldsOf) := goodIn_app (goodIn_of _ (by decide +kernel)) ggX16_reach_X16_fieldsOf
set_option maxRecDepth 20000 in
theorem ggX16_reach_X16_ownIn : GoodIn wsX16_reach wsX16_ownIn := goodIn_r _ [17, 18, 19, 20, 21, 6, 22, 8, 9, 10, 11, 12, 13, 23, 24, 25, 26, 27, 28, 29, 30, 31, 32, 33, 34, 35, 36, 37, 38, 39, 40, 41, 42, 43, 44] rfl (by decide +kernel)
set_option maxRecDepth 20000 in
theorem gX16_reach_X16_ownIn : GoodIn wsX16_reach (wsV RX16 145 RX16 yX16_ownIn wsX16_ownIn) := goodIn_app (goodIn_of _ (by decide +kernel)) ggX16_reach_X16_ownIn
set_option maxRecDepth 20000 in
theorem ggX16_reach_X16_typeEnd : GoodIn wsX16_reach wsX16_typeEnd := goodIn_r _ [22, 8, 9, 10, 6, 11, 12, 13, 27, 28, 29, 30, 31, 32, 33, 34, 35, 36, 37, 38, 39, 40, 41, 42, 43, 44] rfl (by decide +kernel)
set_option maxRecDepth 20000 in
theorem gX16_reach_X16_typeEnd : GoodIn wsX16_reach (wsV RX16 110 RX16 yX16_typeEnd wsX16_typeEnd) := goodIn_app (goodIn_of _ (by decide +kernel)) ggX16_reach_X16_typeEnd
set_option maxRecDepth 20000 in
theorem ggX16_read_X16_overAll : GoodIn wsX16_read wsX16_overAll := goodIn_r _ [13, 7, 8, 3, 14, 15, 16, 17, 18, 19, 1, 20, 21, 22, 12, 23, 4, 24, 25, 26, 27, 28, 29, 30, 31, 5, 32, 33, 34, 35, 2, 36, 37, 38, 39, 40, 41, 42, 43, 44, 45, 46, 47, 48, 49, 50, 51, 52, 53, 6, 54, 55, 56, 57, 58, 59, 60, 61, 62, 63, 64, 65, 66, 67, 68, 69, 127, 128, 129, 130, 131, 132, 133, 134, 135, 136, 137, 138, 139, 140, 141, 142, 143, 144] rfl (by decide +kernel)
set_option maxRecDepth 20000 in
theorem gX16_read_X16_overAll : GoodIn wsX16_read (wsV RX16 148 RX16 yX16_overAll wsX16_overAll) := goodIn_app (goodIn_of _ (by decide +kernel)) ggX16_read_X16_overAll
set_option maxRecDepth 20000 in
theorem ggX16_read_X16_isGood : GoodIn wsX16_read wsX16_isGood := goodIn_r _ [23, 4, 127, 128, 129, 130, 131, 132, 133, 134, 135, 136, 137, 138, 139, 140, 141, 142, 143, 144] rfl (by decide +kernel)
set_option maxRecDepth 20000 in
theorem gX16_read_X16_isGood : GoodIn wsX16_read (wsV RX16 60 RX16 yX16_isGood wsX16_isGood) := goodIn_app (goodIn_of _ (by decide +kernel)) ggX16_read_X16_isGood
set_option maxRecDepth 20000 in
theorem ggX16_read_X16_lookAll : GoodIn wsX16_read wsX16_lookAll := goodIn_r _ [73, 7, 8, 15, 16, 17, 18, 19, 52, 53, 66, 20, 21, 22, 12, 23, 4, 74, 75, 76, 77, 32, 33, 34, 35, 1, 2, 78, 79, 80, 81, 14, 82, 83, 84, 85, 86, 87, 88, 89, 28, 29, 30, 31, 5, 90, 91, 92, 93, 94, 95, 96, 97, 98, 99, 100, 101, 102, 103, 104, 105, 106, 107, 108, 109, 58, 59, 60, 61, 110, 111, 112, 113, 127, 128, 129, 130, 131, 132, 133, 134, 135, 136, 137, 138, 139, 140, 141, 142, 143, 144] rfl (by decide +kernel)
set_option maxRecDepth 20000 in
theorem gX16_read_X16_lookAll : GoodIn wsX16_read (wsV RX16 151 RX16 yX16_lookAll wsX16_lookAll) := goodIn_app (goodIn_of _ (by decide +kernel)) ggX16_read_X16_lookAll
set_option maxRecDepth 20000 in
theorem ggX16_read_X16_isRound : GoodIn wsX16_read wsX16_isRound := goodIn_r _ [117, 7, 118, 119, 120, 121, 12, 122, 8, 74, 75, 76, 77, 32, 33, 34, 35, 1, 2, 123, 124, 125, 126, 82, 83, 84, 85, 86, 87, 88, 89, 127, 128, 129, 130, 131, 132, 133, 134, 135, 136, 137, 138, 139, 140, 141, 142, 143, 144] rfl (by decide +kernel)
set_option maxRecDepth 20000 in
theorem gX16_read_X16_isRound : GoodIn wsX16_read (wsV RX16 154 RX16 yX16_isRound wsX16_isRound) := goodIn_app (goodIn_of _ (by decide +kernel)) ggX16_read_X16_isRound
set_option maxRecDepth 20000 in
theorem ggX16_read_X16_fail : GoodIn wsX16_read wsX16_fail := goodIn_r _ [31, 4, 5, 127, 128, 129, 130, 131, 132, 133, 134, 135, 136, 137, 138, 139, 140, 141, 142, 143, 144] rfl (by decide +kernel)
set_option maxRecDepth 20000 in
theorem gX16_read_X16_fail : GoodIn wsX16_read (wsV RX16 53 RX16 yX16_fail wsX16_fail) := goodIn_app (goodIn_of _ (by decide +kernel)) ggX16_read_X16_fail
set_option maxRecDepth 20000 in
theorem ggX16_number_X16_shortAt : GoodIn wsX16_number wsX16_shortAt := goodIn_r _ [5, 6, 7, 8, 4, 9, 10, 11, 12, 13, 14, 15, 16, 17, 18, 19, 20, 21, 22, 23, 24, 25, 26, 27, 28, 29] rfl (by decide +kernel)
set_option maxRecDepth 20000 in
theorem gX16_number_X16_shortAt : GoodIn wsX16_number (wsV RX16 82 RX16 yX16_shortAt wsX16_shortAt) := goodIn_app (goodIn_of _ (by decide +kernel)) ggX16_number_X16_shortAt
set_option maxRecDepth 20000 in
theorem ggX16_abilitiesOf_X16_byteAt : GoodIn wsX16_abilitiesOf wsX16_byteAt := goodIn_r _ [7, 8, 9, 10, 11, 12, 13, 14, 15, 16, 17, 18, 19, 20, 21, 22, 23, 24, 25, 26, 27] rfl (by decide +kernel)
set_option maxRecDepth 20000 in
theorem gX16_abilitiesOf_X16_byteAt : GoodIn wsX16_abilitiesOf (wsV RX16 46 RX16 yX16_byteAt wsX16_byteAt) := goodIn_app (goodIn_of _ (by decide +kernel)) ggX16_abilitiesOf_X16_byteAt
set_option maxRecDepth 20000 in
theorem ggX16_identity_X16_number : GoodIn wsX16_identity wsX16_number := goodIn_r _ [7, 8, 9, 10, 6, 11, 12, 13, 14, 15, 16, 17, 18, 19, 20, 21, 22, 23, 24, 25, 26, 27, 28, 29, 30, 31, 32, 33, 34, 35] rfl (by decide +kernel)
set_option maxRecDepth 20000 in
theorem gX16_identity_X16_number : GoodIn wsX16_identity (wsV RX16 157 RX16 yX16_number wsX16_number) := goodIn_app (goodIn_of _ (by decide +kernel)) ggX16_identity_X16_number
set_option maxRecDepth 20000 in
theorem ggX16_identity_X16_shortAt : GoodIn wsX16_identity wsX16_shortAt := goodIn_r _ [11, 12, 13, 14, 6, 15, 16, 17, 18, 19, 20, 21, 22, 23, 24, 25, 26, 27, 28, 29, 30, 31, 32, 33, 34, 35] rfl (by decide +kernel)
set_option maxRecDepth 20000 in
theorem gX16_identity_X16_shortAt : GoodIn wsX16_identity (wsV RX16 82 RX16 yX16_shortAt wsX16_shortAt) := goodIn_app (goodIn_of _ (by decide +kernel)) ggX16_identity_X16_shortAt
set_option maxRecDepth 20000 in
theorem ggX16_identity_X16_byteAt : GoodIn wsX16_identity wsX16_byteAt := goodIn_r _ [15, 16, 17, 18, 19, 20, 21, 22, 23, 24, 25, 26, 27, 28, 29, 30, 31, 32, 33, 34, 35] rfl (by decide +kernel)
set_option maxRecDepth 20000 in
theorem gX16_identity_X16_byteAt : GoodIn wsX16_identity (wsV RX16 46 RX16 yX16_byteAt wsX16_byteAt) := goodIn_app (goodIn_of _ (by decide +kernel)) ggX16_identity_X16_byteAt
set_option maxRecDepth 20000 in
theorem ggX16_typeAt_X16_typeEnd : GoodIn wsX16_typeAt wsX16_typeEnd := goodIn_r _ [6, 7, 8, 9, 5, 10, 11, 12, 13, 14, 15, 16, 17, 18, 19, 20, 21, 22, 23, 24, 25, 26, 27, 28, 29, 30] rfl (by decide +kernel)
set_option maxRecDepth 20000 in
theorem gX16_typeAt_X16_typeEnd : GoodIn wsX16_typeAt (wsV RX16 110 RX16 yX16_typeEnd wsX16_typeEnd) := goodIn_app (goodIn_of _ (by decide +kernel)) ggX16_typeAt_X16_typeEnd
set_option maxRecDepth 20000 in
theorem ggX16_typeAt_X16_byteAt : GoodIn wsX16_typeAt wsX16_byteAt := goodIn_r _ [10, 11, 12, 13, 14, 15, 16, 17, 18, 19, 20, 21, 22, 23, 24, 25, 26, 27, 28, 29, 30] rfl (by decide +kernel)
set_option maxRecDepth 20000 in
theorem gX16_typeAt_X16_byteAt : GoodIn wsX16_typeAt (wsV RX16 46 RX16 yX16_byteAt wsX16_byteAt) := goodIn_app (goodIn_of _ (by decide +kernel)) ggX16_typeAt_X16_byteAt
set_option maxRecDepth 20000 in
theorem ggX16_field_X16_typeEnd : GoodIn wsX16_field wsX16_typeEnd := goodIn_r _ [6, 7, 8, 9, 5, 10, 11, 12, 18, 19, 20, 21, 22, 23, 24, 25, 26, 27, 28, 29, 30, 31, 32, 33, 34, 35] rfl (by decide +kernel)
set_option maxRecDepth 20000 in
theorem gX16_field_X16_typeEnd : GoodIn wsX16_field (wsV RX16 110 RX16 yX16_typeEnd wsX16_typeEnd) := goodIn_app (goodIn_of _ (by decide +kernel)) ggX16_field_X16_typeEnd
set_option maxRecDepth 20000 in
theorem ggX16_field_X16_typeAt : GoodIn wsX16_field wsX16_typeAt := goodIn_r _ [16, 17, 2, 3, 4, 5, 6, 7, 8, 9, 10, 11, 12, 18, 19, 20, 21, 22, 23, 24, 25, 26, 27, 28, 29, 30, 31, 32, 33, 34, 35] rfl (by decide +kernel)
set_option maxRecDepth 20000 in
theorem gX16_field_X16_typeAt : GoodIn wsX16_field (wsV RX16 163 RX16 yX16_typeAt wsX16_typeAt) := goodIn_app (goodIn_of _ (by decide +kernel)) ggX16_field_X16_typeAt
set_option maxRecDepth 20000 in
theorem ggX16_flags_X16_byteAt : GoodIn wsX16_flags wsX16_byteAt := goodIn_r _ [8, 9, 10, 11, 12, 13, 14, 15, 16, 17, 18, 19, 20, 21, 22, 23, 24, 25, 26, 27, 28] rfl (by decide +kernel)
set_option maxRecDepth 20000 in
theorem gX16_flags_X16_byteAt : GoodIn wsX16_flags (wsV RX16 46 RX16 yX16_byteAt wsX16_byteAt) := goodIn_app (goodIn_of _ (by decide +kernel)) ggX16_flags_X16_byteAt
set_option maxRecDepth 20000 in
theorem ggX16_listOf_X16_listAt : GoodIn wsX16_listOf wsX16_listAt := goodIn_r _ [7, 8, 9, 10, 11, 6, 12, 13, 14, 15, 16, 17, 18, 19, 20, 21, 22, 23, 24, 25, 26, 27, 28, 29, 30, 31, 32, 33, 34, 35, 36, 37, 38, 39, 40] rfl (by decide +kernel)
set_option maxRecDepth 20000 in
theorem gX16_listOf_X16_listAt : GoodIn wsX16_listOf (wsV RX16 139 RX16 yX16_listAt wsX16_listAt) := goodIn_app (goodIn_of _ (by decide +kernel)) ggX16_listOf_X16_listAt
set_option maxRecDepth 20000 in
theorem ggX16_listOf_X16_listEnd : GoodIn wsX16_listOf wsX16_listEnd := goodIn_r _ [12, 13, 14, 15, 6, 16, 17, 18, 19, 20, 21, 22, 23, 24, 25, 26, 27, 28, 29, 30, 31, 32, 33, 34, 35, 36, 37, 38, 39, 40] rfl (by decide +kernel)
set_option maxRecDepth 20000 in
theorem gX16_listOf_X16_listEnd : GoodIn wsX16_listOf (wsV RX16 136 RX16 yX16_listEnd wsX16_listEnd) := goodIn_app (goodIn_of _ (by decide +kernel)) ggX16_listOf_X16_listEnd
set_option maxRecDepth 20000 in
theorem ggX16_many_X16_listOf : GoodIn wsX16_many wsX16_listOf := goodIn_r _ [6, 1, 7, 8, 9, 10, 5, 11, 12, 13, 14, 15, 16, 17, 18, 19, 20, 21, 22, 23, 24, 25, 26, 27, 28, 29, 30, 31, 32, 33, 34, 35, 36, 37, 38, 39, 40, 41, 42, 43, 44] rfl (by decide +kernel)
set_option maxRecDepth 20000 in
theorem gX16_many_X16_listOf : GoodIn wsX16_many (wsV RX16 167 RX16 yX16_listOf wsX16_listOf) := goodIn_app (goodIn_of _ (by decide +kernel)) ggX16_many_X16_listOf
set_option maxRecDepth 20000 in
theorem ggX16_many_X16_byteAt : GoodIn wsX16_many wsX16_byteAt := goodIn_r _ [20, 21, 22, 27, 28, 29, 30, 31, 32, 33, 34, 35, 36, 37, 38, 39, 40, 41, 42, 43, 44] rfl (by decide +kernel)
set_option maxRecDepth 20000 in
theorem gX16_many_X16_byteAt : GoodIn wsX16_many (wsV RX16 46 RX16 yX16_byteAt wsX16_byteAt) := goodIn_app (goodIn_of _ (by decide +kernel)) ggX16_many_X16_byteAt
set_option maxRecDepth 20000 in
theorem ggX16_listed_X16_listOf : GoodIn wsX16_listed wsX16_listOf := goodIn_r _ [5, 6, 7, 8, 9, 10, 4, 11, 12, 13, 14, 15, 16, 17, 18, 19, 20, 21, 22, 23, 24, 25, 26, 32, 33, 34, 35, 36, 37, 38, 39, 40, 41, 42, 43, 44, 45, 46, 47, 48, 49] rfl (by decide +kernel)
set_option maxRecDepth 20000 in
theorem gX16_listed_X16_listOf : GoodIn wsX16_listed (wsV RX16 167 RX16 yX16_listOf wsX16_listOf) := goodIn_app (goodIn_of _ (by decide +kernel)) ggX16_listed_X16_listOf
set_option maxRecDepth 20000 in
theorem ggX16_listed_X16_typeEnd : GoodIn wsX16_listed wsX16_typeEnd := goodIn_r _ [26, 17, 18, 19, 4, 20, 21, 22, 32, 33, 34, 35, 36, 37, 38, 39, 40, 41, 42, 43, 44, 45, 46, 47, 48, 49] rfl (by decide +kernel)
set_option maxRecDepth 20000 in
theorem gX16_listed_X16_typeEnd : GoodIn wsX16_listed (wsV RX16 110 RX16 yX16_typeEnd wsX16_typeEnd) := goodIn_app (goodIn_of _ (by decide +kernel)) ggX16_listed_X16_typeEnd
set_option maxRecDepth 20000 in
theorem ggX16_listed_X16_typeAt : GoodIn wsX16_listed wsX16_typeAt := goodIn_r _ [30, 31, 23, 24, 25, 4, 26, 17, 18, 19, 20, 21, 22, 32, 33, 34, 35, 36, 37, 38, 39, 40, 41, 42, 43, 44, 45, 46, 47, 48, 49] rfl (by decide +kernel)
set_option maxRecDepth 20000 in
theorem gX16_listed_X16_typeAt : GoodIn wsX16_listed (wsV RX16 163 RX16 yX16_typeAt wsX16_typeAt) := goodIn_app (goodIn_of _ (by decide +kernel)) ggX16_listed_X16_typeAt
set_option maxRecDepth 20000 in
theorem ggX16_foreignModule_X16_shortAt : GoodIn wsX16_foreignModule wsX16_shortAt := goodIn_r _ [7, 8, 9, 10, 6, 11, 12, 13, 14, 15, 16, 17, 18, 19, 20, 21, 22, 23, 24, 25, 26, 27, 28, 29, 30, 31] rfl (by decide +kernel)
set_option maxRecDepth 20000 in
theorem gX16_foreignModule_X16_shortAt : GoodIn wsX16_foreignModule (wsV RX16 82 RX16 yX16_shortAt wsX16_shortAt) := goodIn_app (goodIn_of _ (by decide +kernel)) ggX16_foreignModule_X16_shortAt
set_option maxRecDepth 20000 in
theorem ggX16_foreignNumber_X16_byteAt : GoodIn wsX16_foreignNumber wsX16_byteAt := goodIn_r _ [7, 8, 9, 10, 11, 12, 13, 14, 15, 16, 17, 18, 19, 20, 21, 22, 23, 24, 25, 26, 27] rfl (by decide +kernel)
set_option maxRecDepth 20000 in
theorem gX16_foreignNumber_X16_byteAt : GoodIn wsX16_foreignNumber (wsV RX16 46 RX16 yX16_byteAt wsX16_byteAt) := goodIn_app (goodIn_of _ (by decide +kernel)) ggX16_foreignNumber_X16_byteAt
set_option maxRecDepth 20000 in
theorem ggX16_element_X16_typeAt : GoodIn wsX16_element wsX16_typeAt := goodIn_r _ [6, 7, 8, 9, 10, 5, 11, 12, 13, 14, 15, 16, 17, 18, 19, 20, 21, 22, 23, 24, 25, 26, 27, 28, 29, 30, 31, 32, 33, 34, 35] rfl (by decide +kernel)
set_option maxRecDepth 20000 in
theorem gX16_element_X16_typeAt : GoodIn wsX16_element (wsV RX16 163 RX16 yX16_typeAt wsX16_typeAt) := goodIn_app (goodIn_of _ (by decide +kernel)) ggX16_element_X16_typeAt
set_option maxRecDepth 20000 in
theorem ggX16_operation_X16_byteAt : GoodIn wsX16_operation wsX16_byteAt := goodIn_r _ [7, 8, 9, 10, 11, 12, 13, 14, 15, 16, 17, 18, 19, 20, 21, 22, 23, 24, 25, 26, 27] rfl (by decide +kernel)
set_option maxRecDepth 20000 in
theorem gX16_operation_X16_byteAt : GoodIn wsX16_operation (wsV RX16 46 RX16 yX16_byteAt wsX16_byteAt) := goodIn_app (goodIn_of _ (by decide +kernel)) ggX16_operation_X16_byteAt
set_option maxRecDepth 20000 in
theorem ggX16_number__X16_byteAt : GoodIn wsX16_number_ wsX16_byteAt := goodIn_r _ [6, 7, 8, 9, 10, 11, 12, 13, 14, 15, 16, 17, 18, 19, 20, 21, 22, 23, 24, 25, 26] rfl (by decide +kernel)
set_option maxRecDepth 20000 in
theorem gX16_number__X16_byteAt : GoodIn wsX16_number_ (wsV RX16 46 RX16 yX16_byteAt wsX16_byteAt) := goodIn_app (goodIn_of _ (by decide +kernel)) ggX16_number__X16_byteAt
set_option maxRecDepth 20000 in
theorem ggX16_operand_X16_byteAt : GoodIn wsX16_operand wsX16_byteAt := goodIn_r _ [7, 8, 9, 18, 19, 20, 21, 22, 23, 24, 25, 26, 27, 28, 29, 30, 31, 32, 33, 34, 35] rfl (by decide +kernel)
set_option maxRecDepth 20000 in
theorem gX16_operand_X16_byteAt : GoodIn wsX16_operand (wsV RX16 46 RX16 yX16_byteAt wsX16_byteAt) := goodIn_app (goodIn_of _ (by decide +kernel)) ggX16_operand_X16_byteAt
set_option maxRecDepth 20000 in
theorem ggX16_operand_X16_operandBytes : GoodIn wsX16_operand wsX16_operandBytes := goodIn_r _ [12] rfl (by decide +kernel)
set_option maxRecDepth 20000 in
theorem gX16_operand_X16_operandBytes : GoodIn wsX16_operand (va_wsS RX16 75 yX16_operandBytes wsX16_operandBytes) := goodIn_app (goodIn_of _ (by decide +kernel)) ggX16_operand_X16_operandBytes
set_option maxRecDepth 20000 in
theorem ggX16_operand_X16_number_ : GoodIn wsX16_operand wsX16_number_ := goodIn_r _ [16, 17, 3, 4, 5, 6, 7, 8, 9, 18, 19, 20, 21, 22, 23, 24, 25, 26, 27, 28, 29, 30, 31, 32, 33, 34, 35] rfl (by decide +kernel)
set_option maxRecDepth 20000 in
theorem gX16_operand_X16_number_ : GoodIn wsX16_operand (wsV RX16 170 RX16 yX16_number_ wsX16_number_) := goodIn_app (goodIn_of _ (by decide +kernel)) ggX16_operand_X16_number_
set_option maxRecDepth 20000 in
theorem ggX17_result_X17_four : GoodIn wsX17_result wsX17_four := goodIn_r _ [7] rfl (by decide +kernel)
set_option maxRecDepth 20000 in
theorem gX17_result_X17_four : GoodIn wsX17_result (va_wsS RX17 21 yX17_four wsX17_four) := goodIn_app (goodIn_of _ (by decide +kernel)) ggX17_result_X17_four
set_option maxRecDepth 20000 in
theorem ggX17_result_X17_isOf : GoodIn wsX17_result wsX17_isOf := goodIn_r _ [10] rfl (by decide +kernel)
set_option maxRecDepth 20000 in
theorem gX17_result_X17_isOf : GoodIn wsX17_result (va_wsS RX17 32 yX17_isOf wsX17_isOf) := goodIn_app (goodIn_of _ (by decide +kernel)) ggX17_result_X17_isOf
set_option maxRecDepth 20000 in
theorem ggX17_reckon_X17_lay : GoodIn wsX17_reckon wsX17_lay := goodIn_r _ [6, 7] rfl (by decide +kernel)
set_option maxRecDepth 20000 in
theorem gX17_reckon_X17_lay : GoodIn wsX17_reckon (va_wsS RX17 40 yX17_lay wsX17_lay) := goodIn_app (goodIn_of _ (by decide +kernel)) ggX17_reckon_X17_lay
set_option maxRecDepth 20000 in
theorem ggX17_reckon_X17_clear : GoodIn wsX17_reckon wsX17_clear := goodIn_r _ [11, 12, 46, 47, 48, 49, 50] rfl (by decide +kernel)
set_option maxRecDepth 20000 in
theorem gX17_reckon_X17_clear : GoodIn wsX17_reckon (wsV RX17 44 RX17 yX17_clear wsX17_clear) := goodIn_app (goodIn_of _ (by decide +kernel)) ggX17_reckon_X17_clear
set_option maxRecDepth 20000 in
theorem ggX17_reckon_X17_add : GoodIn wsX17_reckon wsX17_add := goodIn_r _ [16, 1, 2, 12, 17, 18, 19, 20, 5, 21, 22, 23, 24, 25, 26, 27, 28, 29, 46, 47, 48, 49, 50] rfl (by decide +kernel)
set_option maxRecDepth 20000 in
theorem gX17_reckon_X17_add : GoodIn wsX17_reckon (wsV RX17 47 RX17 yX17_add wsX17_add) := goodIn_app (goodIn_of _ (by decide +kernel)) ggX17_reckon_X17_add
set_option maxRecDepth 20000 in
theorem ggX17_reckon_X17_compare : GoodIn wsX17_reckon wsX17_compare := goodIn_r _ [32, 33] rfl (by decide +kernel)
set_option maxRecDepth 20000 in
theorem gX17_reckon_X17_compare : GoodIn wsX17_reckon (va_wsS RX17 51 yX17_compare wsX17_compare) := goodIn_app (goodIn_of _ (by decide +kernel)) ggX17_reckon_X17_compare
set_option maxRecDepth 20000 in
theorem ggX17_reckon_X17_subtract : GoodIn wsX17_reckon wsX17_subtract := goodIn_r _ [37, 1, 2, 12, 17, 18, 19, 20, 5, 21, 22, 23, 24, 25, 26, 27, 28, 29, 46, 47, 48, 49, 50] rfl (by decide +kernel)
set_option maxRecDepth 20000 in
theorem gX17_reckon_X17_subtract : GoodIn wsX17_reckon (wsV RX17 55 RX17 yX17_subtract wsX17_subtract) := goodIn_app (goodIn_of _ (by decide +kernel)) ggX17_reckon_X17_subtract
set_option maxRecDepth 20000 in
theorem ggX17_reckon_X17_multiply : GoodIn wsX17_reckon wsX17_multiply := goodIn_r _ [41, 1, 2, 12, 7, 18, 19, 20, 5, 21, 22, 23, 24, 25, 26, 27, 28, 29, 46, 47, 48, 49, 50] rfl (by decide +kernel)
set_option maxRecDepth 20000 in
theorem gX17_reckon_X17_multiply : GoodIn wsX17_reckon (wsV RX17 58 RX17 yX17_multiply wsX17_multiply) := goodIn_app (goodIn_of _ (by decide +kernel)) ggX17_reckon_X17_multiply
set_option maxRecDepth 20000 in
theorem ggX17_reckon_X17_divide : GoodIn wsX17_reckon wsX17_divide := goodIn_r _ [45, 1, 2, 33, 22, 23, 24, 25, 5, 26, 30, 31, 32, 27, 28, 29, 46, 47, 48, 49, 50] rfl (by decide +kernel)
set_option maxRecDepth 20000 in
theorem gX17_reckon_X17_divide : GoodIn wsX17_reckon (wsV RX17 61 RX17 yX17_divide wsX17_divide) := goodIn_app (goodIn_of _ (by decide +kernel)) ggX17_reckon_X17_divide
set_option maxRecDepth 20000 in
theorem ggX17_add_X17_result : GoodIn wsX17_add wsX17_result := goodIn_r _ [9, 3, 10, 11, 12, 13, 8, 14, 15, 16, 17, 18, 19, 20, 21, 22] rfl (by decide +kernel)
set_option maxRecDepth 20000 in
theorem gX17_add_X17_result : GoodIn wsX17_add (wsV RX17 66 RX17 yX17_result wsX17_result) := goodIn_app (goodIn_of _ (by decide +kernel)) ggX17_add_X17_result
set_option maxRecDepth 20000 in
theorem ggX17_subtract_X17_result : GoodIn wsX17_subtract wsX17_result := goodIn_r _ [9, 3, 10, 11, 12, 13, 8, 14, 15, 16, 17, 18, 19, 20, 21, 22] rfl (by decide +kernel)
set_option maxRecDepth 20000 in
theorem gX17_subtract_X17_result : GoodIn wsX17_subtract (wsV RX17 66 RX17 yX17_result wsX17_result) := goodIn_app (goodIn_of _ (by decide +kernel)) ggX17_subtract_X17_result
set_option maxRecDepth 20000 in
theorem ggX17_multiply_X17_result : GoodIn wsX17_multiply wsX17_result := goodIn_r _ [9, 3, 10, 11, 12, 13, 8, 14, 15, 16, 17, 18, 19, 20, 21, 22] rfl (by decide +kernel)
set_option maxRecDepth 20000 in
theorem gX17_multiply_X17_result : GoodIn wsX17_multiply (wsV RX17 66 RX17 yX17_result wsX17_result) := goodIn_app (goodIn_of _ (by decide +kernel)) ggX17_multiply_X17_result
set_option maxRecDepth 20000 in
theorem ggX17_divide_X17_four : GoodIn wsX17_divide wsX17_four := goodIn_r _ [9] rfl (by decide +kernel)
set_option maxRecDepth 20000 in
theorem gX17_divide_X17_four : GoodIn wsX17_divide (va_wsS RX17 21 yX17_four wsX17_four) := goodIn_app (goodIn_of _ (by decide +kernel)) ggX17_divide_X17_four
set_option maxRecDepth 20000 in
theorem ggX17_divide_X17_compare : GoodIn wsX17_divide wsX17_compare := goodIn_r _ [12, 3] rfl (by decide +kernel)
set_option maxRecDepth 20000 in
theorem gX17_divide_X17_compare : GoodIn wsX17_divide (va_wsS RX17 51 yX17_compare wsX17_compare) := goodIn_app (goodIn_of _ (by decide +kernel)) ggX17_divide_X17_compare
set_option maxRecDepth 20000 in
theorem ggX17_divide_X17_isOf : GoodIn wsX17_divide wsX17_isOf := goodIn_r _ [15] rfl (by decide +kernel)
set_option maxRecDepth 20000 in
theorem gX17_divide_X17_isOf : GoodIn wsX17_divide (va_wsS RX17 32 yX17_isOf wsX17_isOf) := goodIn_app (goodIn_of _ (by decide +kernel)) ggX17_divide_X17_isOf
set_option maxRecDepth 20000 in
theorem ggX18_findModule_X16_number : GoodIn wsX18_findModule wsX16_number := goodIn_r _ [7, 8, 9, 10, 6, 11, 12, 13, 14, 15, 16, 17, 96, 97, 98, 99, 100, 101, 102, 103, 104, 105, 106, 107, 108, 109, 110, 111, 112, 113] rfl (by decide +kernel)
set_option maxRecDepth 20000 in
theorem gX18_findModule_X16_number : GoodIn wsX18_findModule (wsV RX18 21 RX16 yX16_number wsX16_number) := goodIn_app (goodIn_of _ (by decide +kernel)) ggX18_findModule_X16_number
set_option maxRecDepth 20000 in
theorem ggX18_load_X18_loadOne : GoodIn wsX18_load wsX18_loadOne := goodIn_r _ [6, 1, 7, 8, 9, 10, 11, 12, 13, 14, 15, 16, 17, 18, 19, 20, 21, 22, 2, 3, 4, 5, 23, 24, 25, 26, 27, 28, 29, 30, 31, 32, 33, 34, 35, 36, 37, 38, 39, 40, 41, 42, 43, 44, 45, 46, 47, 48, 49, 50, 51, 52, 53, 54, 55, 56, 57, 58, 59, 60, 61, 62, 63, 64, 65, 66, 67, 68, 69, 70, 71, 72, 73, 74, 75, 76, 77, 78, 79, 80, 81, 82, 83, 84, 85, 86, 87, 88, 89, 90, 91, 92, 93, 94, 95, 96, 97, 98, 99, 100, 101, 102, 103, 104, 105, 106, 107, 108, 109, 110] rfl (by decide +kernel)
set_option maxRecDepth 20000 in
theorem gX18_load_X18_loadOne : GoodIn wsX18_load (wsV RX18 37 RX18 yX18_loadOne wsX18_loadOne) := goodIn_app (goodIn_of _ (by decide +kernel)) ggX18_load_X18_loadOne
set_option maxRecDepth 20000 in
theorem ggX18_loadOne_X15_make : GoodIn wsX18_loadOne wsX15_make := goodIn_r _ [11, 12, 13, 14, 15, 16, 17, 104, 105, 106, 107, 108, 109] rfl (by decide +kernel)
set_option maxRecDepth 20000 in
theorem gX18_loadOne_X15_make : GoodIn wsX18_loadOne (wsV RX18 54 RX15 yX15_make wsX15_make) := goodIn_app (goodIn_of _ (by decide +kernel)) ggX18_loadOne_X15_make
set_option maxRecDepth 20000 in
theorem ggX18_loadOne_X18_loadOne : GoodIn wsX18_loadOne wsX18_loadOne := goodIn_r _ [0, 1, 2, 3, 4, 5, 6, 7, 8, 9, 10, 11, 12, 13, 14, 15, 16, 17, 18, 19, 20, 21, 22, 23, 24, 25, 26, 27, 28, 29, 30, 31, 32, 33, 34, 35, 36, 37, 38, 39, 40, 41, 42, 43, 44, 45, 46, 47, 48, 49, 50, 51, 52, 53, 54, 55, 56, 57, 58, 59, 60, 61, 62, 63, 64, 65, 66, 67, 68, 69, 70, 71, 72, 73, 74, 75, 76, 77, 78, 79, 80, 81, 82, 83, 84, 85, 86, 87, 88, 89, 90, 91, 92, 93, 94, 95, 96, 97, 98, 99, 100, 101, 102, 103, 104, 105, 106, 107, 108, 109] rfl (by decide +kernel)
set_option maxRecDepth 20000 in
theorem gX18_loadOne_X18_loadOne : GoodIn wsX18_loadOne (wsV RX18 37 RX18 yX18_loadOne wsX18_loadOne) := goodIn_app (goodIn_of _ (by decide +kernel)) ggX18_loadOne_X18_loadOne
set_option maxRecDepth 20000 in
theorem ggX18_loadOne_X15_add : GoodIn wsX18_loadOne wsX15_add := goodIn_r _ [25, 17, 16, 104, 105, 106, 107, 108, 109] rfl (by decide +kernel)
set_option maxRecDepth 20000 in
theorem gX18_loadOne_X15_add : GoodIn wsX18_loadOne (wsV RX18 63 RX15 yX15_add wsX15_add) := goodIn_app (goodIn_of _ (by decide +kernel)) ggX18_loadOne_X15_add
set_option maxRecDepth 20000 in
theorem ggX18_keep_X18_keepOne : GoodIn wsX18_keep wsX18_keepOne := goodIn_r _ [6, 1, 7, 8, 9, 10, 11, 12, 13, 14, 15, 16, 17, 18, 2, 3, 4, 5, 19, 20, 21, 22, 23, 24, 25, 26, 27, 28, 29, 30, 31, 32, 33, 34, 35, 36, 37, 38, 39, 40, 41, 42, 43, 44, 45, 46, 47, 48, 49, 50, 51, 52, 53, 54, 55, 56, 57, 58, 59, 60, 61, 62, 63, 64, 65, 66, 67, 68, 69, 70, 71, 72, 73, 74, 75, 76, 77, 78, 79, 80, 81, 82, 83, 84, 85, 86, 87, 88, 89, 90, 91, 92, 93, 94, 95, 96, 97, 98, 99, 100, 101, 102] rfl (by decide +kernel)
set_option maxRecDepth 20000 in
theorem gX18_keep_X18_keepOne : GoodIn wsX18_keep (wsV RX18 67 RX18 yX18_keepOne wsX18_keepOne) := goodIn_app (goodIn_of _ (by decide +kernel)) ggX18_keep_X18_keepOne
set_option maxRecDepth 20000 in
theorem ggX18_keepOne_X15_count : GoodIn wsX18_keepOne wsX15_count := goodIn_r _ [11, 12, 13, 96, 97, 98, 99, 100, 101] rfl (by decide +kernel)
set_option maxRecDepth 20000 in
theorem gX18_keepOne_X15_count : GoodIn wsX18_keepOne (wsV RX18 80 RX15 yX15_count wsX15_count) := goodIn_app (goodIn_of _ (by decide +kernel)) ggX18_keepOne_X15_count
set_option maxRecDepth 20000 in
theorem ggX18_keepOne_X18_keepOne : GoodIn wsX18_keepOne wsX18_keepOne := goodIn_r _ [0, 1, 2, 3, 4, 5, 6, 7, 8, 9, 10, 11, 12, 13, 14, 15, 16, 17, 18, 19, 20, 21, 22, 23, 24, 25, 26, 27, 28, 29, 30, 31, 32, 33, 34, 35, 36, 37, 38, 39, 40, 41, 42, 43, 44, 45, 46, 47, 48, 49, 50, 51, 52, 53, 54, 55, 56, 57, 58, 59, 60, 61, 62, 63, 64, 65, 66, 67, 68, 69, 70, 71, 72, 73, 74, 75, 76, 77, 78, 79, 80, 81, 82, 83, 84, 85, 86, 87, 88, 89, 90, 91, 92, 93, 94, 95, 96, 97, 98, 99, 100, 101] rfl (by decide +kernel)
set_option maxRecDepth 20000 in
theorem gX18_keepOne_X18_keepOne : GoodIn wsX18_keepOne (wsV RX18 67 RX18 yX18_keepOne wsX18_keepOne) := goodIn_app (goodIn_of _ (by decide +kernel)) ggX18_keepOne_X18_keepOne
set_option maxRecDepth 20000 in
theorem ggX18_addBytes_X18_addOne : GoodIn wsX18_addBytes wsX18_addOne := goodIn_r _ [6, 1, 7, 8, 9, 10, 11, 12, 13, 14, 15, 16, 17, 18, 19, 20, 21, 22, 23, 2, 3, 4, 5, 24, 25, 26, 27, 28, 29, 30, 31, 32, 33, 34, 35, 36, 37, 38, 39, 40, 41, 42, 43, 44, 45, 46, 47, 48, 49, 50, 51, 52, 53, 54, 55, 56, 57, 58, 59, 60, 61, 62, 63, 64, 65, 66, 67, 68, 69, 70, 71, 72, 73, 74, 75, 76, 77, 78, 79, 80, 81, 82, 83, 84, 85, 86, 87, 88, 89, 90, 91, 92, 93, 94, 95, 96, 97, 98, 99, 100, 101, 102, 103, 104, 105] rfl (by decide +kernel)
set_option maxRecDepth 20000 in
theorem gX18_addBytes_X18_addOne : GoodIn wsX18_addBytes (wsV RX18 90 RX18 yX18_addOne wsX18_addOne) := goodIn_app (goodIn_of _ (by decide +kernel)) ggX18_addBytes_X18_addOne
set_option maxRecDepth 20000 in
theorem ggX18_addOne_X12_add : GoodIn wsX18_addOne wsX12_add := goodIn_r _ [11, 12, 13, 101, 102, 103, 104] rfl (by decide +kernel)
set_option maxRecDepth 20000 in
theorem gX18_addOne_X12_add : GoodIn wsX18_addOne (wsV RX18 98 RX12 yX12_add wsX12_add) := goodIn_app (goodIn_of _ (by decide +kernel)) ggX18_addOne_X12_add
set_option maxRecDepth 20000 in
theorem ggX18_addOne_X12_addNumber : GoodIn wsX18_addOne wsX12_addNumber := goodIn_r _ [17, 18, 8, 9, 10, 11, 12, 13, 101, 102, 103, 104] rfl (by decide +kernel)
set_option maxRecDepth 20000 in
theorem gX18_addOne_X12_addNumber : GoodIn wsX18_addOne (wsV RX18 102 RX12 yX12_addNumber wsX12_addNumber) := goodIn_app (goodIn_of _ (by decide +kernel)) ggX18_addOne_X12_addNumber
set_option maxRecDepth 20000 in
theorem ggX18_addOne_X18_addOne : GoodIn wsX18_addOne wsX18_addOne := goodIn_r _ [0, 1, 2, 3, 4, 5, 6, 7, 8, 9, 10, 11, 12, 13, 14, 15, 16, 17, 18, 19, 20, 21, 22, 23, 24, 25, 26, 27, 28, 29, 30, 31, 32, 33, 34, 35, 36, 37, 38, 39, 40, 41, 42, 43, 44, 45, 46, 47, 48, 49, 50, 51, 52, 53, 54, 55, 56, 57, 58, 59, 60, 61, 62, 63, 64, 65, 66, 67, 68, 69, 70, 71, 72, 73, 74, 75, 76, 77, 78, 79, 80, 81, 82, 83, 84, 85, 86, 87, 88, 89, 90, 91, 92, 93, 94, 95, 96, 97, 98, 99, 100, 101, 102, 103, 104] rfl (by decide +kernel)
set_option maxRecDepth 20000 in
theorem gX18_addOne_X18_addOne : GoodIn wsX18_addOne (wsV RX18 90 RX18 yX18_addOne wsX18_addOne) := goodIn_app (goodIn_of _ (by decide +kernel)) ggX18_addOne_X18_addOne
set_option maxRecDepth 20000 in
theorem ggX18_isThere_X18_findModule : GoodIn wsX18_isThere wsX18_findModule := goodIn_r _ [6, 7, 1, 8, 9, 10, 11, 12, 13, 14, 15, 16, 17, 18, 19, 20, 21, 22, 23, 24, 25, 26, 27, 28, 29, 30, 31, 32, 33, 34, 35, 36, 37, 38, 39, 40, 41, 42, 43, 44, 45, 46, 47, 48, 49, 50, 51, 52, 53, 54, 55, 56, 57, 58, 59, 60, 61, 62, 63, 64, 65, 66, 67, 68, 69, 70, 71, 72, 73, 74, 75, 76, 77, 78, 79, 80, 81, 82, 83, 84, 85, 86, 87, 88, 89, 90, 91, 92, 93, 94, 95, 96, 97, 98, 99, 100, 101, 102, 103, 104, 105, 106, 107, 108, 109, 110, 111, 112, 113, 114, 115, 116, 117, 118] rfl (by decide +kernel)
set_option maxRecDepth 20000 in
theorem gX18_isThere_X18_findModule : GoodIn wsX18_isThere (wsV RX18 106 RX18 yX18_findModule wsX18_findModule) := goodIn_app (goodIn_of _ (by decide +kernel)) ggX18_isThere_X18_findModule
set_option maxRecDepth 20000 in
theorem ggX18_abilitiesThere_X18_findModule : GoodIn wsX18_abilitiesThere wsX18_findModule := goodIn_r _ [6, 7, 1, 8, 9, 10, 11, 12, 13, 14, 15, 16, 17, 18, 19, 20, 21, 22, 29, 30, 31, 32, 33, 34, 35, 36, 37, 38, 39, 40, 41, 42, 43, 44, 45, 46, 47, 48, 49, 50, 51, 52, 53, 54, 55, 56, 57, 58, 59, 60, 61, 62, 63, 64, 65, 66, 67, 68, 69, 70, 71, 72, 73, 74, 75, 76, 77, 78, 79, 80, 81, 82, 83, 84, 85, 86, 87, 88, 89, 90, 91, 92, 93, 94, 95, 96, 97, 98, 99, 100, 101, 102, 103, 104, 105, 106, 107, 108, 109, 110, 111, 112, 113, 114, 115, 116, 117, 118, 119, 120, 121, 122, 123, 124] rfl (by decide +kernel)
set_option maxRecDepth 20000 in
theorem gX18_abilitiesThere_X18_findModule : GoodIn wsX18_abilitiesThere (wsV RX18 106 RX18 yX18_findModule wsX18_findModule) := goodIn_app (goodIn_of _ (by decide +kernel)) ggX18_abilitiesThere_X18_findModule
set_option maxRecDepth 20000 in
theorem ggX18_abilitiesThere_X16_abilitiesOf : GoodIn wsX18_abilitiesThere wsX16_abilitiesOf := goodIn_r _ [26, 27, 28, 17, 18, 19, 11, 20, 21, 22, 107, 108, 109, 110, 111, 112, 113, 114, 115, 116, 117, 118, 119, 120, 121, 122, 123, 124] rfl (by decide +kernel)
set_option maxRecDepth 20000 in
theorem gX18_abilitiesThere_X16_abilitiesOf : GoodIn wsX18_abilitiesThere (wsV RX18 115 RX16 yX16_abilitiesOf wsX16_abilitiesOf) := goodIn_app (goodIn_of _ (by decide +kernel)) ggX18_abilitiesThere_X16_abilitiesOf
set_option maxRecDepth 20000 in
theorem ggX18_flagsThere_X18_findModule : GoodIn wsX18_flagsThere wsX18_findModule := goodIn_r _ [6, 7, 1, 8, 9, 10, 11, 12, 13, 14, 15, 16, 17, 18, 19, 20, 21, 22, 30, 31, 32, 33, 34, 35, 36, 37, 38, 39, 40, 41, 42, 43, 44, 45, 46, 47, 48, 49, 50, 51, 52, 53, 54, 55, 56, 57, 58, 59, 60, 61, 62, 63, 64, 65, 66, 67, 68, 69, 70, 71, 72, 73, 74, 75, 76, 77, 78, 79, 80, 81, 82, 83, 84, 85, 86, 87, 88, 89, 90, 91, 92, 93, 94, 95, 96, 97, 98, 99, 100, 101, 102, 103, 104, 105, 106, 107, 108, 109, 110, 111, 112, 113, 114, 115, 116, 117, 118, 119, 120, 121, 122, 123, 124, 125] rfl (by decide +kernel)
set_option maxRecDepth 20000 in
theorem gX18_flagsThere_X18_findModule : GoodIn wsX18_flagsThere (wsV RX18 106 RX18 yX18_findModule wsX18_findModule) := goodIn_app (goodIn_of _ (by decide +kernel)) ggX18_flagsThere_X18_findModule
set_option maxRecDepth 20000 in
theorem ggX18_flagsThere_X16_flags : GoodIn wsX18_flagsThere wsX16_flags := goodIn_r _ [26, 27, 28, 29, 17, 18, 19, 11, 20, 21, 22, 108, 109, 110, 111, 112, 113, 114, 115, 116, 117, 118, 119, 120, 121, 122, 123, 124, 125] rfl (by decide +kernel)
set_option maxRecDepth 20000 in
theorem gX18_flagsThere_X16_flags : GoodIn wsX18_flagsThere (wsV RX18 126 RX16 yX16_flags wsX16_flags) := goodIn_app (goodIn_of _ (by decide +kernel)) ggX18_flagsThere_X16_flags
set_option maxRecDepth 20000 in
theorem ggX18_manyThere_X18_coinMany : GoodIn wsX18_manyThere wsX18_coinMany := goodIn_r _ [5] rfl (by decide +kernel)
set_option maxRecDepth 20000 in
theorem gX18_manyThere_X18_coinMany : GoodIn wsX18_manyThere (va_wsS RX18 129 yX18_coinMany wsX18_coinMany) := goodIn_app (goodIn_of _ (by decide +kernel)) ggX18_manyThere_X18_coinMany
set_option maxRecDepth 20000 in
theorem ggX18_manyThere_X18_findModule : GoodIn wsX18_manyThere wsX18_findModule := goodIn_r _ [9, 10, 1, 11, 12, 13, 14, 15, 16, 17, 18, 19, 20, 21, 22, 23, 24, 25, 49, 50, 51, 52, 53, 54, 55, 56, 57, 58, 59, 60, 61, 62, 63, 64, 65, 66, 67, 68, 69, 70, 71, 72, 73, 74, 75, 76, 77, 78, 79, 80, 81, 82, 83, 84, 85, 86, 87, 88, 89, 90, 91, 92, 93, 94, 95, 96, 97, 98, 99, 100, 101, 102, 103, 104, 105, 106, 107, 108, 109, 110, 111, 112, 113, 114, 115, 116, 117, 118, 119, 120, 121, 122, 123, 124, 125, 126, 127, 128, 129, 130, 131, 132, 133, 134, 135, 136, 137, 138, 139, 140, 141, 142, 143, 144] rfl (by decide +kernel)
set_option maxRecDepth 20000 in
theorem gX18_manyThere_X18_findModule : GoodIn wsX18_manyThere (wsV RX18 106 RX18 yX18_findModule wsX18_findModule) := goodIn_app (goodIn_of _ (by decide +kernel)) ggX18_manyThere_X18_findModule
set_option maxRecDepth 20000 in
theorem ggX18_manyThere_X16_many : GoodIn wsX18_manyThere wsX16_many := goodIn_r _ [29, 30, 31, 32, 33, 14, 34, 35, 36, 37, 38, 39, 40, 41, 42, 43, 44, 20, 21, 22, 23, 24, 25, 45, 46, 47, 48, 127, 128, 129, 130, 131, 132, 133, 134, 135, 136, 137, 138, 139, 140, 141, 142, 143, 144] rfl (by decide +kernel)
set_option maxRecDepth 20000 in
theorem gX18_manyThere_X16_many : GoodIn wsX18_manyThere (wsV RX18 133 RX16 yX16_many wsX16_many) := goodIn_app (goodIn_of _ (by decide +kernel)) ggX18_manyThere_X16_many
set_option maxRecDepth 20000 in
theorem ggX18_typeThere_X18_coinType : GoodIn wsX18_typeThere wsX18_coinType := goodIn_r _ [5, 6, 7, 8, 9] rfl (by decide +kernel)
set_option maxRecDepth 20000 in
theorem gX18_typeThere_X18_coinType : GoodIn wsX18_typeThere (va_wsS RX18 136 yX18_coinType wsX18_coinType) := goodIn_app (goodIn_of _ (by decide +kernel)) ggX18_typeThere_X18_coinType
set_option maxRecDepth 20000 in
theorem ggX18_typeThere_X18_findModule : GoodIn wsX18_typeThere wsX18_findModule := goodIn_r _ [13, 14, 1, 15, 16, 17, 18, 19, 20, 21, 22, 23, 24, 25, 26, 27, 28, 29, 58, 59, 60, 61, 62, 63, 64, 65, 66, 67, 68, 69, 70, 71, 72, 73, 74, 75, 76, 77, 78, 79, 80, 81, 82, 83, 84, 85, 86, 87, 88, 89, 90, 91, 92, 93, 94, 95, 96, 97, 98, 99, 100, 101, 102, 103, 104, 105, 106, 107, 108, 109, 110, 111, 112, 113, 114, 115, 116, 117, 118, 119, 120, 121, 122, 123, 124, 125, 126, 127, 128, 129, 130, 131, 132, 133, 134, 135, 136, 137, 138, 139, 140, 141, 142, 143, 144, 145, 146, 147, 148, 149, 150, 151, 152, 153] rfl (by decide +kernel)
set_option maxRecDepth 20000 in
theorem gX18_typeThere_X18_findModule : GoodIn wsX18_typeThere (wsV RX18 106 RX18 yX18_findModule wsX18_findModule) := goodIn_app (goodIn_of _ (by decide +kernel)) ggX18_typeThere_X18_findModule
set_option maxRecDepth 20000 in
theorem ggX18_typeThere_X16_listed : GoodIn wsX18_typeThere wsX16_listed := goodIn_r _ [33, 34, 35, 36, 18, 37, 38, 39, 40, 41, 42, 43, 44, 45, 46, 47, 48, 24, 25, 26, 27, 28, 29, 49, 50, 51, 52, 53, 54, 55, 56, 57, 136, 137, 138, 139, 140, 141, 142, 143, 144, 145, 146, 147, 148, 149, 150, 151, 152, 153] rfl (by decide +kernel)
set_option maxRecDepth 20000 in
theorem gX18_typeThere_X16_listed : GoodIn wsX18_typeThere (wsV RX18 140 RX16 yX16_listed wsX16_listed) := goodIn_app (goodIn_of _ (by decide +kernel)) ggX18_typeThere_X16_listed
set_option maxRecDepth 20000 in
theorem ggX18_identityThere_X18_findModule : GoodIn wsX18_identityThere wsX18_findModule := goodIn_r _ [6, 7, 1, 8, 9, 10, 11, 12, 13, 14, 15, 16, 17, 18, 19, 20, 21, 22, 30, 31, 32, 33, 34, 35, 36, 37, 38, 39, 40, 41, 42, 43, 44, 45, 46, 47, 48, 49, 50, 51, 52, 53, 54, 55, 56, 57, 58, 59, 60, 61, 62, 63, 64, 65, 66, 67, 68, 69, 70, 71, 72, 73, 74, 75, 76, 77, 78, 79, 80, 81, 82, 83, 84, 85, 86, 87, 88, 89, 90, 91, 92, 93, 94, 95, 96, 97, 98, 99, 100, 101, 102, 103, 104, 105, 106, 107, 108, 109, 110, 111, 112, 113, 114, 115, 116, 117, 118, 119, 120, 121, 122, 123, 124, 125] rfl (by decide +kernel)
set_option maxRecDepth 20000 in
theorem gX18_identityThere_X18_findModule : GoodIn wsX18_identityThere (wsV RX18 106 RX18 yX18_findModule wsX18_findModule) := goodIn_app (goodIn_of _ (by decide +kernel)) ggX18_identityThere_X18_findModule
set_option maxRecDepth 20000 in
theorem ggX18_identityThere_X16_identity : GoodIn wsX18_identityThere wsX16_identity := goodIn_r _ [26, 27, 28, 29, 9, 10, 11, 12, 13, 14, 15, 16, 17, 18, 19, 20, 21, 22, 108, 109, 110, 111, 112, 113, 114, 115, 116, 117, 118, 119, 120, 121, 122, 123, 124, 125] rfl (by decide +kernel)
set_option maxRecDepth 20000 in
theorem gX18_identityThere_X16_identity : GoodIn wsX18_identityThere (wsV RX18 143 RX16 yX16_identity wsX16_identity) := goodIn_app (goodIn_of _ (by decide +kernel)) ggX18_identityThere_X16_identity
set_option maxRecDepth 20000 in
theorem ggX18_isSame_X18_endsInStructure : GoodIn wsX18_isSame wsX18_endsInStructure := goodIn_r _ [5, 1, 6] rfl (by decide +kernel)
set_option maxRecDepth 20000 in
theorem gX18_isSame_X18_endsInStructure : GoodIn wsX18_isSame (va_wsS RX18 150 yX18_endsInStructure wsX18_endsInStructure) := goodIn_app (goodIn_of _ (by decide +kernel)) ggX18_isSame_X18_endsInStructure
set_option maxRecDepth 20000 in
theorem ggX18_isSame_X16_identity : GoodIn wsX18_isSame wsX16_identity := goodIn_r _ [11, 12, 13, 14, 15, 16, 10, 17, 18, 19, 20, 21, 22, 23, 24, 25, 26, 27, 39, 40, 41, 42, 43, 44, 45, 46, 47, 48, 49, 50, 51, 52, 53, 54, 55, 56] rfl (by decide +kernel)
set_option maxRecDepth 20000 in
theorem gX18_isSame_X16_identity : GoodIn wsX18_isSame (wsV RX18 143 RX16 yX16_identity wsX16_identity) := goodIn_app (goodIn_of _ (by decide +kernel)) ggX18_isSame_X16_identity
set_option maxRecDepth 20000 in
theorem ggX18_isSame_X18_identityThere : GoodIn wsX18_isSame wsX18_identityThere := goodIn_r _ [31, 32, 33, 34, 35, 4, 36, 37, 38, 15, 16, 10, 17, 18, 19, 20, 21, 22, 23, 24, 25, 26, 27, 7, 8, 9, 11, 12, 13, 14, 57, 58, 59, 60, 61, 62, 63, 64, 65, 66, 67, 68, 69, 70, 71, 72, 73, 74, 75, 76, 77, 78, 79, 80, 81, 82, 83, 84, 85, 86, 87, 88, 89, 90, 91, 92, 93, 94, 95, 96, 97, 98, 99, 100, 101, 102, 103, 104, 105, 106, 107, 108, 109, 110, 111, 112, 113, 114, 115, 116, 117, 118, 119, 120, 121, 122, 123, 124, 125, 126, 127, 128, 129, 130, 131, 132, 133, 134, 39, 40, 41, 42, 43, 44, 45, 46, 47, 48, 49, 50, 51, 52, 53, 54, 55, 56] rfl (by decide +kernel)
set_option maxRecDepth 20000 in
theorem gX18_isSame_X18_identityThere : GoodIn wsX18_isSame (wsV RX18 154 RX18 yX18_identityThere wsX18_identityThere) := goodIn_app (goodIn_of _ (by decide +kernel)) ggX18_isSame_X18_identityThere
set_option maxRecDepth 20000 in
theorem ggX18_isSameList_X16_many : GoodIn wsX18_isSameList wsX16_many := goodIn_r _ [5, 6, 7, 8, 9, 4, 10, 11, 12, 13, 14, 15, 16, 17, 18, 19, 20, 21, 22, 23, 24, 25, 26, 27, 28, 29, 30, 93, 94, 95, 96, 97, 98, 99, 100, 101, 102, 103, 104, 105, 106, 107, 108, 109, 110] rfl (by decide +kernel)
set_option maxRecDepth 20000 in
theorem gX18_isSameList_X16_many : GoodIn wsX18_isSameList (wsV RX18 133 RX16 yX16_many wsX16_many) := goodIn_app (goodIn_of _ (by decide +kernel)) ggX18_isSameList_X16_many
set_option maxRecDepth 20000 in
theorem ggX18_isSameList_X18_manyThere : GoodIn wsX18_isSameList wsX18_manyThere := goodIn_r _ [35, 36, 37, 38, 34, 39, 40, 41, 42, 43, 44, 45, 46, 47, 4, 48, 49, 50, 51, 52, 21, 22, 23, 24, 25, 26, 1, 2, 3, 5, 6, 7, 8, 9, 10, 11, 12, 13, 14, 15, 16, 17, 18, 19, 20, 27, 28, 29, 30, 111, 112, 113, 114, 115, 116, 117, 118, 119, 120, 121, 122, 123, 124, 125, 126, 127, 128, 129, 130, 131, 132, 133, 134, 135, 136, 137, 138, 139, 140, 141, 142, 143, 144, 145, 146, 147, 148, 149, 150, 151, 152, 153, 154, 155, 156, 157, 158, 159, 160, 161, 162, 163, 164, 165, 166, 167, 168, 169, 170, 171, 172, 173, 174, 175, 176, 177, 178, 179, 180, 181, 182, 183, 184, 185, 186, 187, 188, 93, 94, 95, 96, 97, 98, 99, 100, 101, 102, 103, 104, 105, 106, 107, 108, 109, 110] rfl (by decide +kernel)
set_option maxRecDepth 20000 in
theorem gX18_isSameList_X18_manyThere : GoodIn wsX18_isSameList (wsV RX18 157 RX18 yX18_manyThere wsX18_manyThere) := goodIn_app (goodIn_of _ (by decide +kernel)) ggX18_isSameList_X18_manyThere
set_option maxRecDepth 20000 in
theorem ggX18_isSameList_X16_listed : GoodIn wsX18_isSameList wsX16_listed := goodIn_r _ [56, 7, 8, 9, 4, 10, 6, 11, 12, 13, 14, 15, 16, 17, 18, 19, 20, 21, 22, 23, 24, 25, 26, 27, 28, 29, 30, 57, 58, 59, 60, 61, 93, 94, 95, 96, 97, 98, 99, 100, 101, 102, 103, 104, 105, 106, 107, 108, 109, 110] rfl (by decide +kernel)
set_option maxRecDepth 20000 in
theorem gX18_isSameList_X16_listed : GoodIn wsX18_isSameList (wsV RX18 140 RX16 yX16_listed wsX16_listed) := goodIn_app (goodIn_of _ (by decide +kernel)) ggX18_isSameList_X16_listed
set_option maxRecDepth 20000 in
theorem ggX18_isSameList_X18_typeThere : GoodIn wsX18_isSameList wsX18_typeThere := goodIn_r _ [65, 36, 66, 67, 34, 68, 69, 70, 71, 72, 40, 41, 42, 43, 44, 45, 46, 47, 4, 48, 49, 50, 51, 52, 21, 22, 23, 24, 25, 26, 53, 54, 55, 56, 7, 8, 9, 10, 6, 11, 12, 13, 14, 15, 16, 17, 18, 19, 20, 27, 28, 29, 30, 57, 58, 59, 60, 61, 111, 112, 113, 114, 115, 116, 117, 118, 119, 120, 121, 122, 123, 124, 125, 126, 127, 128, 129, 130, 131, 132, 133, 134, 135, 136, 137, 138, 139, 140, 141, 142, 143, 144, 145, 146, 147, 148, 149, 150, 151, 152, 153, 154, 155, 156, 157, 158, 159, 160, 161, 162, 163, 164, 165, 166, 167, 168, 169, 170, 171, 172, 173, 174, 175, 176, 177, 178, 179, 180, 181, 182, 183, 184, 185, 186, 187, 188, 93, 94, 95, 96, 97, 98, 99, 100, 101, 102, 103, 104, 105, 106, 107, 108, 109, 110] rfl (by decide +kernel)
set_option maxRecDepth 20000 in
theorem gX18_isSameList_X18_typeThere : GoodIn wsX18_isSameList (wsV RX18 161 RX18 yX18_typeThere wsX18_typeThere) := goodIn_app (goodIn_of _ (by decide +kernel)) ggX18_isSameList_X18_typeThere
set_option maxRecDepth 20000 in
theorem ggX18_isSameList_X18_isSame : GoodIn wsX18_isSameList wsX18_isSame := goodIn_r _ [76, 77, 78, 79, 34, 80, 81, 82, 83, 84, 4, 85, 86, 87, 88, 46, 47, 48, 49, 50, 51, 52, 21, 22, 23, 24, 25, 26, 89, 90, 91, 92, 36, 40, 41, 42, 43, 44, 45, 93, 94, 95, 96, 97, 98, 99, 100, 101, 102, 103, 104, 105, 106, 107, 108, 109, 110, 111, 112, 113, 114, 115, 116, 117, 118, 119, 120, 121, 122, 123, 124, 125, 126, 127, 128, 129, 130, 131, 132, 133, 134, 135, 136, 137, 138, 139, 140, 141, 142, 143, 144, 145, 146, 147, 148, 149, 150, 151, 152, 153, 154, 155, 156, 157, 158, 159, 160, 161, 162, 163, 164, 165, 166, 167, 168, 169, 170, 171, 172, 173, 174, 175, 176, 177, 178, 179, 180, 181, 182, 183, 184, 185, 186, 187, 188] rfl (by decide +kernel)
set_option maxRecDepth 20000 in
theorem gX18_isSameList_X18_isSame : GoodIn wsX18_isSameList (wsV RX18 165 RX18 yX18_isSame wsX18_isSame) := goodIn_app (goodIn_of _ (by decide +kernel)) ggX18_isSameList_X18_isSame
set_option maxRecDepth 20000 in
theorem ggX18_isFunctionAs_X16_foreignModule : GoodIn wsX18_isFunctionAs wsX16_foreignModule := goodIn_r _ [5, 6, 7, 8, 9, 10, 4, 11, 12, 13, 14, 15, 16, 17, 117, 118, 119, 120, 121, 122, 123, 124, 125, 126, 127, 128, 129, 130, 131, 132, 133, 134] rfl (by decide +kernel)
set_option maxRecDepth 20000 in
theorem gX18_isFunctionAs_X16_foreignModule : GoodIn wsX18_isFunctionAs (wsV RX18 169 RX16 yX16_foreignModule wsX16_foreignModule) := goodIn_app (goodIn_of _ (by decide +kernel)) ggX18_isFunctionAs_X16_foreignModule
set_option maxRecDepth 20000 in
theorem ggX18_isFunctionAs_X16_foreignNumber : GoodIn wsX18_isFunctionAs wsX16_foreignNumber := goodIn_r _ [21, 6, 7, 12, 13, 14, 4, 15, 16, 17, 117, 118, 119, 120, 121, 122, 123, 124, 125, 126, 127, 128, 129, 130, 131, 132, 133, 134] rfl (by decide +kernel)
set_option maxRecDepth 20000 in
theorem gX18_isFunctionAs_X16_foreignNumber : GoodIn wsX18_isFunctionAs (wsV RX18 172 RX16 yX16_foreignNumber wsX16_foreignNumber) := goodIn_app (goodIn_of _ (by decide +kernel)) ggX18_isFunctionAs_X16_foreignNumber
set_option maxRecDepth 20000 in
theorem ggX18_isFunctionAs_X18_isThere : GoodIn wsX18_isFunctionAs wsX18_isThere := goodIn_r _ [26, 27, 28, 29, 30, 25, 31, 32, 33, 34, 35, 4, 36, 8, 9, 10, 11, 12, 13, 14, 15, 16, 17, 135, 136, 137, 138, 139, 140, 141, 142, 143, 144, 145, 146, 147, 148, 149, 150, 151, 152, 153, 154, 155, 156, 157, 158, 159, 160, 161, 162, 163, 164, 165, 166, 167, 168, 169, 170, 171, 172, 173, 174, 175, 176, 177, 178, 179, 180, 181, 182, 183, 184, 185, 186, 187, 188, 189, 190, 191, 192, 193, 194, 195, 196, 197, 198, 199, 200, 201, 202, 203, 204, 205, 206, 207, 208, 209, 210, 211, 212, 117, 118, 119, 120, 121, 122, 123, 124, 125, 126, 127, 128, 129, 130, 131, 132, 133, 134] rfl (by decide +kernel)
set_option maxRecDepth 20000 in
theorem gX18_isFunctionAs_X18_isThere : GoodIn wsX18_isFunctionAs (wsV RX18 175 RX18 yX18_isThere wsX18_isThere) := goodIn_app (goodIn_of _ (by decide +kernel)) ggX18_isFunctionAs_X18_isThere
set_option maxRecDepth 20000 in
theorem ggX18_isFunctionAs_X18_flagsThere : GoodIn wsX18_isFunctionAs wsX18_flagsThere := goodIn_r _ [40, 27, 28, 29, 30, 25, 31, 32, 33, 34, 35, 4, 36, 8, 9, 10, 11, 12, 13, 14, 15, 16, 17, 41, 42, 43, 44, 7, 45, 6, 135, 136, 137, 138, 139, 140, 141, 142, 143, 144, 145, 146, 147, 148, 149, 150, 151, 152, 153, 154, 155, 156, 157, 158, 159, 160, 161, 162, 163, 164, 165, 166, 167, 168, 169, 170, 171, 172, 173, 174, 175, 176, 177, 178, 179, 180, 181, 182, 183, 184, 185, 186, 187, 188, 189, 190, 191, 192, 193, 194, 195, 196, 197, 198, 199, 200, 201, 202, 203, 204, 205, 206, 207, 208, 209, 210, 211, 212, 117, 118, 119, 120, 121, 122, 123, 124, 125, 126, 127, 128, 129, 130, 131, 132, 133, 134] rfl (by decide +kernel)
set_option maxRecDepth 20000 in
theorem gX18_isFunctionAs_X18_flagsThere : GoodIn wsX18_isFunctionAs (wsV RX18 179 RX18 yX18_flagsThere wsX18_flagsThere) := goodIn_app (goodIn_of _ (by decide +kernel)) ggX18_isFunctionAs_X18_flagsThere
set_option maxRecDepth 20000 in
theorem ggX18_isFunctionAs_X16_flags : GoodIn wsX18_isFunctionAs wsX16_flags := goodIn_r _ [44, 7, 45, 6, 12, 13, 14, 4, 15, 16, 17, 117, 118, 119, 120, 121, 122, 123, 124, 125, 126, 127, 128, 129, 130, 131, 132, 133, 134] rfl (by decide +kernel)
set_option maxRecDepth 20000 in
theorem gX18_isFunctionAs_X16_flags : GoodIn wsX18_isFunctionAs (wsV RX18 126 RX16 yX16_flags wsX16_flags) := goodIn_app (goodIn_of _ (by decide +kernel)) ggX18_isFunctionAs_X16_flags
set_option maxRecDepth 20000 in
theorem ggX18_isFunctionAs_X18_isSameList : GoodIn wsX18_isFunctionAs wsX18_isSameList := goodIn_r _ [49, 50, 51, 52, 4, 53, 7, 54, 55, 56, 57, 6, 58, 59, 60, 61, 45, 62, 63, 64, 65, 12, 13, 14, 15, 16, 17, 66, 67, 68, 69, 70, 71, 72, 25, 73, 27, 74, 75, 76, 28, 29, 30, 31, 32, 33, 34, 35, 36, 8, 9, 10, 11, 77, 78, 79, 80, 81, 82, 83, 84, 85, 86, 87, 88, 89, 90, 91, 92, 93, 94, 95, 96, 97, 98, 99, 100, 101, 102, 103, 104, 105, 106, 107, 108, 109, 110, 111, 112, 113, 114, 115, 116, 117, 118, 119, 120, 121, 122, 123, 124, 125, 126, 127, 128, 129, 130, 131, 132, 133, 134, 135, 136, 137, 138, 139, 140, 141, 142, 143, 144, 145, 146, 147, 148, 149, 150, 151, 152, 153, 154, 155, 156, 157, 158, 159, 160, 161, 162, 163, 164, 165, 166, 167, 168, 169, 170, 171, 172, 173, 174, 175, 176, 177, 178, 179, 180, 181, 182, 183, 184, 185, 186, 187, 188, 189, 190, 191, 192, 193, 194, 195, 196, 197, 198, 199, 200, 201, 202, 203, 204, 205, 206, 207, 208, 209, 210, 211, 212] rfl (by decide +kernel)
set_option maxRecDepth 20000 in
theorem gX18_isFunctionAs_X18_isSameList : GoodIn wsX18_isFunctionAs (wsV RX18 182 RX18 yX18_isSameList wsX18_isSameList) := goodIn_app (goodIn_of _ (by decide +kernel)) ggX18_isFunctionAs_X18_isSameList
set_option maxRecDepth 20000 in
theorem ggX18_measure_X16_structureCount : GoodIn wsX18_measure wsX16_structureCount := goodIn_r _ [11, 12, 13, 143, 144, 145, 146, 147, 148, 149, 150, 151, 152, 153, 154, 155, 156, 157, 158, 159, 160] rfl (by decide +kernel)
set_option maxRecDepth 20000 in
theorem gX18_measure_X16_structureCount : GoodIn wsX18_measure (wsV RX18 186 RX16 yX16_structureCount wsX16_structureCount) := goodIn_app (goodIn_of _ (by decide +kernel)) ggX18_measure_X16_structureCount
set_option maxRecDepth 20000 in
theorem ggX18_measure_X16_identity : GoodIn wsX18_measure wsX16_identity := goodIn_r _ [17, 18, 12, 19, 20, 21, 10, 22, 23, 24, 25, 26, 27, 28, 29, 30, 31, 32, 143, 144, 145, 146, 147, 148, 149, 150, 151, 152, 153, 154, 155, 156, 157, 158, 159, 160] rfl (by decide +kernel)
set_option maxRecDepth 20000 in
theorem gX18_measure_X16_identity : GoodIn wsX18_measure (wsV RX18 143 RX16 yX16_identity wsX16_identity) := goodIn_app (goodIn_of _ (by decide +kernel)) ggX18_measure_X16_identity
set_option maxRecDepth 20000 in
theorem ggX18_measure_X18_findModule : GoodIn wsX18_measure wsX18_findModule := goodIn_r _ [37, 38, 1, 39, 20, 21, 10, 22, 23, 24, 25, 26, 27, 28, 29, 30, 31, 32, 65, 66, 67, 68, 69, 70, 71, 72, 73, 74, 75, 76, 77, 78, 79, 80, 81, 82, 83, 84, 85, 86, 87, 88, 89, 90, 91, 92, 93, 94, 95, 96, 97, 98, 99, 100, 101, 102, 103, 104, 105, 106, 107, 108, 109, 110, 111, 112, 113, 114, 115, 116, 117, 118, 119, 120, 121, 122, 123, 124, 125, 126, 127, 128, 129, 130, 131, 132, 133, 134, 135, 136, 137, 138, 139, 140, 141, 142, 143, 144, 145, 146, 147, 148, 149, 150, 151, 152, 153, 154, 155, 156, 157, 158, 159, 160] rfl (by decide +kernel)
set_option maxRecDepth 20000 in
theorem gX18_measure_X18_findModule : GoodIn wsX18_measure (wsV RX18 106 RX18 yX18_findModule wsX18_findModule) := goodIn_app (goodIn_of _ (by decide +kernel)) ggX18_measure_X18_findModule
set_option maxRecDepth 20000 in
theorem ggX18_measure_X16_fieldsOf : GoodIn wsX18_measure wsX16_fieldsOf := goodIn_r _ [42, 18, 27, 28, 29, 10, 30, 31, 32, 143, 144, 145, 146, 147, 148, 149, 150, 151, 152, 153, 154, 155, 156, 157, 158, 159, 160] rfl (by decide +kernel)
set_option maxRecDepth 20000 in
theorem ggX18_measure_X16_field : GoodIn wsX18_measure wsX16_field := goodIn_r _ [46, 18, 47, 48, 49, 10, 50, 27, 28, 29, 30, 31, 32, 51, 52, 53, 54, 55, 143, 144, 145, 146, 147, 148, 149, 150, 151, 152, 153, 154, 155, 156, 157, 158, 159, 160] rfl (by decide +kernel)
set_option maxRecDepth 20000 in
theorem gX18_measure_X16_field : GoodIn wsX18_measure (wsV RX18 195 RX16 yX16_field wsX16_field) := goodIn_app (goodIn_of _ (by decide +kernel)) ggX18_measure_X16_field
set_option maxRecDepth 20000 in
theorem ggX18_measure_X18_depthOf : GoodIn wsX18_measure wsX18_depthOf := goodIn_r _ [59, 2, 60, 61, 62, 36, 63, 64, 65, 66, 67, 68, 69, 70, 71, 72, 73, 74, 75, 76, 77, 78, 79, 80, 81, 82, 83, 84, 85, 86, 87, 88, 89, 90, 91, 92, 93, 94, 95, 96, 97, 98, 99, 100, 101, 102, 103, 104, 105, 106, 107, 108, 109, 110, 111, 112, 113, 114, 115, 116, 117, 118, 119, 120, 121, 122, 123, 124, 125, 126, 127, 128, 129, 130, 131, 132, 133, 134, 135, 136, 137, 138, 139, 140, 141, 142] rfl (by decide +kernel)
set_option maxRecDepth 20000 in
theorem gX18_measure_X18_depthOf : GoodIn wsX18_measure (wsV RX18 199 RX18 yX18_depthOf wsX18_depthOf) := goodIn_app (goodIn_of _ (by decide +kernel)) ggX18_measure_X18_depthOf
set_option maxRecDepth 20000 in
theorem ggX18_depthOf_X18_endsInStructure : GoodIn wsX18_depthOf wsX18_endsInStructure := goodIn_r _ [6, 2, 7] rfl (by decide +kernel)
set_option maxRecDepth 20000 in
theorem gX18_depthOf_X18_endsInStructure : GoodIn wsX18_depthOf (va_wsS RX18 150 yX18_endsInStructure wsX18_endsInStructure) := goodIn_app (goodIn_of _ (by decide +kernel)) ggX18_depthOf_X18_endsInStructure
set_option maxRecDepth 20000 in
theorem ggX18_takeModule_X16_read : GoodIn wsX18_takeModule wsX16_read := goodIn_r _ [9, 10, 11, 12, 13, 14, 15, 16, 17, 18, 19, 20, 8, 21, 22, 23, 24, 25, 26, 27, 28, 29, 30, 31, 32, 33, 34, 35, 36, 37, 38, 39, 40, 41, 42, 43, 44, 45, 46, 47, 48, 49, 50, 51, 52, 53, 54, 55, 56, 57, 58, 59, 60, 61, 62, 63, 64, 65, 66, 67, 68, 69, 70, 71, 72, 73, 74, 75, 76, 77, 78, 79, 80, 81, 82, 83, 84, 85, 86, 87, 88, 89, 90, 91, 92, 93, 94, 95, 96, 97, 98, 99, 100, 101, 102, 103, 104, 105, 106, 107, 108, 109, 110, 111, 112, 113, 114, 115, 116, 117, 118, 119, 120, 121, 122, 123, 124, 125, 126, 127, 128, 129, 130, 131, 132, 133, 134, 534, 535, 536, 537, 538, 539, 540, 541, 542, 543, 544, 545, 546, 547, 548, 549, 550, 551] rfl (by decide +kernel)
set_option maxRecDepth 20000 in
theorem gX18_takeModule_X16_read : GoodIn wsX18_takeModule (wsV RX18 208 RX16 yX16_read wsX16_read) := goodIn_app (goodIn_of _ (by decide +kernel)) ggX18_takeModule_X16_read
set_option maxRecDepth 20000 in
theorem ggX18_takeModule_X16_number : GoodIn wsX18_takeModule wsX16_number := goodIn_r _ [138, 66, 67, 68, 8, 69, 40, 41, 42, 43, 10, 11, 534, 535, 536, 537, 538, 539, 540, 541, 542, 543, 544, 545, 546, 547, 548, 549, 550, 551] rfl (by decide +kernel)
set_option maxRecDepth 20000 in
theorem gX18_takeModule_X16_number : GoodIn wsX18_takeModule (wsV RX18 21 RX16 yX16_number wsX16_number) := goodIn_app (goodIn_of _ (by decide +kernel)) ggX18_takeModule_X16_number
set_option maxRecDepth 20000 in
theorem ggX18_takeModule_X18_findModule : GoodIn wsX18_takeModule wsX18_findModule := goodIn_r _ [143, 144, 1, 135, 136, 137, 8, 138, 66, 67, 68, 69, 40, 41, 42, 43, 10, 11, 456, 457, 458, 459, 460, 461, 462, 463, 464, 465, 466, 467, 468, 469, 470, 471, 472, 473, 474, 475, 476, 477, 478, 479, 480, 481, 482, 483, 484, 485, 486, 487, 488, 489, 490, 491, 492, 493, 494, 495, 496, 497, 498, 499, 500, 501, 502, 503, 504, 505, 506, 507, 508, 509, 510, 511, 512, 513, 514, 515, 516, 517, 518, 519, 520, 521, 522, 523, 524, 525, 526, 527, 528, 529, 530, 531, 532, 533, 534, 535, 536, 537, 538, 539, 540, 541, 542, 543, 544, 545, 546, 547, 548, 549, 550, 551] rfl (by decide +kernel)
set_option maxRecDepth 20000 in
theorem gX18_takeModule_X18_findModule : GoodIn wsX18_takeModule (wsV RX18 106 RX18 yX18_findModule wsX18_findModule) := goodIn_app (goodIn_of _ (by decide +kernel)) ggX18_takeModule_X18_findModule
set_option maxRecDepth 20000 in
theorem ggX18_takeModule_X18_tell : GoodIn wsX18_takeModule wsX18_tell := goodIn_r _ [148, 2, 456, 457, 458, 459, 460, 461, 462, 463, 464, 465, 466, 467, 468, 469, 470, 471, 472, 473, 474, 475, 476, 477, 478, 479, 480, 481, 482, 483, 484, 485, 486, 487, 488, 489, 490, 491, 492, 493, 494, 495, 496, 497, 498, 499, 500, 501, 502, 503, 504, 505, 506, 507, 508, 509, 510, 511, 512, 513, 514, 515, 516, 517, 518, 519, 520, 521, 522, 523, 524, 525, 526, 527, 528, 529, 530, 531, 532, 533] rfl (by decide +kernel)
set_option maxRecDepth 20000 in
theorem gX18_takeModule_X18_tell : GoodIn wsX18_takeModule (wsV RX18 218 RX18 yX18_tell wsX18_tell) := goodIn_app (goodIn_of _ (by decide +kernel)) ggX18_takeModule_X18_tell
set_option maxRecDepth 20000 in
theorem ggX18_takeModule_X16_structureCount : GoodIn wsX18_takeModule wsX16_structureCount := goodIn_r _ [152, 16, 22, 534, 535, 536, 537, 538, 539, 540, 541, 542, 543, 544, 545, 546, 547, 548, 549, 550, 551] rfl (by decide +kernel)
set_option maxRecDepth 20000 in
theorem gX18_takeModule_X16_structureCount : GoodIn wsX18_takeModule (wsV RX18 186 RX16 yX16_structureCount wsX16_structureCount) := goodIn_app (goodIn_of _ (by decide +kernel)) ggX18_takeModule_X16_structureCount
set_option maxRecDepth 20000 in
theorem ggX18_takeModule_X16_identity : GoodIn wsX18_takeModule wsX16_identity := goodIn_r _ [156, 17, 16, 157, 136, 137, 8, 138, 66, 67, 68, 69, 40, 41, 42, 43, 10, 11, 534, 535, 536, 537, 538, 539, 540, 541, 542, 543, 544, 545, 546, 547, 548, 549, 550, 551] rfl (by decide +kernel)
set_option maxRecDepth 20000 in
theorem gX18_takeModule_X16_identity : GoodIn wsX18_takeModule (wsV RX18 143 RX16 yX16_identity wsX16_identity) := goodIn_app (goodIn_of _ (by decide +kernel)) ggX18_takeModule_X16_identity
set_option maxRecDepth 20000 in
theorem ggX18_takeModule_X18_isThere : GoodIn wsX18_takeModule wsX18_isThere := goodIn_r _ [161, 1, 139, 140, 141, 142, 143, 144, 135, 136, 137, 8, 138, 66, 67, 68, 69, 40, 41, 42, 43, 10, 11, 456, 457, 458, 459, 460, 461, 462, 463, 464, 465, 466, 467, 468, 469, 470, 471, 472, 473, 474, 475, 476, 477, 478, 479, 480, 481, 482, 483, 484, 485, 486, 487, 488, 489, 490, 491, 492, 493, 494, 495, 496, 497, 498, 499, 500, 501, 502, 503, 504, 505, 506, 507, 508, 509, 510, 511, 512, 513, 514, 515, 516, 517, 518, 519, 520, 521, 522, 523, 524, 525, 526, 527, 528, 529, 530, 531, 532, 533, 534, 535, 536, 537, 538, 539, 540, 541, 542, 543, 544, 545, 546, 547, 548, 549, 550, 551] rfl (by decide +kernel)
set_option maxRecDepth 20000 in
theorem gX18_takeModule_X18_isThere : GoodIn wsX18_takeModule (wsV RX18 175 RX18 yX18_isThere wsX18_isThere) := goodIn_app (goodIn_of _ (by decide +kernel)) ggX18_takeModule_X18_isThere
set_option maxRecDepth 20000 in
theorem ggX18_takeModule_X18_abilitiesThere : GoodIn wsX18_takeModule wsX18_abilitiesThere := goodIn_r _ [165, 1, 139, 140, 141, 142, 143, 144, 135, 136, 137, 8, 138, 66, 67, 68, 69, 40, 41, 42, 43, 10, 11, 166, 167, 168, 169, 17, 16, 456, 457, 458, 459, 460, 461, 462, 463, 464, 465, 466, 467, 468, 469, 470, 471, 472, 473, 474, 475, 476, 477, 478, 479, 480, 481, 482, 483, 484, 485, 486, 487, 488, 489, 490, 491, 492, 493, 494, 495, 496, 497, 498, 499, 500, 501, 502, 503, 504, 505, 506, 507, 508, 509, 510, 511, 512, 513, 514, 515, 516, 517, 518, 519, 520, 521, 522, 523, 524, 525, 526, 527, 528, 529, 530, 531, 532, 533, 534, 535, 536, 537, 538, 539, 540, 541, 542, 543, 544, 545, 546, 547, 548, 549, 550, 551] rfl (by decide +kernel)
set_option maxRecDepth 20000 in
theorem gX18_takeModule_X18_abilitiesThere : GoodIn wsX18_takeModule (wsV RX18 221 RX18 yX18_abilitiesThere wsX18_abilitiesThere) := goodIn_app (goodIn_of _ (by decide +kernel)) ggX18_takeModule_X18_abilitiesThere
set_option maxRecDepth 20000 in
theorem ggX18_takeModule_X16_abilitiesOf : GoodIn wsX18_takeModule wsX16_abilitiesOf := goodIn_r _ [169, 17, 16, 40, 41, 42, 8, 43, 10, 11, 534, 535, 536, 537, 538, 539, 540, 541, 542, 543, 544, 545, 546, 547, 548, 549, 550, 551] rfl (by decide +kernel)
set_option maxRecDepth 20000 in
theorem gX18_takeModule_X16_abilitiesOf : GoodIn wsX18_takeModule (wsV RX18 115 RX16 yX16_abilitiesOf wsX16_abilitiesOf) := goodIn_app (goodIn_of _ (by decide +kernel)) ggX18_takeModule_X16_abilitiesOf
set_option maxRecDepth 20000 in
theorem ggX18_takeModule_X16_functionCount : GoodIn wsX18_takeModule wsX16_functionCount := goodIn_r _ [173, 27, 23, 534, 535, 536, 537, 538, 539, 540, 541, 542, 543, 544, 545, 546, 547, 548, 549, 550, 551] rfl (by decide +kernel)
set_option maxRecDepth 20000 in
theorem gX18_takeModule_X16_functionCount : GoodIn wsX18_takeModule (wsV RX18 224 RX16 yX16_functionCount wsX16_functionCount) := goodIn_app (goodIn_of _ (by decide +kernel)) ggX18_takeModule_X16_functionCount
set_option maxRecDepth 20000 in
theorem ggX18_takeModule_X18_isFunctionAs : GoodIn wsX18_takeModule wsX18_isFunctionAs := goodIn_r _ [177, 178, 179, 180, 8, 181, 24, 27, 66, 67, 68, 69, 40, 41, 42, 43, 10, 11, 182, 183, 184, 185, 158, 159, 160, 142, 161, 1, 139, 140, 141, 143, 144, 135, 136, 137, 138, 186, 187, 188, 189, 190, 191, 192, 193, 60, 194, 195, 196, 197, 198, 199, 200, 201, 202, 203, 204, 205, 106, 107, 108, 109, 110, 111, 112, 113, 90, 91, 92, 93, 206, 207, 208, 209, 210, 211, 212, 213, 214, 215, 216, 217, 218, 219, 220, 221, 222, 223, 224, 225, 226, 227, 228, 229, 230, 231, 232, 233, 234, 235, 236, 237, 238, 239, 240, 241, 153, 154, 155, 156, 17, 16, 157, 242, 243, 244, 245, 534, 535, 536, 537, 538, 539, 540, 541, 542, 543, 544, 545, 546, 547, 548, 549, 550, 551, 456, 457, 458, 459, 460, 461, 462, 463, 464, 465, 466, 467, 468, 469, 470, 471, 472, 473, 474, 475, 476, 477, 478, 479, 480, 481, 482, 483, 484, 485, 486, 487, 488, 489, 490, 491, 492, 493, 494, 495, 496, 497, 498, 499, 500, 501, 502, 503, 504, 505, 506, 507, 508, 509, 510, 511, 512, 513, 514, 515, 516, 517, 518, 519, 520, 521, 522, 523, 524, 525, 526, 527, 528, 529, 530, 531, 532, 533] rfl (by decide +kernel)
set_option maxRecDepth 20000 in
theorem gX18_takeModule_X18_isFunctionAs : GoodIn wsX18_takeModule (wsV RX18 227 RX18 yX18_isFunctionAs wsX18_isFunctionAs) := goodIn_app (goodIn_of _ (by decide +kernel)) ggX18_takeModule_X18_isFunctionAs
set_option maxRecDepth 20000 in
theorem ggX18_takeModule_X13_bears : GoodIn wsX18_takeModule wsX13_bears := goodIn_r _ [250, 251, 252, 167, 168, 8, 169, 17, 16, 40, 41, 42, 43, 10, 11, 83, 84, 85, 253, 254, 255, 256, 90, 91, 92, 93, 217, 218, 219, 220, 221, 257, 258, 259, 249, 260, 261, 262, 263, 264, 265, 266, 267, 268, 269, 270, 552, 553, 554, 555, 556, 557, 558, 559, 560, 561, 562, 563, 564, 565, 566, 567, 568, 569, 570, 571, 572, 573, 534, 535, 536, 537, 538, 539, 540, 541, 542, 543, 544, 545, 546, 547, 548, 549, 550, 551] rfl (by decide +kernel)
set_option maxRecDepth 20000 in
theorem gX18_takeModule_X13_bears : GoodIn wsX18_takeModule (wsV RX18 235 RX13 yX13_bears wsX13_bears) := goodIn_app (goodIn_of _ (by decide +kernel)) ggX18_takeModule_X13_bears
set_option maxRecDepth 20000 in
theorem ggX18_takeModule_X18_measure : GoodIn wsX18_takeModule wsX18_measure := goodIn_r _ [274, 1, 4, 275, 276, 277, 278, 149, 150, 151, 8, 152, 16, 22, 153, 154, 155, 156, 17, 157, 136, 137, 138, 66, 67, 68, 69, 40, 41, 42, 43, 10, 11, 139, 140, 141, 142, 143, 144, 135, 83, 84, 85, 279, 254, 255, 256, 90, 91, 92, 93, 217, 218, 219, 220, 221, 280, 281, 282, 283, 237, 238, 239, 240, 241, 456, 457, 458, 459, 460, 461, 462, 463, 464, 465, 466, 467, 468, 469, 470, 471, 472, 473, 474, 475, 476, 477, 478, 479, 480, 481, 482, 483, 484, 485, 486, 487, 488, 489, 490, 491, 492, 493, 494, 495, 496, 497, 498, 499, 500, 501, 502, 503, 504, 505, 506, 507, 508, 509, 510, 511, 512, 513, 514, 515, 516, 517, 518, 519, 520, 521, 522, 523, 524, 525, 526, 527, 528, 529, 530, 531, 532, 533, 534, 535, 536, 537, 538, 539, 540, 541, 542, 543, 544, 545, 546, 547, 548, 549, 550, 551] rfl (by decide +kernel)
set_option maxRecDepth 20000 in
theorem gX18_takeModule_X18_measure : GoodIn wsX18_takeModule (wsV RX18 240 RX18 yX18_measure wsX18_measure) := goodIn_app (goodIn_of _ (by decide +kernel)) ggX18_takeModule_X18_measure
set_option maxRecDepth 20000 in
theorem ggX18_takeModule_X13_check : GoodIn wsX18_takeModule wsX13_check := goodIn_r _ [287, 251, 288, 289, 290, 291, 292, 293, 294, 249, 295, 296, 297, 298, 299, 300, 301, 302, 303, 304, 305, 306, 8, 307, 61, 308, 199, 200, 201, 27, 202, 203, 204, 205, 24, 106, 107, 108, 109, 60, 110, 111, 112, 113, 40, 41, 42, 43, 10, 11, 90, 91, 92, 93, 309, 214, 215, 216, 217, 218, 219, 220, 221, 310, 311, 312, 313, 74, 314, 315, 316, 317, 75, 76, 77, 318, 319, 320, 321, 261, 262, 263, 264, 265, 266, 267, 268, 269, 270, 322, 323, 324, 325, 326, 327, 328, 329, 330, 331, 332, 333, 334, 335, 336, 337, 338, 339, 340, 341, 342, 343, 344, 345, 346, 347, 348, 349, 350, 351, 352, 353, 354, 355, 356, 257, 258, 259, 260, 252, 167, 168, 169, 17, 16, 357, 358, 359, 360, 361, 362, 363, 364, 365, 366, 367, 368, 369, 370, 371, 372, 373, 374, 375, 376, 377, 378, 379, 380, 381, 382, 383, 384, 385, 386, 387, 388, 389, 390, 391, 392, 393, 394, 395, 396, 397, 398, 399, 400, 401, 402, 253, 254, 255, 256, 403, 404, 405, 406, 407, 408, 409, 410, 83, 84, 85, 411, 412, 413, 414, 415, 191, 192, 193, 416, 417, 418, 419, 420, 421, 422, 423, 424, 425, 426, 427, 428, 429, 430, 431, 432, 433, 434, 435, 436, 437, 438, 439, 440, 441, 442, 26, 443, 444, 445, 446, 447, 448, 449, 450, 451, 452, 453, 454, 455, 552, 553, 554, 555, 556, 557, 558, 559, 560, 561, 562, 563, 564, 565, 566, 567, 568, 569, 570, 571, 572, 573, 534, 535, 536, 537, 538, 539, 540, 541, 542, 543, 544, 545, 546, 547, 548, 549, 550, 551] rfl (by decide +kernel)
set_option maxRecDepth 20000 in
theorem gX18_takeModule_X13_check : GoodIn wsX18_takeModule (wsV RX18 243 RX13 yX13_check wsX13_check) := goodIn_app (goodIn_of _ (by decide +kernel)) ggX18_takeModule_X13_check
set_option maxRecDepth 20000 in
theorem ggX18_spend_X18_goesOn : GoodIn wsX18_spend wsX18_goesOn := goodIn_r _ [8, 9, 15, 16, 17, 18, 19, 20, 21, 22, 23, 24, 25, 26, 27, 28, 29, 30, 31, 32, 33, 34, 35, 36, 37, 38, 39, 40, 41, 42, 43, 44, 45, 46, 47, 48, 49, 50, 51, 52, 53, 54, 55, 56, 57, 58, 59, 60, 61, 62, 63, 64, 65, 66, 67, 68, 69, 70, 71, 72, 73, 74, 75, 76, 77, 78, 79, 80, 81, 82, 83, 84, 85, 86, 87, 88, 89, 90, 91, 92] rfl (by decide +kernel)
set_option maxRecDepth 20000 in
theorem gX18_spend_X18_goesOn : GoodIn wsX18_spend (wsV RX18 257 RX18 yX18_goesOn wsX18_goesOn) := goodIn_app (goodIn_of _ (by decide +kernel)) ggX18_spend_X18_goesOn
set_option maxRecDepth 20000 in
theorem ggX18_spend_X18_end : GoodIn wsX18_spend wsX18_end := goodIn_r _ [13, 9, 14, 15, 16, 17, 18, 19, 20, 21, 22, 23, 24, 25, 26, 27, 28, 29, 30, 31, 32, 33, 34, 35, 36, 37, 38, 39, 40, 41, 42, 43, 44, 45, 46, 47, 48, 49, 50, 51, 52, 53, 54, 55, 56, 57, 58, 59, 60, 61, 62, 63, 64, 65, 66, 67, 68, 69, 70, 71, 72, 73, 74, 75, 76, 77, 78, 79, 80, 81, 82, 83, 84, 85, 86, 87, 88, 89, 90, 91, 92] rfl (by decide +kernel)
set_option maxRecDepth 20000 in
theorem gX18_spend_X18_end : GoodIn wsX18_spend (wsV RX18 267 RX18 yX18_end wsX18_end) := goodIn_app (goodIn_of _ (by decide +kernel)) ggX18_spend_X18_end
set_option maxRecDepth 20000 in
theorem ggX18_ask_X18_end : GoodIn wsX18_ask wsX18_end := goodIn_r _ [14, 15, 16, 59, 60, 61, 62, 63, 64, 65, 66, 67, 68, 69, 70, 71, 72, 73, 74, 75, 76, 77, 78, 79, 80, 81, 82, 83, 84, 85, 86, 87, 88, 89, 90, 91, 92, 93, 94, 95, 96, 97, 98, 99, 100, 101, 102, 103, 104, 105, 106, 107, 108, 109, 110, 111, 112, 113, 114, 115, 116, 117, 118, 119, 120, 121, 122, 123, 124, 125, 126, 127, 128, 129, 130, 131, 132, 133, 134, 135, 136] rfl (by decide +kernel)
set_option maxRecDepth 20000 in
theorem gX18_ask_X18_end : GoodIn wsX18_ask (wsV RX18 267 RX18 yX18_end wsX18_end) := goodIn_app (goodIn_of _ (by decide +kernel)) ggX18_ask_X18_end
set_option maxRecDepth 20000 in
theorem ggX18_ask_X18_findAccount : GoodIn wsX18_ask wsX18_findAccount := goodIn_r _ [20, 21, 22, 59, 60, 61, 62, 63, 64, 65, 66, 67, 68, 69, 70, 71, 72, 73, 74, 75, 76, 77, 78, 79, 80, 81, 82, 83, 84, 85, 86, 87, 88, 89, 90, 91, 92, 93, 94, 95, 96, 97, 98, 99, 100, 101, 102, 103, 104, 105, 106, 107, 108, 109, 110, 111, 112, 113, 114, 115, 116, 117, 118, 119, 120, 121, 122, 123, 124, 125, 126, 127, 128, 129, 130, 131, 132, 133, 134, 135, 136] rfl (by decide +kernel)
set_option maxRecDepth 20000 in
theorem gX18_ask_X18_findAccount : GoodIn wsX18_ask (wsV RX18 288 RX18 yX18_findAccount wsX18_findAccount) := goodIn_app (goodIn_of _ (by decide +kernel)) ggX18_ask_X18_findAccount
set_option maxRecDepth 20000 in
theorem ggX18_ask_X18_findResource : GoodIn wsX18_ask wsX18_findResource := goodIn_r _ [26, 27, 28, 29, 59, 60, 61, 62, 63, 64, 65, 66, 67, 68, 69, 70, 71, 72, 73, 74, 75, 76, 77, 78, 79, 80, 81, 82, 83, 84, 85, 86, 87, 88, 89, 90, 91, 92, 93, 94, 95, 96, 97, 98, 99, 100, 101, 102, 103, 104, 105, 106, 107, 108, 109, 110, 111, 112, 113, 114, 115, 116, 117, 118, 119, 120, 121, 122, 123, 124, 125, 126, 127, 128, 129, 130, 131, 132, 133, 134, 135, 136] rfl (by decide +kernel)
set_option maxRecDepth 20000 in
theorem gX18_ask_X18_findResource : GoodIn wsX18_ask (wsV RX18 292 RX18 yX18_findResource wsX18_findResource) := goodIn_app (goodIn_of _ (by decide +kernel)) ggX18_ask_X18_findResource
set_option maxRecDepth 20000 in
theorem ggX18_ask_X18_load : GoodIn wsX18_ask wsX18_load := goodIn_r _ [33, 34, 35, 36, 37, 13, 38, 39, 40, 41, 42, 43, 44, 45, 46, 47, 48, 49, 50, 51, 52, 53, 54, 55, 56, 57, 58, 59, 60, 61, 62, 63, 64, 65, 66, 67, 68, 69, 70, 71, 72, 73, 74, 75, 76, 77, 78, 79, 80, 81, 82, 83, 84, 85, 86, 87, 88, 89, 90, 91, 92, 93, 94, 95, 96, 97, 98, 99, 100, 101, 102, 103, 104, 105, 106, 107, 108, 109, 110, 111, 112, 113, 114, 115, 116, 117, 118, 119, 120, 121, 122, 123, 124, 125, 126, 127, 128, 129, 130, 131, 132, 133, 134, 135, 136, 137, 138, 139, 140, 141, 142] rfl (by decide +kernel)
set_option maxRecDepth 20000 in
theorem gX18_ask_X18_load : GoodIn wsX18_ask (wsV RX18 306 RX18 yX18_load wsX18_load) := goodIn_app (goodIn_of _ (by decide +kernel)) ggX18_ask_X18_load
set_option maxRecDepth 20000 in
theorem ggX18_push_X18_goesOn : GoodIn wsX18_push wsX18_goesOn := goodIn_r _ [8, 9, 10, 11, 12, 13, 14, 15, 16, 17, 18, 19, 20, 21, 22, 23, 24, 25, 26, 27, 28, 29, 30, 31, 32, 33, 34, 35, 36, 37, 38, 39, 40, 41, 42, 43, 44, 45, 46, 47, 48, 49, 50, 51, 52, 53, 54, 55, 56, 57, 58, 59, 60, 61, 62, 63, 64, 65, 66, 67, 68, 69, 70, 71, 72, 73, 74, 75, 76, 77, 78, 79, 80, 81, 82, 83, 84, 85, 86, 87] rfl (by decide +kernel)
set_option maxRecDepth 20000 in
theorem gX18_push_X18_goesOn : GoodIn wsX18_push (wsV RX18 257 RX18 yX18_goesOn wsX18_goesOn) := goodIn_app (goodIn_of _ (by decide +kernel)) ggX18_push_X18_goesOn
set_option maxRecDepth 20000 in
theorem ggX18_make_X18_goesOn : GoodIn wsX18_make wsX18_goesOn := goodIn_r _ [6, 7, 26, 27, 28, 29, 30, 31, 32, 33, 34, 35, 36, 37, 38, 39, 40, 41, 42, 43, 44, 45, 46, 47, 48, 49, 50, 51, 52, 53, 54, 55, 56, 57, 58, 59, 60, 61, 62, 63, 64, 65, 66, 67, 68, 69, 70, 71, 72, 73, 74, 75, 76, 77, 78, 79, 80, 81, 82, 83, 84, 85, 86, 87, 88, 89, 90, 91, 92, 93, 94, 95, 96, 97, 98, 99, 100, 101, 102, 103] rfl (by decide +kernel)
set_option maxRecDepth 20000 in
theorem gX18_make_X18_goesOn : GoodIn wsX18_make (wsV RX18 257 RX18 yX18_goesOn wsX18_goesOn) := goodIn_app (goodIn_of _ (by decide +kernel)) ggX18_make_X18_goesOn
set_option maxRecDepth 20000 in
theorem ggX18_make_X15_make : GoodIn wsX18_make wsX15_make := goodIn_r _ [12, 13, 14, 15, 16, 17, 18, 104, 105, 106, 107, 108, 109] rfl (by decide +kernel)
set_option maxRecDepth 20000 in
theorem gX18_make_X15_make : GoodIn wsX18_make (wsV RX18 54 RX15 yX15_make wsX15_make) := goodIn_app (goodIn_of _ (by decide +kernel)) ggX18_make_X15_make
set_option maxRecDepth 20000 in
theorem ggX18_make_X18_push : GoodIn wsX18_make wsX18_push := goodIn_r _ [22, 23, 24, 25, 2, 3, 4, 5, 6, 7, 26, 27, 28, 29, 30, 31, 32, 33, 34, 35, 36, 37, 38, 39, 40, 41, 42, 43, 44, 45, 46, 47, 48, 49, 50, 51, 52, 53, 54, 55, 56, 57, 58, 59, 60, 61, 62, 63, 64, 65, 66, 67, 68, 69, 70, 71, 72, 73, 74, 75, 76, 77, 78, 79, 80, 81, 82, 83, 84, 85, 86, 87, 88, 89, 90, 91, 92, 93, 94, 95, 96, 97, 98, 99, 100, 101, 102, 103] rfl (by decide +kernel)
set_option maxRecDepth 20000 in
theorem gX18_make_X18_push : GoodIn wsX18_make (wsV RX18 318 RX18 yX18_push wsX18_push) := goodIn_app (goodIn_of _ (by decide +kernel)) ggX18_make_X18_push
set_option maxRecDepth 20000 in
theorem ggX18_slip_X18_end : GoodIn wsX18_slip wsX18_end := goodIn_r _ [6, 7, 8, 9, 10, 11, 12, 13, 14, 15, 16, 17, 18, 19, 20, 21, 22, 23, 24, 25, 26, 27, 28, 29, 30, 31, 32, 33, 34, 35, 36, 37, 38, 39, 40, 41, 42, 43, 44, 45, 46, 47, 48, 49, 50, 51, 52, 53, 54, 55, 56, 57, 58, 59, 60, 61, 62, 63, 64, 65, 66, 67, 68, 69, 70, 71, 72, 73, 74, 75, 76, 77, 78, 79, 80, 81, 82, 83, 84, 85, 86] rfl (by decide +kernel)
set_option maxRecDepth 20000 in
theorem gX18_slip_X18_end : GoodIn wsX18_slip (wsV RX18 267 RX18 yX18_end wsX18_end) := goodIn_app (goodIn_of _ (by decide +kernel)) ggX18_slip_X18_end
set_option maxRecDepth 20000 in
theorem ggX18_takeAny_X18_goesOn : GoodIn wsX18_takeAny wsX18_goesOn := goodIn_r _ [11, 12, 23, 24, 25, 26, 27, 28, 29, 30, 31, 32, 33, 34, 35, 36, 37, 38, 39, 40, 41, 42, 43, 44, 45, 46, 47, 48, 49, 50, 51, 52, 53, 54, 55, 56, 57, 58, 59, 60, 61, 62, 63, 64, 65, 66, 67, 68, 69, 70, 71, 72, 73, 74, 75, 76, 77, 78, 79, 80, 81, 82, 83, 84, 85, 86, 87, 88, 89, 90, 91, 92, 93, 94, 95, 96, 97, 98, 99, 100] rfl (by decide +kernel)
set_option maxRecDepth 20000 in
theorem gX18_takeAny_X18_goesOn : GoodIn wsX18_takeAny (wsV RX18 257 RX18 yX18_goesOn wsX18_goesOn) := goodIn_app (goodIn_of _ (by decide +kernel)) ggX18_takeAny_X18_goesOn
set_option maxRecDepth 20000 in
theorem ggX18_takeAny_X18_slip : GoodIn wsX18_takeAny wsX18_slip := goodIn_r _ [16, 17, 18, 19, 20, 10, 21, 12, 22, 23, 24, 25, 26, 27, 28, 29, 30, 31, 32, 33, 34, 35, 36, 37, 38, 39, 40, 41, 42, 43, 44, 45, 46, 47, 48, 49, 50, 51, 52, 53, 54, 55, 56, 57, 58, 59, 60, 61, 62, 63, 64, 65, 66, 67, 68, 69, 70, 71, 72, 73, 74, 75, 76, 77, 78, 79, 80, 81, 82, 83, 84, 85, 86, 87, 88, 89, 90, 91, 92, 93, 94, 95, 96, 97, 98, 99, 100] rfl (by decide +kernel)
set_option maxRecDepth 20000 in
theorem gX18_takeAny_X18_slip : GoodIn wsX18_takeAny (wsV RX18 331 RX18 yX18_slip wsX18_slip) := goodIn_app (goodIn_of _ (by decide +kernel)) ggX18_takeAny_X18_slip
set_option maxRecDepth 20000 in
theorem ggX18_take_X18_takeAny : GoodIn wsX18_take wsX18_takeAny := goodIn_r _ [6, 7, 8, 9, 10, 11, 12, 13, 14, 15, 5, 16, 17, 18, 19, 20, 21, 22, 23, 24, 25, 26, 27, 28, 29, 30, 31, 32, 33, 34, 35, 36, 37, 38, 39, 40, 41, 42, 43, 44, 45, 46, 47, 48, 49, 50, 51, 52, 53, 54, 55, 56, 57, 58, 59, 60, 61, 62, 63, 64, 65, 66, 67, 68, 69, 70, 71, 72, 73, 74, 75, 76, 77, 78, 79, 80, 81, 82, 83, 84, 85, 86, 87, 88, 89, 90, 91, 92, 93, 94, 95, 96, 97, 98, 99, 100, 101, 102, 103, 104, 105] rfl (by decide +kernel)
set_option maxRecDepth 20000 in
theorem gX18_take_X18_takeAny : GoodIn wsX18_take (wsV RX18 337 RX18 yX18_takeAny wsX18_takeAny) := goodIn_app (goodIn_of _ (by decide +kernel)) ggX18_take_X18_takeAny
set_option maxRecDepth 20000 in
theorem ggX18_take_X18_goesOn : GoodIn wsX18_take wsX18_goesOn := goodIn_r _ [16, 17, 28, 29, 30, 31, 32, 33, 34, 35, 36, 37, 38, 39, 40, 41, 42, 43, 44, 45, 46, 47, 48, 49, 50, 51, 52, 53, 54, 55, 56, 57, 58, 59, 60, 61, 62, 63, 64, 65, 66, 67, 68, 69, 70, 71, 72, 73, 74, 75, 76, 77, 78, 79, 80, 81, 82, 83, 84, 85, 86, 87, 88, 89, 90, 91, 92, 93, 94, 95, 96, 97, 98, 99, 100, 101, 102, 103, 104, 105] rfl (by decide +kernel)
set_option maxRecDepth 20000 in
theorem gX18_take_X18_goesOn : GoodIn wsX18_take (wsV RX18 257 RX18 yX18_goesOn wsX18_goesOn) := goodIn_app (goodIn_of _ (by decide +kernel)) ggX18_take_X18_goesOn
set_option maxRecDepth 20000 in
theorem ggX18_take_X18_slip : GoodIn wsX18_take wsX18_slip := goodIn_r _ [21, 22, 23, 24, 25, 5, 26, 17, 27, 28, 29, 30, 31, 32, 33, 34, 35, 36, 37, 38, 39, 40, 41, 42, 43, 44, 45, 46, 47, 48, 49, 50, 51, 52, 53, 54, 55, 56, 57, 58, 59, 60, 61, 62, 63, 64, 65, 66, 67, 68, 69, 70, 71, 72, 73, 74, 75, 76, 77, 78, 79, 80, 81, 82, 83, 84, 85, 86, 87, 88, 89, 90, 91, 92, 93, 94, 95, 96, 97, 98, 99, 100, 101, 102, 103, 104, 105] rfl (by decide +kernel)
set_option maxRecDepth 20000 in
theorem gX18_take_X18_slip : GoodIn wsX18_take (wsV RX18 331 RX18 yX18_slip wsX18_slip) := goodIn_app (goodIn_of _ (by decide +kernel)) ggX18_take_X18_slip
set_option maxRecDepth 20000 in
theorem ggX18_takeLong_X18_take : GoodIn wsX18_takeLong wsX18_take := goodIn_r _ [6, 1, 7, 8, 9, 5, 10, 11, 12, 13, 14, 15, 16, 17, 18, 19, 20, 21, 22, 23, 24, 25, 26, 27, 28, 29, 30, 31, 32, 33, 34, 35, 36, 37, 38, 39, 40, 41, 42, 43, 44, 45, 46, 47, 48, 49, 50, 51, 52, 53, 54, 55, 56, 57, 58, 59, 60, 61, 62, 63, 64, 65, 66, 67, 68, 69, 70, 71, 72, 73, 74, 75, 76, 77, 78, 79, 80, 81, 82, 83, 84, 85, 86, 87, 88, 89, 90, 91, 92, 93, 94, 95, 96, 97, 98, 99, 100, 101, 102, 103, 104, 105, 106, 107, 108, 109, 110, 111, 112, 113, 114, 115] rfl (by decide +kernel)
set_option maxRecDepth 20000 in
theorem gX18_takeLong_X18_take : GoodIn wsX18_takeLong (wsV RX18 341 RX18 yX18_take wsX18_take) := goodIn_app (goodIn_of _ (by decide +kernel)) ggX18_takeLong_X18_take
set_option maxRecDepth 20000 in
theorem ggX18_onLocal_X18_local : GoodIn wsX18_onLocal wsX18_local := goodIn_r _ [13, 3, 70, 71, 72, 73, 74, 75, 76, 77, 78, 79, 80, 81, 82, 83, 84, 85, 86, 87, 88, 89, 90, 91, 92, 93, 94, 95, 96, 97, 98, 99, 100, 101, 102, 103, 104, 105, 106, 107, 108, 109, 110, 111, 112, 113, 114, 115, 116, 117, 118, 119, 120, 121, 122, 123, 124, 125, 126, 127, 128, 129, 130, 131, 132, 133, 134, 135, 136, 137, 138, 139, 140, 141, 142, 143, 144, 145, 146, 147] rfl (by decide +kernel)
set_option maxRecDepth 20000 in
theorem gX18_onLocal_X18_local : GoodIn wsX18_onLocal (wsV RX18 344 RX18 yX18_local wsX18_local) := goodIn_app (goodIn_of _ (by decide +kernel)) ggX18_onLocal_X18_local
set_option maxRecDepth 20000 in
theorem ggX18_onLocal_X18_goesOn : GoodIn wsX18_onLocal wsX18_goesOn := goodIn_r _ [17, 18, 70, 71, 72, 73, 74, 75, 76, 77, 78, 79, 80, 81, 82, 83, 84, 85, 86, 87, 88, 89, 90, 91, 92, 93, 94, 95, 96, 97, 98, 99, 100, 101, 102, 103, 104, 105, 106, 107, 108, 109, 110, 111, 112, 113, 114, 115, 116, 117, 118, 119, 120, 121, 122, 123, 124, 125, 126, 127, 128, 129, 130, 131, 132, 133, 134, 135, 136, 137, 138, 139, 140, 141, 142, 143, 144, 145, 146, 147] rfl (by decide +kernel)
set_option maxRecDepth 20000 in
theorem gX18_onLocal_X18_goesOn : GoodIn wsX18_onLocal (wsV RX18 257 RX18 yX18_goesOn wsX18_goesOn) := goodIn_app (goodIn_of _ (by decide +kernel)) ggX18_onLocal_X18_goesOn
set_option maxRecDepth 20000 in
theorem ggX18_onLocal_X18_takeAny : GoodIn wsX18_onLocal wsX18_takeAny := goodIn_r _ [22, 1, 2, 3, 4, 23, 6, 14, 15, 16, 12, 17, 18, 24, 25, 26, 27, 28, 29, 30, 31, 32, 33, 70, 71, 72, 73, 74, 75, 76, 77, 78, 79, 80, 81, 82, 83, 84, 85, 86, 87, 88, 89, 90, 91, 92, 93, 94, 95, 96, 97, 98, 99, 100, 101, 102, 103, 104, 105, 106, 107, 108, 109, 110, 111, 112, 113, 114, 115, 116, 117, 118, 119, 120, 121, 122, 123, 124, 125, 126, 127, 128, 129, 130, 131, 132, 133, 134, 135, 136, 137, 138, 139, 140, 141, 142, 143, 144, 145, 146, 147] rfl (by decide +kernel)
set_option maxRecDepth 20000 in
theorem gX18_onLocal_X18_takeAny : GoodIn wsX18_onLocal (wsV RX18 337 RX18 yX18_takeAny wsX18_takeAny) := goodIn_app (goodIn_of _ (by decide +kernel)) ggX18_onLocal_X18_takeAny
set_option maxRecDepth 20000 in
theorem ggX18_onLocal_X18_slip : GoodIn wsX18_onLocal wsX18_slip := goodIn_r _ [27, 28, 29, 30, 31, 12, 32, 18, 33, 70, 71, 72, 73, 74, 75, 76, 77, 78, 79, 80, 81, 82, 83, 84, 85, 86, 87, 88, 89, 90, 91, 92, 93, 94, 95, 96, 97, 98, 99, 100, 101, 102, 103, 104, 105, 106, 107, 108, 109, 110, 111, 112, 113, 114, 115, 116, 117, 118, 119, 120, 121, 122, 123, 124, 125, 126, 127, 128, 129, 130, 131, 132, 133, 134, 135, 136, 137, 138, 139, 140, 141, 142, 143, 144, 145, 146, 147] rfl (by decide +kernel)
set_option maxRecDepth 20000 in
theorem gX18_onLocal_X18_slip : GoodIn wsX18_onLocal (wsV RX18 331 RX18 yX18_slip wsX18_slip) := goodIn_app (goodIn_of _ (by decide +kernel)) ggX18_onLocal_X18_slip
set_option maxRecDepth 20000 in
theorem ggX18_onLocal_X18_spend : GoodIn wsX18_onLocal wsX18_spend := goodIn_r _ [37, 38, 39, 40, 14, 15, 16, 12, 17, 18, 29, 30, 31, 32, 33, 70, 71, 72, 73, 74, 75, 76, 77, 78, 79, 80, 81, 82, 83, 84, 85, 86, 87, 88, 89, 90, 91, 92, 93, 94, 95, 96, 97, 98, 99, 100, 101, 102, 103, 104, 105, 106, 107, 108, 109, 110, 111, 112, 113, 114, 115, 116, 117, 118, 119, 120, 121, 122, 123, 124, 125, 126, 127, 128, 129, 130, 131, 132, 133, 134, 135, 136, 137, 138, 139, 140, 141, 142, 143, 144, 145, 146, 147] rfl (by decide +kernel)
set_option maxRecDepth 20000 in
theorem gX18_onLocal_X18_spend : GoodIn wsX18_onLocal (wsV RX18 353 RX18 yX18_spend wsX18_spend) := goodIn_app (goodIn_of _ (by decide +kernel)) ggX18_onLocal_X18_spend
set_option maxRecDepth 20000 in
theorem ggX18_onLocal_X18_push : GoodIn wsX18_onLocal wsX18_push := goodIn_r _ [44, 23, 1, 4, 14, 15, 16, 12, 17, 18, 70, 71, 72, 73, 74, 75, 76, 77, 78, 79, 80, 81, 82, 83, 84, 85, 86, 87, 88, 89, 90, 91, 92, 93, 94, 95, 96, 97, 98, 99, 100, 101, 102, 103, 104, 105, 106, 107, 108, 109, 110, 111, 112, 113, 114, 115, 116, 117, 118, 119, 120, 121, 122, 123, 124, 125, 126, 127, 128, 129, 130, 131, 132, 133, 134, 135, 136, 137, 138, 139, 140, 141, 142, 143, 144, 145, 146, 147] rfl (by decide +kernel)
set_option maxRecDepth 20000 in
theorem gX18_onLocal_X18_push : GoodIn wsX18_onLocal (wsV RX18 318 RX18 yX18_push wsX18_push) := goodIn_app (goodIn_of _ (by decide +kernel)) ggX18_onLocal_X18_push
set_option maxRecDepth 20000 in
theorem ggX18_onLocal_X15_sizeOf : GoodIn wsX18_onLocal wsX15_sizeOf := goodIn_r _ [49, 50, 51, 52, 46, 47, 48, 148, 149, 150, 151, 152, 153] rfl (by decide +kernel)
set_option maxRecDepth 20000 in
theorem gX18_onLocal_X15_sizeOf : GoodIn wsX18_onLocal (wsV RX18 357 RX15 yX15_sizeOf wsX15_sizeOf) := goodIn_app (goodIn_of _ (by decide +kernel)) ggX18_onLocal_X15_sizeOf
set_option maxRecDepth 20000 in
theorem ggX18_onLocal_X15_copy : GoodIn wsX18_onLocal wsX15_copy := goodIn_r _ [56, 57, 58, 59, 50, 51, 60, 61, 62, 48, 63, 64, 65, 54, 55, 66, 67, 68, 69, 148, 149, 150, 151, 152, 153] rfl (by decide +kernel)
set_option maxRecDepth 20000 in
theorem gX18_onLocal_X15_copy : GoodIn wsX18_onLocal (wsV RX18 360 RX15 yX15_copy wsX15_copy) := goodIn_app (goodIn_of _ (by decide +kernel)) ggX18_onLocal_X15_copy
set_option maxRecDepth 20000 in
theorem ggX18_onReference_X18_takeAny : GoodIn wsX18_onReference wsX18_takeAny := goodIn_r _ [6, 7, 8, 9, 10, 11, 12, 13, 14, 15, 5, 16, 17, 18, 19, 20, 21, 22, 23, 24, 25, 26, 27, 72, 73, 74, 75, 76, 77, 78, 79, 80, 81, 82, 83, 84, 85, 86, 87, 88, 89, 90, 91, 92, 93, 94, 95, 96, 97, 98, 99, 100, 101, 102, 103, 104, 105, 106, 107, 108, 109, 110, 111, 112, 113, 114, 115, 116, 117, 118, 119, 120, 121, 122, 123, 124, 125, 126, 127, 128, 129, 130, 131, 132, 133, 134, 135, 136, 137, 138, 139, 140, 141, 142, 143, 144, 145, 146, 147, 148, 149] rfl (by decide +kernel)
set_option maxRecDepth 20000 in
theorem gX18_onReference_X18_takeAny : GoodIn wsX18_onReference (wsV RX18 337 RX18 yX18_takeAny wsX18_takeAny) := goodIn_app (goodIn_of _ (by decide +kernel)) ggX18_onReference_X18_takeAny
set_option maxRecDepth 20000 in
theorem ggX18_onReference_X18_goesOn : GoodIn wsX18_onReference wsX18_goesOn := goodIn_r _ [16, 17, 72, 73, 74, 75, 76, 77, 78, 79, 80, 81, 82, 83, 84, 85, 86, 87, 88, 89, 90, 91, 92, 93, 94, 95, 96, 97, 98, 99, 100, 101, 102, 103, 104, 105, 106, 107, 108, 109, 110, 111, 112, 113, 114, 115, 116, 117, 118, 119, 120, 121, 122, 123, 124, 125, 126, 127, 128, 129, 130, 131, 132, 133, 134, 135, 136, 137, 138, 139, 140, 141, 142, 143, 144, 145, 146, 147, 148, 149] rfl (by decide +kernel)
set_option maxRecDepth 20000 in
theorem gX18_onReference_X18_goesOn : GoodIn wsX18_onReference (wsV RX18 257 RX18 yX18_goesOn wsX18_goesOn) := goodIn_app (goodIn_of _ (by decide +kernel)) ggX18_onReference_X18_goesOn
set_option maxRecDepth 20000 in
theorem ggX18_onReference_X18_push : GoodIn wsX18_onReference wsX18_push := goodIn_r _ [31, 11, 7, 10, 13, 14, 15, 5, 16, 17, 72, 73, 74, 75, 76, 77, 78, 79, 80, 81, 82, 83, 84, 85, 86, 87, 88, 89, 90, 91, 92, 93, 94, 95, 96, 97, 98, 99, 100, 101, 102, 103, 104, 105, 106, 107, 108, 109, 110, 111, 112, 113, 114, 115, 116, 117, 118, 119, 120, 121, 122, 123, 124, 125, 126, 127, 128, 129, 130, 131, 132, 133, 134, 135, 136, 137, 138, 139, 140, 141, 142, 143, 144, 145, 146, 147, 148, 149] rfl (by decide +kernel)
set_option maxRecDepth 20000 in
theorem gX18_onReference_X18_push : GoodIn wsX18_onReference (wsV RX18 318 RX18 yX18_push wsX18_push) := goodIn_app (goodIn_of _ (by decide +kernel)) ggX18_onReference_X18_push
set_option maxRecDepth 20000 in
theorem ggX18_onReference_X15_sizeOf : GoodIn wsX18_onReference wsX15_sizeOf := goodIn_r _ [36, 37, 38, 39, 33, 34, 35, 150, 151, 152, 153, 154, 155] rfl (by decide +kernel)
set_option maxRecDepth 20000 in
theorem gX18_onReference_X15_sizeOf : GoodIn wsX18_onReference (wsV RX18 357 RX15 yX15_sizeOf wsX15_sizeOf) := goodIn_app (goodIn_of _ (by decide +kernel)) ggX18_onReference_X15_sizeOf
set_option maxRecDepth 20000 in
theorem ggX18_onReference_X18_spend : GoodIn wsX18_onReference wsX18_spend := goodIn_r _ [43, 44, 45, 46, 13, 14, 15, 5, 16, 17, 23, 24, 25, 26, 27, 72, 73, 74, 75, 76, 77, 78, 79, 80, 81, 82, 83, 84, 85, 86, 87, 88, 89, 90, 91, 92, 93, 94, 95, 96, 97, 98, 99, 100, 101, 102, 103, 104, 105, 106, 107, 108, 109, 110, 111, 112, 113, 114, 115, 116, 117, 118, 119, 120, 121, 122, 123, 124, 125, 126, 127, 128, 129, 130, 131, 132, 133, 134, 135, 136, 137, 138, 139, 140, 141, 142, 143, 144, 145, 146, 147, 148, 149] rfl (by decide +kernel)
set_option maxRecDepth 20000 in
theorem gX18_onReference_X18_spend : GoodIn wsX18_onReference (wsV RX18 353 RX18 yX18_spend wsX18_spend) := goodIn_app (goodIn_of _ (by decide +kernel)) ggX18_onReference_X18_spend
set_option maxRecDepth 20000 in
theorem ggX18_onReference_X15_copy : GoodIn wsX18_onReference wsX15_copy := goodIn_r _ [50, 51, 52, 53, 37, 38, 54, 55, 56, 35, 57, 58, 59, 48, 49, 60, 61, 62, 63, 150, 151, 152, 153, 154, 155] rfl (by decide +kernel)
set_option maxRecDepth 20000 in
theorem gX18_onReference_X15_copy : GoodIn wsX18_onReference (wsV RX18 360 RX15 yX15_copy wsX15_copy) := goodIn_app (goodIn_of _ (by decide +kernel)) ggX18_onReference_X15_copy
set_option maxRecDepth 20000 in
theorem ggX18_onReference_X18_slip : GoodIn wsX18_onReference wsX18_slip := goodIn_r _ [21, 22, 23, 24, 25, 5, 26, 17, 27, 72, 73, 74, 75, 76, 77, 78, 79, 80, 81, 82, 83, 84, 85, 86, 87, 88, 89, 90, 91, 92, 93, 94, 95, 96, 97, 98, 99, 100, 101, 102, 103, 104, 105, 106, 107, 108, 109, 110, 111, 112, 113, 114, 115, 116, 117, 118, 119, 120, 121, 122, 123, 124, 125, 126, 127, 128, 129, 130, 131, 132, 133, 134, 135, 136, 137, 138, 139, 140, 141, 142, 143, 144, 145, 146, 147, 148, 149] rfl (by decide +kernel)
set_option maxRecDepth 20000 in
theorem gX18_onReference_X18_slip : GoodIn wsX18_onReference (wsV RX18 331 RX18 yX18_slip wsX18_slip) := goodIn_app (goodIn_of _ (by decide +kernel)) ggX18_onReference_X18_slip
set_option maxRecDepth 20000 in
theorem ggX18_onReference_X15_become : GoodIn wsX18_onReference wsX15_become := goodIn_r _ [67, 51, 52, 53, 37, 150, 151, 152, 153, 154, 155] rfl (by decide +kernel)
set_option maxRecDepth 20000 in
theorem gX18_onReference_X15_become : GoodIn wsX18_onReference (wsV RX18 363 RX15 yX15_become wsX15_become) := goodIn_app (goodIn_of _ (by decide +kernel)) ggX18_onReference_X15_become
set_option maxRecDepth 20000 in
theorem ggX18_onReference_X15_part : GoodIn wsX18_onReference wsX15_part := goodIn_r _ [71, 37, 38, 150, 151, 152, 153, 154, 155] rfl (by decide +kernel)
set_option maxRecDepth 20000 in
theorem gX18_onReference_X15_part : GoodIn wsX18_onReference (wsV RX18 366 RX15 yX15_part wsX15_part) := goodIn_app (goodIn_of _ (by decide +kernel)) ggX18_onReference_X15_part
set_option maxRecDepth 20000 in
theorem ggX18_pack_X16_fieldsOf : GoodIn wsX18_pack wsX16_fieldsOf := goodIn_r _ [10, 11, 12, 13, 14, 8, 15, 16, 17, 145, 146, 147, 148, 149, 150, 151, 152, 153, 154, 155, 156, 157, 158, 159, 160, 161, 162] rfl (by decide +kernel)
set_option maxRecDepth 20000 in
theorem ggX18_pack_X18_slip : GoodIn wsX18_pack wsX18_slip := goodIn_r _ [22, 23, 24, 25, 26, 21, 27, 28, 29, 67, 68, 69, 70, 71, 72, 73, 74, 75, 76, 77, 78, 79, 80, 81, 82, 83, 84, 85, 86, 87, 88, 89, 90, 91, 92, 93, 94, 95, 96, 97, 98, 99, 100, 101, 102, 103, 104, 105, 106, 107, 108, 109, 110, 111, 112, 113, 114, 115, 116, 117, 118, 119, 120, 121, 122, 123, 124, 125, 126, 127, 128, 129, 130, 131, 132, 133, 134, 135, 136, 137, 138, 139, 140, 141, 142, 143, 144] rfl (by decide +kernel)
set_option maxRecDepth 20000 in
theorem gX18_pack_X18_slip : GoodIn wsX18_pack (wsV RX18 331 RX18 yX18_slip wsX18_slip) := goodIn_app (goodIn_of _ (by decide +kernel)) ggX18_pack_X18_slip
set_option maxRecDepth 20000 in
theorem ggX18_pack_X18_goesOn : GoodIn wsX18_pack wsX18_goesOn := goodIn_r _ [33, 28, 67, 68, 69, 70, 71, 72, 73, 74, 75, 76, 77, 78, 79, 80, 81, 82, 83, 84, 85, 86, 87, 88, 89, 90, 91, 92, 93, 94, 95, 96, 97, 98, 99, 100, 101, 102, 103, 104, 105, 106, 107, 108, 109, 110, 111, 112, 113, 114, 115, 116, 117, 118, 119, 120, 121, 122, 123, 124, 125, 126, 127, 128, 129, 130, 131, 132, 133, 134, 135, 136, 137, 138, 139, 140, 141, 142, 143, 144] rfl (by decide +kernel)
set_option maxRecDepth 20000 in
theorem gX18_pack_X18_goesOn : GoodIn wsX18_pack (wsV RX18 257 RX18 yX18_goesOn wsX18_goesOn) := goodIn_app (goodIn_of _ (by decide +kernel)) ggX18_pack_X18_goesOn
set_option maxRecDepth 20000 in
theorem ggX18_pack_X16_identity : GoodIn wsX18_pack wsX16_identity := goodIn_r _ [37, 11, 38, 39, 40, 41, 8, 42, 43, 44, 45, 46, 12, 13, 14, 15, 16, 17, 145, 146, 147, 148, 149, 150, 151, 152, 153, 154, 155, 156, 157, 158, 159, 160, 161, 162] rfl (by decide +kernel)
set_option maxRecDepth 20000 in
theorem gX18_pack_X16_identity : GoodIn wsX18_pack (wsV RX18 143 RX16 yX16_identity wsX16_identity) := goodIn_app (goodIn_of _ (by decide +kernel)) ggX18_pack_X16_identity
set_option maxRecDepth 20000 in
theorem ggX18_pack_X15_make : GoodIn wsX18_pack wsX15_make := goodIn_r _ [51, 52, 53, 54, 55, 56, 57, 163, 164, 165, 166, 167, 168] rfl (by decide +kernel)
set_option maxRecDepth 20000 in
theorem gX18_pack_X15_make : GoodIn wsX18_pack (wsV RX18 54 RX15 yX15_make wsX15_make) := goodIn_app (goodIn_of _ (by decide +kernel)) ggX18_pack_X15_make
set_option maxRecDepth 20000 in
theorem ggX18_pack_X15_add : GoodIn wsX18_pack wsX15_add := goodIn_r _ [61, 57, 56, 163, 164, 165, 166, 167, 168] rfl (by decide +kernel)
set_option maxRecDepth 20000 in
theorem gX18_pack_X15_add : GoodIn wsX18_pack (wsV RX18 63 RX15 yX15_add wsX15_add) := goodIn_app (goodIn_of _ (by decide +kernel)) ggX18_pack_X15_add
set_option maxRecDepth 20000 in
theorem ggX18_pack_X18_push : GoodIn wsX18_pack wsX18_push := goodIn_r _ [65, 6, 2, 66, 30, 31, 32, 21, 33, 28, 67, 68, 69, 70, 71, 72, 73, 74, 75, 76, 77, 78, 79, 80, 81, 82, 83, 84, 85, 86, 87, 88, 89, 90, 91, 92, 93, 94, 95, 96, 97, 98, 99, 100, 101, 102, 103, 104, 105, 106, 107, 108, 109, 110, 111, 112, 113, 114, 115, 116, 117, 118, 119, 120, 121, 122, 123, 124, 125, 126, 127, 128, 129, 130, 131, 132, 133, 134, 135, 136, 137, 138, 139, 140, 141, 142, 143, 144] rfl (by decide +kernel)
set_option maxRecDepth 20000 in
theorem gX18_pack_X18_push : GoodIn wsX18_pack (wsV RX18 318 RX18 yX18_push wsX18_push) := goodIn_app (goodIn_of _ (by decide +kernel)) ggX18_pack_X18_push
set_option maxRecDepth 20000 in
theorem ggX18_unpack_X18_take : GoodIn wsX18_unpack wsX18_take := goodIn_r _ [7, 1, 8, 9, 10, 6, 11, 12, 13, 14, 15, 16, 17, 18, 19, 20, 21, 22, 23, 24, 25, 26, 27, 28, 29, 30, 31, 32, 58, 59, 60, 61, 62, 63, 64, 65, 66, 67, 68, 69, 70, 71, 72, 73, 74, 75, 76, 77, 78, 79, 80, 81, 82, 83, 84, 85, 86, 87, 88, 89, 90, 91, 92, 93, 94, 95, 96, 97, 98, 99, 100, 101, 102, 103, 104, 105, 106, 107, 108, 109, 110, 111, 112, 113, 114, 115, 116, 117, 118, 119, 120, 121, 122, 123, 124, 125, 126, 127, 128, 129, 130, 131, 132, 133, 134, 135, 136, 137, 138, 139, 140, 141] rfl (by decide +kernel)
set_option maxRecDepth 20000 in
theorem gX18_unpack_X18_take : GoodIn wsX18_unpack (wsV RX18 341 RX18 yX18_take wsX18_take) := goodIn_app (goodIn_of _ (by decide +kernel)) ggX18_unpack_X18_take
set_option maxRecDepth 20000 in
theorem ggX18_unpack_X18_goesOn : GoodIn wsX18_unpack wsX18_goesOn := goodIn_r _ [21, 22, 58, 59, 60, 61, 62, 63, 64, 65, 66, 67, 68, 69, 70, 71, 72, 73, 74, 75, 76, 77, 78, 79, 80, 81, 82, 83, 84, 85, 86, 87, 88, 89, 90, 91, 92, 93, 94, 95, 96, 97, 98, 99, 100, 101, 102, 103, 104, 105, 106, 107, 108, 109, 110, 111, 112, 113, 114, 115, 116, 117, 118, 119, 120, 121, 122, 123, 124, 125, 126, 127, 128, 129, 130, 131, 132, 133, 134, 135] rfl (by decide +kernel)
set_option maxRecDepth 20000 in
theorem gX18_unpack_X18_goesOn : GoodIn wsX18_unpack (wsV RX18 257 RX18 yX18_goesOn wsX18_goesOn) := goodIn_app (goodIn_of _ (by decide +kernel)) ggX18_unpack_X18_goesOn
set_option maxRecDepth 20000 in
theorem ggX18_unpack_X16_identity : GoodIn wsX18_unpack wsX16_identity := goodIn_r _ [37, 38, 39, 40, 41, 42, 36, 43, 44, 45, 46, 47, 48, 49, 50, 51, 52, 53, 142, 143, 144, 145, 146, 147, 148, 149, 150, 151, 152, 153, 154, 155, 156, 157, 158, 159] rfl (by decide +kernel)
set_option maxRecDepth 20000 in
theorem gX18_unpack_X16_identity : GoodIn wsX18_unpack (wsV RX18 143 RX16 yX16_identity wsX16_identity) := goodIn_app (goodIn_of _ (by decide +kernel)) ggX18_unpack_X16_identity
set_option maxRecDepth 20000 in
theorem ggX18_unpack_X18_slip : GoodIn wsX18_unpack wsX18_slip := goodIn_r _ [26, 27, 28, 29, 30, 6, 31, 22, 32, 58, 59, 60, 61, 62, 63, 64, 65, 66, 67, 68, 69, 70, 71, 72, 73, 74, 75, 76, 77, 78, 79, 80, 81, 82, 83, 84, 85, 86, 87, 88, 89, 90, 91, 92, 93, 94, 95, 96, 97, 98, 99, 100, 101, 102, 103, 104, 105, 106, 107, 108, 109, 110, 111, 112, 113, 114, 115, 116, 117, 118, 119, 120, 121, 122, 123, 124, 125, 126, 127, 128, 129, 130, 131, 132, 133, 134, 135] rfl (by decide +kernel)
set_option maxRecDepth 20000 in
theorem gX18_unpack_X18_slip : GoodIn wsX18_unpack (wsV RX18 331 RX18 yX18_slip wsX18_slip) := goodIn_app (goodIn_of _ (by decide +kernel)) ggX18_unpack_X18_slip
set_option maxRecDepth 20000 in
theorem ggX18_unpack_X18_push : GoodIn wsX18_unpack wsX18_push := goodIn_r _ [57, 16, 12, 15, 18, 19, 20, 6, 21, 22, 58, 59, 60, 61, 62, 63, 64, 65, 66, 67, 68, 69, 70, 71, 72, 73, 74, 75, 76, 77, 78, 79, 80, 81, 82, 83, 84, 85, 86, 87, 88, 89, 90, 91, 92, 93, 94, 95, 96, 97, 98, 99, 100, 101, 102, 103, 104, 105, 106, 107, 108, 109, 110, 111, 112, 113, 114, 115, 116, 117, 118, 119, 120, 121, 122, 123, 124, 125, 126, 127, 128, 129, 130, 131, 132, 133, 134, 135] rfl (by decide +kernel)
set_option maxRecDepth 20000 in
theorem gX18_unpack_X18_push : GoodIn wsX18_unpack (wsV RX18 318 RX18 yX18_push wsX18_push) := goodIn_app (goodIn_of _ (by decide +kernel)) ggX18_unpack_X18_push
set_option maxRecDepth 20000 in
theorem ggX18_reckon_X18_takeAny : GoodIn wsX18_reckon wsX18_takeAny := goodIn_r _ [7, 8, 9, 10, 11, 12, 13, 14, 15, 16, 6, 17, 18, 19, 20, 21, 22, 23, 24, 25, 26, 27, 28, 118, 119, 120, 121, 122, 123, 124, 125, 126, 127, 128, 129, 130, 131, 132, 133, 134, 135, 136, 137, 138, 139, 140, 141, 142, 143, 144, 145, 146, 147, 148, 149, 150, 151, 152, 153, 154, 155, 156, 157, 158, 159, 160, 161, 162, 163, 164, 165, 166, 167, 168, 169, 170, 171, 172, 173, 174, 175, 176, 177, 178, 179, 180, 181, 182, 183, 184, 185, 186, 187, 188, 189, 190, 191, 192, 193, 194, 195] rfl (by decide +kernel)
set_option maxRecDepth 20000 in
theorem gX18_reckon_X18_takeAny : GoodIn wsX18_reckon (wsV RX18 337 RX18 yX18_takeAny wsX18_takeAny) := goodIn_app (goodIn_of _ (by decide +kernel)) ggX18_reckon_X18_takeAny
set_option maxRecDepth 20000 in
theorem ggX18_reckon_X18_goesOn : GoodIn wsX18_reckon wsX18_goesOn := goodIn_r _ [17, 18, 118, 119, 120, 121, 122, 123, 124, 125, 126, 127, 128, 129, 130, 131, 132, 133, 134, 135, 136, 137, 138, 139, 140, 141, 142, 143, 144, 145, 146, 147, 148, 149, 150, 151, 152, 153, 154, 155, 156, 157, 158, 159, 160, 161, 162, 163, 164, 165, 166, 167, 168, 169, 170, 171, 172, 173, 174, 175, 176, 177, 178, 179, 180, 181, 182, 183, 184, 185, 186, 187, 188, 189, 190, 191, 192, 193, 194, 195] rfl (by decide +kernel)
set_option maxRecDepth 20000 in
theorem gX18_reckon_X18_goesOn : GoodIn wsX18_reckon (wsV RX18 257 RX18 yX18_goesOn wsX18_goesOn) := goodIn_app (goodIn_of _ (by decide +kernel)) ggX18_reckon_X18_goesOn
set_option maxRecDepth 20000 in
theorem ggX18_reckon_X18_slip : GoodIn wsX18_reckon wsX18_slip := goodIn_r _ [22, 23, 24, 25, 26, 6, 27, 18, 28, 118, 119, 120, 121, 122, 123, 124, 125, 126, 127, 128, 129, 130, 131, 132, 133, 134, 135, 136, 137, 138, 139, 140, 141, 142, 143, 144, 145, 146, 147, 148, 149, 150, 151, 152, 153, 154, 155, 156, 157, 158, 159, 160, 161, 162, 163, 164, 165, 166, 167, 168, 169, 170, 171, 172, 173, 174, 175, 176, 177, 178, 179, 180, 181, 182, 183, 184, 185, 186, 187, 188, 189, 190, 191, 192, 193, 194, 195] rfl (by decide +kernel)
set_option maxRecDepth 20000 in
theorem gX18_reckon_X18_slip : GoodIn wsX18_reckon (wsV RX18 331 RX18 yX18_slip wsX18_slip) := goodIn_app (goodIn_of _ (by decide +kernel)) ggX18_reckon_X18_slip
set_option maxRecDepth 20000 in
theorem ggX18_reckon_X18_bitsOf : GoodIn wsX18_reckon wsX18_bitsOf := goodIn_r _ [31] rfl (by decide +kernel)
set_option maxRecDepth 20000 in
theorem gX18_reckon_X18_bitsOf : GoodIn wsX18_reckon (va_wsS RX18 377 yX18_bitsOf wsX18_bitsOf) := goodIn_app (goodIn_of _ (by decide +kernel)) ggX18_reckon_X18_bitsOf
set_option maxRecDepth 20000 in
theorem ggX18_reckon_X17_reckon : GoodIn wsX18_reckon wsX17_reckon := goodIn_r _ [36, 37, 38, 39, 40, 35, 41, 42, 43, 44, 45, 46, 47, 48, 49, 50, 51, 52, 53, 54, 55, 56, 57, 58, 59, 60, 61, 62, 63, 64, 65, 66, 67, 68, 69, 70, 71, 72, 73, 74, 75, 76, 77, 78, 79, 80, 202, 203, 204, 205, 206] rfl (by decide +kernel)
set_option maxRecDepth 20000 in
theorem gX18_reckon_X17_reckon : GoodIn wsX18_reckon (wsV RX18 380 RX17 yX17_reckon wsX17_reckon) := goodIn_app (goodIn_of _ (by decide +kernel)) ggX18_reckon_X17_reckon
set_option maxRecDepth 20000 in
theorem ggX18_reckon_X18_make : GoodIn wsX18_reckon wsX18_make := goodIn_r _ [84, 1, 14, 15, 16, 6, 17, 18, 85, 86, 87, 88, 89, 90, 91, 92, 93, 94, 95, 96, 97, 98, 99, 12, 8, 11, 118, 119, 120, 121, 122, 123, 124, 125, 126, 127, 128, 129, 130, 131, 132, 133, 134, 135, 136, 137, 138, 139, 140, 141, 142, 143, 144, 145, 146, 147, 148, 149, 150, 151, 152, 153, 154, 155, 156, 157, 158, 159, 160, 161, 162, 163, 164, 165, 166, 167, 168, 169, 170, 171, 172, 173, 174, 175, 176, 177, 178, 179, 180, 181, 182, 183, 184, 185, 186, 187, 188, 189, 190, 191, 192, 193, 194, 195, 196, 197, 198, 199, 200, 201] rfl (by decide +kernel)
set_option maxRecDepth 20000 in
theorem gX18_reckon_X18_make : GoodIn wsX18_reckon (wsV RX18 392 RX18 yX18_make wsX18_make) := goodIn_app (goodIn_of _ (by decide +kernel)) ggX18_reckon_X18_make
set_option maxRecDepth 20000 in
theorem ggX18_reckon_X18_end : GoodIn wsX18_reckon wsX18_end := goodIn_r _ [27, 18, 28, 118, 119, 120, 121, 122, 123, 124, 125, 126, 127, 128, 129, 130, 131, 132, 133, 134, 135, 136, 137, 138, 139, 140, 141, 142, 143, 144, 145, 146, 147, 148, 149, 150, 151, 152, 153, 154, 155, 156, 157, 158, 159, 160, 161, 162, 163, 164, 165, 166, 167, 168, 169, 170, 171, 172, 173, 174, 175, 176, 177, 178, 179, 180, 181, 182, 183, 184, 185, 186, 187, 188, 189, 190, 191, 192, 193, 194, 195] rfl (by decide +kernel)
set_option maxRecDepth 20000 in
theorem gX18_reckon_X18_end : GoodIn wsX18_reckon (wsV RX18 267 RX18 yX18_end wsX18_end) := goodIn_app (goodIn_of _ (by decide +kernel)) ggX18_reckon_X18_end
set_option maxRecDepth 20000 in
theorem ggX18_reckon_X15_sizeOf : GoodIn wsX18_reckon wsX15_sizeOf := goodIn_r _ [103, 94, 95, 104, 101, 102, 88, 196, 197, 198, 199, 200, 201] rfl (by decide +kernel)
set_option maxRecDepth 20000 in
theorem gX18_reckon_X15_sizeOf : GoodIn wsX18_reckon (wsV RX18 357 RX15 yX15_sizeOf wsX15_sizeOf) := goodIn_app (goodIn_of _ (by decide +kernel)) ggX18_reckon_X15_sizeOf
set_option maxRecDepth 20000 in
theorem ggX18_reckon_X18_spend : GoodIn wsX18_reckon wsX18_spend := goodIn_r _ [108, 109, 110, 111, 14, 15, 16, 6, 17, 18, 24, 25, 26, 27, 28, 118, 119, 120, 121, 122, 123, 124, 125, 126, 127, 128, 129, 130, 131, 132, 133, 134, 135, 136, 137, 138, 139, 140, 141, 142, 143, 144, 145, 146, 147, 148, 149, 150, 151, 152, 153, 154, 155, 156, 157, 158, 159, 160, 161, 162, 163, 164, 165, 166, 167, 168, 169, 170, 171, 172, 173, 174, 175, 176, 177, 178, 179, 180, 181, 182, 183, 184, 185, 186, 187, 188, 189, 190, 191, 192, 193, 194, 195] rfl (by decide +kernel)
set_option maxRecDepth 20000 in
theorem gX18_reckon_X18_spend : GoodIn wsX18_reckon (wsV RX18 353 RX18 yX18_spend wsX18_spend) := goodIn_app (goodIn_of _ (by decide +kernel)) ggX18_reckon_X18_spend
set_option maxRecDepth 20000 in
theorem ggX18_reckon_X15_isAlike : GoodIn wsX18_reckon wsX15_isAlike := goodIn_r _ [115, 91, 92, 93, 94, 95, 116, 113, 114, 88, 196, 197, 198, 199, 200, 201] rfl (by decide +kernel)
set_option maxRecDepth 20000 in
theorem gX18_reckon_X15_isAlike : GoodIn wsX18_reckon (wsV RX18 395 RX15 yX15_isAlike wsX15_isAlike) := goodIn_app (goodIn_of _ (by decide +kernel)) ggX18_reckon_X15_isAlike
set_option maxRecDepth 20000 in
theorem ggX18_reckon_X17_compare : GoodIn wsX18_reckon wsX17_compare := goodIn_r _ [67, 68] rfl (by decide +kernel)
set_option maxRecDepth 20000 in
theorem gX18_reckon_X17_compare : GoodIn wsX18_reckon (va_wsS RX18 399 yX17_compare wsX17_compare) := goodIn_app (goodIn_of _ (by decide +kernel)) ggX18_reckon_X17_compare
set_option maxRecDepth 20000 in
theorem ggX18_shift_X18_take : GoodIn wsX18_shift wsX18_take := goodIn_r _ [7, 1, 8, 9, 10, 6, 11, 12, 13, 14, 15, 16, 17, 18, 19, 20, 21, 22, 23, 24, 25, 26, 27, 28, 29, 30, 31, 32, 63, 64, 65, 66, 67, 68, 69, 70, 71, 72, 73, 74, 75, 76, 77, 78, 79, 80, 81, 82, 83, 84, 85, 86, 87, 88, 89, 90, 91, 92, 93, 94, 95, 96, 97, 98, 99, 100, 101, 102, 103, 104, 105, 106, 107, 108, 109, 110, 111, 112, 113, 114, 115, 116, 117, 118, 119, 120, 121, 122, 123, 124, 125, 126, 127, 128, 129, 130, 131, 132, 133, 134, 135, 136, 137, 138, 139, 140, 141, 142, 143, 144, 145, 146] rfl (by decide +kernel)
set_option maxRecDepth 20000 in
theorem gX18_shift_X18_take : GoodIn wsX18_shift (wsV RX18 341 RX18 yX18_take wsX18_take) := goodIn_app (goodIn_of _ (by decide +kernel)) ggX18_shift_X18_take
set_option maxRecDepth 20000 in
theorem ggX18_shift_X18_takeAny : GoodIn wsX18_shift wsX18_takeAny := goodIn_r _ [11, 12, 13, 14, 15, 16, 17, 18, 19, 20, 6, 21, 22, 23, 24, 25, 26, 27, 28, 29, 30, 31, 32, 63, 64, 65, 66, 67, 68, 69, 70, 71, 72, 73, 74, 75, 76, 77, 78, 79, 80, 81, 82, 83, 84, 85, 86, 87, 88, 89, 90, 91, 92, 93, 94, 95, 96, 97, 98, 99, 100, 101, 102, 103, 104, 105, 106, 107, 108, 109, 110, 111, 112, 113, 114, 115, 116, 117, 118, 119, 120, 121, 122, 123, 124, 125, 126, 127, 128, 129, 130, 131, 132, 133, 134, 135, 136, 137, 138, 139, 140] rfl (by decide +kernel)
set_option maxRecDepth 20000 in
theorem gX18_shift_X18_takeAny : GoodIn wsX18_shift (wsV RX18 337 RX18 yX18_takeAny wsX18_takeAny) := goodIn_app (goodIn_of _ (by decide +kernel)) ggX18_shift_X18_takeAny
set_option maxRecDepth 20000 in
theorem ggX18_shift_X18_goesOn : GoodIn wsX18_shift wsX18_goesOn := goodIn_r _ [21, 22, 63, 64, 65, 66, 67, 68, 69, 70, 71, 72, 73, 74, 75, 76, 77, 78, 79, 80, 81, 82, 83, 84, 85, 86, 87, 88, 89, 90, 91, 92, 93, 94, 95, 96, 97, 98, 99, 100, 101, 102, 103, 104, 105, 106, 107, 108, 109, 110, 111, 112, 113, 114, 115, 116, 117, 118, 119, 120, 121, 122, 123, 124, 125, 126, 127, 128, 129, 130, 131, 132, 133, 134, 135, 136, 137, 138, 139, 140] rfl (by decide +kernel)
set_option maxRecDepth 20000 in
theorem gX18_shift_X18_goesOn : GoodIn wsX18_shift (wsV RX18 257 RX18 yX18_goesOn wsX18_goesOn) := goodIn_app (goodIn_of _ (by decide +kernel)) ggX18_shift_X18_goesOn
set_option maxRecDepth 20000 in
theorem ggX18_shift_X18_bitsOf : GoodIn wsX18_shift wsX18_bitsOf := goodIn_r _ [35] rfl (by decide +kernel)
set_option maxRecDepth 20000 in
theorem gX18_shift_X18_bitsOf : GoodIn wsX18_shift (va_wsS RX18 377 yX18_bitsOf wsX18_bitsOf) := goodIn_app (goodIn_of _ (by decide +kernel)) ggX18_shift_X18_bitsOf
set_option maxRecDepth 20000 in
theorem ggX18_shift_X18_end : GoodIn wsX18_shift wsX18_end := goodIn_r _ [31, 22, 32, 63, 64, 65, 66, 67, 68, 69, 70, 71, 72, 73, 74, 75, 76, 77, 78, 79, 80, 81, 82, 83, 84, 85, 86, 87, 88, 89, 90, 91, 92, 93, 94, 95, 96, 97, 98, 99, 100, 101, 102, 103, 104, 105, 106, 107, 108, 109, 110, 111, 112, 113, 114, 115, 116, 117, 118, 119, 120, 121, 122, 123, 124, 125, 126, 127, 128, 129, 130, 131, 132, 133, 134, 135, 136, 137, 138, 139, 140] rfl (by decide +kernel)
set_option maxRecDepth 20000 in
theorem gX18_shift_X18_end : GoodIn wsX18_shift (wsV RX18 267 RX18 yX18_end wsX18_end) := goodIn_app (goodIn_of _ (by decide +kernel)) ggX18_shift_X18_end
set_option maxRecDepth 20000 in
theorem ggX18_shift_X17_shift : GoodIn wsX18_shift wsX17_shift := goodIn_r _ [40, 41, 42, 43, 147, 148, 149, 150, 151] rfl (by decide +kernel)
set_option maxRecDepth 20000 in
theorem gX18_shift_X17_shift : GoodIn wsX18_shift (wsV RX18 403 RX17 yX17_shift wsX17_shift) := goodIn_app (goodIn_of _ (by decide +kernel)) ggX18_shift_X17_shift
set_option maxRecDepth 20000 in
theorem ggX18_shift_X18_make : GoodIn wsX18_shift wsX18_make := goodIn_r _ [47, 1, 18, 19, 20, 6, 21, 22, 48, 49, 50, 51, 52, 53, 54, 55, 56, 57, 58, 59, 60, 61, 62, 16, 12, 15, 63, 64, 65, 66, 67, 68, 69, 70, 71, 72, 73, 74, 75, 76, 77, 78, 79, 80, 81, 82, 83, 84, 85, 86, 87, 88, 89, 90, 91, 92, 93, 94, 95, 96, 97, 98, 99, 100, 101, 102, 103, 104, 105, 106, 107, 108, 109, 110, 111, 112, 113, 114, 115, 116, 117, 118, 119, 120, 121, 122, 123, 124, 125, 126, 127, 128, 129, 130, 131, 132, 133, 134, 135, 136, 137, 138, 139, 140, 141, 142, 143, 144, 145, 146] rfl (by decide +kernel)
set_option maxRecDepth 20000 in
theorem gX18_shift_X18_make : GoodIn wsX18_shift (wsV RX18 392 RX18 yX18_make wsX18_make) := goodIn_app (goodIn_of _ (by decide +kernel)) ggX18_shift_X18_make
set_option maxRecDepth 20000 in
theorem ggX18_convert_X18_takeAny : GoodIn wsX18_convert wsX18_takeAny := goodIn_r _ [6, 7, 8, 9, 10, 11, 12, 13, 14, 15, 5, 16, 17, 18, 19, 20, 21, 22, 23, 24, 25, 26, 27, 54, 55, 56, 57, 58, 59, 60, 61, 62, 63, 64, 65, 66, 67, 68, 69, 70, 71, 72, 73, 74, 75, 76, 77, 78, 79, 80, 81, 82, 83, 84, 85, 86, 87, 88, 89, 90, 91, 92, 93, 94, 95, 96, 97, 98, 99, 100, 101, 102, 103, 104, 105, 106, 107, 108, 109, 110, 111, 112, 113, 114, 115, 116, 117, 118, 119, 120, 121, 122, 123, 124, 125, 126, 127, 128, 129, 130, 131] rfl (by decide +kernel)
set_option maxRecDepth 20000 in
theorem gX18_convert_X18_takeAny : GoodIn wsX18_convert (wsV RX18 337 RX18 yX18_takeAny wsX18_takeAny) := goodIn_app (goodIn_of _ (by decide +kernel)) ggX18_convert_X18_takeAny
set_option maxRecDepth 20000 in
theorem ggX18_convert_X18_goesOn : GoodIn wsX18_convert wsX18_goesOn := goodIn_r _ [16, 17, 54, 55, 56, 57, 58, 59, 60, 61, 62, 63, 64, 65, 66, 67, 68, 69, 70, 71, 72, 73, 74, 75, 76, 77, 78, 79, 80, 81, 82, 83, 84, 85, 86, 87, 88, 89, 90, 91, 92, 93, 94, 95, 96, 97, 98, 99, 100, 101, 102, 103, 104, 105, 106, 107, 108, 109, 110, 111, 112, 113, 114, 115, 116, 117, 118, 119, 120, 121, 122, 123, 124, 125, 126, 127, 128, 129, 130, 131] rfl (by decide +kernel)
set_option maxRecDepth 20000 in
theorem gX18_convert_X18_goesOn : GoodIn wsX18_convert (wsV RX18 257 RX18 yX18_goesOn wsX18_goesOn) := goodIn_app (goodIn_of _ (by decide +kernel)) ggX18_convert_X18_goesOn
set_option maxRecDepth 20000 in
theorem ggX18_convert_X18_bitsOf : GoodIn wsX18_convert wsX18_bitsOf := goodIn_r _ [30] rfl (by decide +kernel)
set_option maxRecDepth 20000 in
theorem gX18_convert_X18_bitsOf : GoodIn wsX18_convert (va_wsS RX18 377 yX18_bitsOf wsX18_bitsOf) := goodIn_app (goodIn_of _ (by decide +kernel)) ggX18_convert_X18_bitsOf
set_option maxRecDepth 20000 in
theorem ggX18_convert_X17_isOf : GoodIn wsX18_convert wsX17_isOf := goodIn_r _ [34] rfl (by decide +kernel)
set_option maxRecDepth 20000 in
theorem gX18_convert_X17_isOf : GoodIn wsX18_convert (va_wsS RX18 407 yX17_isOf wsX17_isOf) := goodIn_app (goodIn_of _ (by decide +kernel)) ggX18_convert_X17_isOf
set_option maxRecDepth 20000 in
theorem ggX18_convert_X18_make : GoodIn wsX18_convert wsX18_make := goodIn_r _ [38, 1, 13, 14, 15, 5, 16, 17, 39, 40, 41, 42, 43, 44, 45, 46, 47, 48, 49, 50, 51, 52, 53, 11, 7, 10, 54, 55, 56, 57, 58, 59, 60, 61, 62, 63, 64, 65, 66, 67, 68, 69, 70, 71, 72, 73, 74, 75, 76, 77, 78, 79, 80, 81, 82, 83, 84, 85, 86, 87, 88, 89, 90, 91, 92, 93, 94, 95, 96, 97, 98, 99, 100, 101, 102, 103, 104, 105, 106, 107, 108, 109, 110, 111, 112, 113, 114, 115, 116, 117, 118, 119, 120, 121, 122, 123, 124, 125, 126, 127, 128, 129, 130, 131, 132, 133, 134, 135, 136, 137] rfl (by decide +kernel)
set_option maxRecDepth 20000 in
theorem gX18_convert_X18_make : GoodIn wsX18_convert (wsV RX18 392 RX18 yX18_make wsX18_make) := goodIn_app (goodIn_of _ (by decide +kernel)) ggX18_convert_X18_make
set_option maxRecDepth 20000 in
theorem ggX18_convert_X18_end : GoodIn wsX18_convert wsX18_end := goodIn_r _ [26, 17, 27, 54, 55, 56, 57, 58, 59, 60, 61, 62, 63, 64, 65, 66, 67, 68, 69, 70, 71, 72, 73, 74, 75, 76, 77, 78, 79, 80, 81, 82, 83, 84, 85, 86, 87, 88, 89, 90, 91, 92, 93, 94, 95, 96, 97, 98, 99, 100, 101, 102, 103, 104, 105, 106, 107, 108, 109, 110, 111, 112, 113, 114, 115, 116, 117, 118, 119, 120, 121, 122, 123, 124, 125, 126, 127, 128, 129, 130, 131] rfl (by decide +kernel)
set_option maxRecDepth 20000 in
theorem gX18_convert_X18_end : GoodIn wsX18_convert (wsV RX18 267 RX18 yX18_end wsX18_end) := goodIn_app (goodIn_of _ (by decide +kernel)) ggX18_convert_X18_end
set_option maxRecDepth 20000 in
theorem ggX18_onResource_X16_identity : GoodIn wsX18_onResource wsX16_identity := goodIn_r _ [11, 12, 13, 14, 15, 16, 10, 17, 18, 19, 20, 21, 22, 23, 24, 25, 26, 27, 214, 215, 216, 217, 218, 219, 220, 221, 222, 223, 224, 225, 226, 227, 228, 229, 230, 231] rfl (by decide +kernel)
set_option maxRecDepth 20000 in
theorem gX18_onResource_X16_identity : GoodIn wsX18_onResource (wsV RX18 143 RX16 yX16_identity wsX16_identity) := goodIn_app (goodIn_of _ (by decide +kernel)) ggX18_onResource_X16_identity
set_option maxRecDepth 20000 in
theorem ggX18_onResource_X18_take : GoodIn wsX18_onResource wsX18_take := goodIn_r _ [32, 3, 33, 34, 35, 31, 36, 37, 38, 39, 40, 41, 42, 43, 44, 45, 46, 47, 48, 49, 50, 51, 52, 53, 54, 55, 56, 57, 130, 131, 132, 133, 134, 135, 136, 137, 138, 139, 140, 141, 142, 143, 144, 145, 146, 147, 148, 149, 150, 151, 152, 153, 154, 155, 156, 157, 158, 159, 160, 161, 162, 163, 164, 165, 166, 167, 168, 169, 170, 171, 172, 173, 174, 175, 176, 177, 178, 179, 180, 181, 182, 183, 184, 185, 186, 187, 188, 189, 190, 191, 192, 193, 194, 195, 196, 197, 198, 199, 200, 201, 202, 203, 204, 205, 206, 207, 208, 209, 210, 211, 212, 213] rfl (by decide +kernel)
set_option maxRecDepth 20000 in
theorem gX18_onResource_X18_take : GoodIn wsX18_onResource (wsV RX18 341 RX18 yX18_take wsX18_take) := goodIn_app (goodIn_of _ (by decide +kernel)) ggX18_onResource_X18_take
set_option maxRecDepth 20000 in
theorem ggX18_onResource_X18_goesOn : GoodIn wsX18_onResource wsX18_goesOn := goodIn_r _ [46, 47, 130, 131, 132, 133, 134, 135, 136, 137, 138, 139, 140, 141, 142, 143, 144, 145, 146, 147, 148, 149, 150, 151, 152, 153, 154, 155, 156, 157, 158, 159, 160, 161, 162, 163, 164, 165, 166, 167, 168, 169, 170, 171, 172, 173, 174, 175, 176, 177, 178, 179, 180, 181, 182, 183, 184, 185, 186, 187, 188, 189, 190, 191, 192, 193, 194, 195, 196, 197, 198, 199, 200, 201, 202, 203, 204, 205, 206, 207] rfl (by decide +kernel)
set_option maxRecDepth 20000 in
theorem gX18_onResource_X18_goesOn : GoodIn wsX18_onResource (wsV RX18 257 RX18 yX18_goesOn wsX18_goesOn) := goodIn_app (goodIn_of _ (by decide +kernel)) ggX18_onResource_X18_goesOn
set_option maxRecDepth 20000 in
theorem ggX18_onResource_X18_ask : GoodIn wsX18_onResource wsX18_ask := goodIn_r _ [61, 62, 63, 64, 65, 66, 6, 4, 67, 68, 53, 54, 55, 31, 56, 47, 57, 69, 70, 71, 72, 73, 74, 75, 76, 77, 78, 79, 80, 81, 82, 83, 84, 85, 86, 87, 88, 89, 90, 3, 91, 92, 93, 94, 95, 96, 97, 98, 99, 100, 101, 102, 103, 104, 105, 106, 107, 108, 109, 130, 131, 132, 133, 134, 135, 136, 137, 138, 139, 140, 141, 142, 143, 144, 145, 146, 147, 148, 149, 150, 151, 152, 153, 154, 155, 156, 157, 158, 159, 160, 161, 162, 163, 164, 165, 166, 167, 168, 169, 170, 171, 172, 173, 174, 175, 176, 177, 178, 179, 180, 181, 182, 183, 184, 185, 186, 187, 188, 189, 190, 191, 192, 193, 194, 195, 196, 197, 198, 199, 200, 201, 202, 203, 204, 205, 206, 207, 208, 209, 210, 211, 212, 213] rfl (by decide +kernel)
set_option maxRecDepth 20000 in
theorem gX18_onResource_X18_ask : GoodIn wsX18_onResource (wsV RX18 414 RX18 yX18_ask wsX18_ask) := goodIn_app (goodIn_of _ (by decide +kernel)) ggX18_onResource_X18_ask
set_option maxRecDepth 20000 in
theorem ggX18_onResource_X18_spend : GoodIn wsX18_onResource wsX18_spend := goodIn_r _ [113, 114, 115, 116, 43, 44, 45, 31, 46, 47, 53, 54, 55, 56, 57, 130, 131, 132, 133, 134, 135, 136, 137, 138, 139, 140, 141, 142, 143, 144, 145, 146, 147, 148, 149, 150, 151, 152, 153, 154, 155, 156, 157, 158, 159, 160, 161, 162, 163, 164, 165, 166, 167, 168, 169, 170, 171, 172, 173, 174, 175, 176, 177, 178, 179, 180, 181, 182, 183, 184, 185, 186, 187, 188, 189, 190, 191, 192, 193, 194, 195, 196, 197, 198, 199, 200, 201, 202, 203, 204, 205, 206, 207] rfl (by decide +kernel)
set_option maxRecDepth 20000 in
theorem gX18_onResource_X18_spend : GoodIn wsX18_onResource (wsV RX18 353 RX18 yX18_spend wsX18_spend) := goodIn_app (goodIn_of _ (by decide +kernel)) ggX18_onResource_X18_spend
set_option maxRecDepth 20000 in
theorem ggX18_onResource_X18_make : GoodIn wsX18_onResource wsX18_make := goodIn_r _ [120, 3, 43, 44, 45, 31, 46, 47, 95, 96, 97, 98, 99, 100, 101, 102, 103, 104, 105, 121, 122, 123, 124, 41, 37, 40, 130, 131, 132, 133, 134, 135, 136, 137, 138, 139, 140, 141, 142, 143, 144, 145, 146, 147, 148, 149, 150, 151, 152, 153, 154, 155, 156, 157, 158, 159, 160, 161, 162, 163, 164, 165, 166, 167, 168, 169, 170, 171, 172, 173, 174, 175, 176, 177, 178, 179, 180, 181, 182, 183, 184, 185, 186, 187, 188, 189, 190, 191, 192, 193, 194, 195, 196, 197, 198, 199, 200, 201, 202, 203, 204, 205, 206, 207, 208, 209, 210, 211, 212, 213] rfl (by decide +kernel)
set_option maxRecDepth 20000 in
theorem gX18_onResource_X18_make : GoodIn wsX18_onResource (wsV RX18 392 RX18 yX18_make wsX18_make) := goodIn_app (goodIn_of _ (by decide +kernel)) ggX18_onResource_X18_make
set_option maxRecDepth 20000 in
theorem ggX18_onResource_X18_end : GoodIn wsX18_onResource wsX18_end := goodIn_r _ [56, 47, 57, 130, 131, 132, 133, 134, 135, 136, 137, 138, 139, 140, 141, 142, 143, 144, 145, 146, 147, 148, 149, 150, 151, 152, 153, 154, 155, 156, 157, 158, 159, 160, 161, 162, 163, 164, 165, 166, 167, 168, 169, 170, 171, 172, 173, 174, 175, 176, 177, 178, 179, 180, 181, 182, 183, 184, 185, 186, 187, 188, 189, 190, 191, 192, 193, 194, 195, 196, 197, 198, 199, 200, 201, 202, 203, 204, 205, 206, 207] rfl (by decide +kernel)
set_option maxRecDepth 20000 in
theorem gX18_onResource_X18_end : GoodIn wsX18_onResource (wsV RX18 267 RX18 yX18_end wsX18_end) := goodIn_app (goodIn_of _ (by decide +kernel)) ggX18_onResource_X18_end
set_option maxRecDepth 20000 in
theorem ggX18_onResource_X15_sizeOf : GoodIn wsX18_onResource wsX15_sizeOf := goodIn_r _ [128, 104, 105, 129, 126, 127, 98, 208, 209, 210, 211, 212, 213] rfl (by decide +kernel)
set_option maxRecDepth 20000 in
theorem gX18_onResource_X15_sizeOf : GoodIn wsX18_onResource (wsV RX18 357 RX15 yX15_sizeOf wsX15_sizeOf) := goodIn_app (goodIn_of _ (by decide +kernel)) ggX18_onResource_X15_sizeOf
set_option maxRecDepth 20000 in
theorem ggX18_onResource_X18_push : GoodIn wsX18_onResource wsX18_push := goodIn_r _ [124, 41, 37, 40, 43, 44, 45, 31, 46, 47, 130, 131, 132, 133, 134, 135, 136, 137, 138, 139, 140, 141, 142, 143, 144, 145, 146, 147, 148, 149, 150, 151, 152, 153, 154, 155, 156, 157, 158, 159, 160, 161, 162, 163, 164, 165, 166, 167, 168, 169, 170, 171, 172, 173, 174, 175, 176, 177, 178, 179, 180, 181, 182, 183, 184, 185, 186, 187, 188, 189, 190, 191, 192, 193, 194, 195, 196, 197, 198, 199, 200, 201, 202, 203, 204, 205, 206, 207] rfl (by decide +kernel)
set_option maxRecDepth 20000 in
theorem gX18_onResource_X18_push : GoodIn wsX18_onResource (wsV RX18 318 RX18 yX18_push wsX18_push) := goodIn_app (goodIn_of _ (by decide +kernel)) ggX18_onResource_X18_push
set_option maxRecDepth 20000 in
theorem ggX18_onVector_X18_slip : GoodIn wsX18_onVector wsX18_slip := goodIn_r _ [12, 13, 14, 15, 16, 11, 17, 18, 19, 139, 140, 141, 142, 143, 144, 145, 146, 147, 148, 149, 150, 151, 152, 153, 154, 155, 156, 157, 158, 159, 160, 161, 162, 163, 164, 165, 166, 167, 168, 169, 170, 171, 172, 173, 174, 175, 176, 177, 178, 179, 180, 181, 182, 183, 184, 185, 186, 187, 188, 189, 190, 191, 192, 193, 194, 195, 196, 197, 198, 199, 200, 201, 202, 203, 204, 205, 206, 207, 208, 209, 210, 211, 212, 213, 214, 215, 216] rfl (by decide +kernel)
set_option maxRecDepth 20000 in
theorem gX18_onVector_X18_slip : GoodIn wsX18_onVector (wsV RX18 331 RX18 yX18_slip wsX18_slip) := goodIn_app (goodIn_of _ (by decide +kernel)) ggX18_onVector_X18_slip
set_option maxRecDepth 20000 in
theorem ggX18_onVector_X18_spend : GoodIn wsX18_onVector wsX18_spend := goodIn_r _ [23, 24, 25, 26, 27, 28, 29, 11, 30, 18, 14, 15, 16, 17, 19, 139, 140, 141, 142, 143, 144, 145, 146, 147, 148, 149, 150, 151, 152, 153, 154, 155, 156, 157, 158, 159, 160, 161, 162, 163, 164, 165, 166, 167, 168, 169, 170, 171, 172, 173, 174, 175, 176, 177, 178, 179, 180, 181, 182, 183, 184, 185, 186, 187, 188, 189, 190, 191, 192, 193, 194, 195, 196, 197, 198, 199, 200, 201, 202, 203, 204, 205, 206, 207, 208, 209, 210, 211, 212, 213, 214, 215, 216] rfl (by decide +kernel)
set_option maxRecDepth 20000 in
theorem gX18_onVector_X18_spend : GoodIn wsX18_onVector (wsV RX18 353 RX18 yX18_spend wsX18_spend) := goodIn_app (goodIn_of _ (by decide +kernel)) ggX18_onVector_X18_spend
set_option maxRecDepth 20000 in
theorem ggX18_onVector_X15_make : GoodIn wsX18_onVector wsX15_make := goodIn_r _ [35, 36, 37, 38, 39, 40, 41, 217, 218, 219, 220, 221, 222] rfl (by decide +kernel)
set_option maxRecDepth 20000 in
theorem gX18_onVector_X15_make : GoodIn wsX18_onVector (wsV RX18 54 RX15 yX15_make wsX15_make) := goodIn_app (goodIn_of _ (by decide +kernel)) ggX18_onVector_X15_make
set_option maxRecDepth 20000 in
theorem ggX18_onVector_X15_add : GoodIn wsX18_onVector wsX15_add := goodIn_r _ [45, 41, 40, 217, 218, 219, 220, 221, 222] rfl (by decide +kernel)
set_option maxRecDepth 20000 in
theorem gX18_onVector_X15_add : GoodIn wsX18_onVector (wsV RX18 63 RX15 yX15_add wsX15_add) := goodIn_app (goodIn_of _ (by decide +kernel)) ggX18_onVector_X15_add
set_option maxRecDepth 20000 in
theorem ggX18_onVector_X18_push : GoodIn wsX18_onVector wsX18_push := goodIn_r _ [49, 5, 1, 50, 27, 28, 29, 11, 30, 18, 139, 140, 141, 142, 143, 144, 145, 146, 147, 148, 149, 150, 151, 152, 153, 154, 155, 156, 157, 158, 159, 160, 161, 162, 163, 164, 165, 166, 167, 168, 169, 170, 171, 172, 173, 174, 175, 176, 177, 178, 179, 180, 181, 182, 183, 184, 185, 186, 187, 188, 189, 190, 191, 192, 193, 194, 195, 196, 197, 198, 199, 200, 201, 202, 203, 204, 205, 206, 207, 208, 209, 210, 211, 212, 213, 214, 215, 216] rfl (by decide +kernel)
set_option maxRecDepth 20000 in
theorem gX18_onVector_X18_push : GoodIn wsX18_onVector (wsV RX18 318 RX18 yX18_push wsX18_push) := goodIn_app (goodIn_of _ (by decide +kernel)) ggX18_onVector_X18_push
set_option maxRecDepth 20000 in
theorem ggX18_onVector_X18_digest : GoodIn wsX18_onVector wsX18_digest := goodIn_r _ [54, 4, 55, 56, 57, 58, 11, 59, 60, 61, 62, 63, 1, 2, 3, 50, 5, 64, 27, 28, 29, 30, 18, 8, 9, 10, 12, 13, 14, 15, 16, 17, 19, 65, 66, 67, 34, 68, 40, 41, 20, 21, 22, 23, 24, 25, 26, 69, 70, 71, 72, 73, 74, 75, 76, 77, 78, 79, 80, 81, 82, 83, 84, 85, 86, 87, 88, 89, 90, 91, 92, 93, 94, 95, 96, 97, 98, 99, 100, 101, 102, 103, 104, 105, 106, 107, 108, 109, 31, 32, 33, 35, 36, 37, 38, 39, 110, 111, 112, 113, 114, 42, 43, 44, 45, 46, 47, 48, 49, 139, 140, 141, 142, 143, 144, 145, 146, 147, 148, 149, 150, 151, 152, 153, 154, 155, 156, 157, 158, 159, 160, 161, 162, 163, 164, 165, 166, 167, 168, 169, 170, 171, 172, 173, 174, 175, 176, 177, 178, 179, 180, 181, 182, 183, 184, 185, 186, 187, 188, 189, 190, 191, 192, 193, 194, 195, 196, 197, 198, 199, 200, 201, 202, 203, 204, 205, 206, 207, 208, 209, 210, 211, 212, 213, 214, 215, 216, 217, 218, 219, 220, 221, 222, 223, 224, 225, 226] rfl (by decide +kernel)
set_option maxRecDepth 20000 in
theorem gX18_onVector_X18_digest : GoodIn wsX18_onVector (wsV RX18 418 RX18 yX18_digest wsX18_digest) := goodIn_app (goodIn_of _ (by decide +kernel)) ggX18_onVector_X18_digest
set_option maxRecDepth 20000 in
theorem ggX18_onVector_X18_takeLong : GoodIn wsX18_onVector wsX18_takeLong := goodIn_r _ [118, 4, 56, 57, 58, 11, 59, 60, 61, 62, 63, 1, 2, 3, 50, 5, 64, 27, 28, 29, 30, 18, 8, 9, 10, 12, 13, 14, 15, 16, 17, 19, 139, 140, 141, 142, 143, 144, 145, 146, 147, 148, 149, 150, 151, 152, 153, 154, 155, 156, 157, 158, 159, 160, 161, 162, 163, 164, 165, 166, 167, 168, 169, 170, 171, 172, 173, 174, 175, 176, 177, 178, 179, 180, 181, 182, 183, 184, 185, 186, 187, 188, 189, 190, 191, 192, 193, 194, 195, 196, 197, 198, 199, 200, 201, 202, 203, 204, 205, 206, 207, 208, 209, 210, 211, 212, 213, 214, 215, 216, 217, 218, 219, 220, 221, 222] rfl (by decide +kernel)
set_option maxRecDepth 20000 in
theorem gX18_onVector_X18_takeLong : GoodIn wsX18_onVector (wsV RX18 421 RX18 yX18_takeLong wsX18_takeLong) := goodIn_app (goodIn_of _ (by decide +kernel)) ggX18_onVector_X18_takeLong
set_option maxRecDepth 20000 in
theorem ggX18_onVector_X18_takeAny : GoodIn wsX18_onVector wsX18_takeAny := goodIn_r _ [63, 1, 2, 3, 50, 5, 64, 27, 28, 29, 11, 30, 18, 8, 9, 10, 12, 13, 14, 15, 16, 17, 19, 139, 140, 141, 142, 143, 144, 145, 146, 147, 148, 149, 150, 151, 152, 153, 154, 155, 156, 157, 158, 159, 160, 161, 162, 163, 164, 165, 166, 167, 168, 169, 170, 171, 172, 173, 174, 175, 176, 177, 178, 179, 180, 181, 182, 183, 184, 185, 186, 187, 188, 189, 190, 191, 192, 193, 194, 195, 196, 197, 198, 199, 200, 201, 202, 203, 204, 205, 206, 207, 208, 209, 210, 211, 212, 213, 214, 215, 216] rfl (by decide +kernel)
set_option maxRecDepth 20000 in
theorem gX18_onVector_X18_takeAny : GoodIn wsX18_onVector (wsV RX18 337 RX18 yX18_takeAny wsX18_takeAny) := goodIn_app (goodIn_of _ (by decide +kernel)) ggX18_onVector_X18_takeAny
set_option maxRecDepth 20000 in
theorem ggX18_onVector_X18_goesOn : GoodIn wsX18_onVector wsX18_goesOn := goodIn_r _ [30, 18, 139, 140, 141, 142, 143, 144, 145, 146, 147, 148, 149, 150, 151, 152, 153, 154, 155, 156, 157, 158, 159, 160, 161, 162, 163, 164, 165, 166, 167, 168, 169, 170, 171, 172, 173, 174, 175, 176, 177, 178, 179, 180, 181, 182, 183, 184, 185, 186, 187, 188, 189, 190, 191, 192, 193, 194, 195, 196, 197, 198, 199, 200, 201, 202, 203, 204, 205, 206, 207, 208, 209, 210, 211, 212, 213, 214, 215, 216] rfl (by decide +kernel)
set_option maxRecDepth 20000 in
theorem gX18_onVector_X18_goesOn : GoodIn wsX18_onVector (wsV RX18 257 RX18 yX18_goesOn wsX18_goesOn) := goodIn_app (goodIn_of _ (by decide +kernel)) ggX18_onVector_X18_goesOn
set_option maxRecDepth 20000 in
theorem ggX18_onVector_X15_count : GoodIn wsX18_onVector wsX15_count := goodIn_r _ [68, 40, 41, 217, 218, 219, 220, 221, 222] rfl (by decide +kernel)
set_option maxRecDepth 20000 in
theorem gX18_onVector_X15_count : GoodIn wsX18_onVector (wsV RX18 80 RX15 yX15_count wsX15_count) := goodIn_app (goodIn_of _ (by decide +kernel)) ggX18_onVector_X15_count
set_option maxRecDepth 20000 in
theorem ggX18_onVector_X18_make : GoodIn wsX18_onVector wsX18_make := goodIn_r _ [122, 4, 27, 28, 29, 11, 30, 18, 31, 32, 33, 34, 35, 36, 37, 38, 39, 40, 41, 46, 47, 48, 49, 5, 1, 50, 139, 140, 141, 142, 143, 144, 145, 146, 147, 148, 149, 150, 151, 152, 153, 154, 155, 156, 157, 158, 159, 160, 161, 162, 163, 164, 165, 166, 167, 168, 169, 170, 171, 172, 173, 174, 175, 176, 177, 178, 179, 180, 181, 182, 183, 184, 185, 186, 187, 188, 189, 190, 191, 192, 193, 194, 195, 196, 197, 198, 199, 200, 201, 202, 203, 204, 205, 206, 207, 208, 209, 210, 211, 212, 213, 214, 215, 216, 217, 218, 219, 220, 221, 222] rfl (by decide +kernel)
set_option maxRecDepth 20000 in
theorem gX18_onVector_X18_make : GoodIn wsX18_onVector (wsV RX18 392 RX18 yX18_make wsX18_make) := goodIn_app (goodIn_of _ (by decide +kernel)) ggX18_onVector_X18_make
set_option maxRecDepth 20000 in
theorem ggX18_onVector_X18_end : GoodIn wsX18_onVector wsX18_end := goodIn_r _ [17, 18, 19, 139, 140, 141, 142, 143, 144, 145, 146, 147, 148, 149, 150, 151, 152, 153, 154, 155, 156, 157, 158, 159, 160, 161, 162, 163, 164, 165, 166, 167, 168, 169, 170, 171, 172, 173, 174, 175, 176, 177, 178, 179, 180, 181, 182, 183, 184, 185, 186, 187, 188, 189, 190, 191, 192, 193, 194, 195, 196, 197, 198, 199, 200, 201, 202, 203, 204, 205, 206, 207, 208, 209, 210, 211, 212, 213, 214, 215, 216] rfl (by decide +kernel)
set_option maxRecDepth 20000 in
theorem gX18_onVector_X18_end : GoodIn wsX18_onVector (wsV RX18 267 RX18 yX18_end wsX18_end) := goodIn_app (goodIn_of _ (by decide +kernel)) ggX18_onVector_X18_end
set_option maxRecDepth 20000 in
theorem ggX18_onVector_X15_takeLast : GoodIn wsX18_onVector wsX15_takeLast := goodIn_r _ [126, 40, 41, 217, 218, 219, 220, 221, 222] rfl (by decide +kernel)
set_option maxRecDepth 20000 in
theorem gX18_onVector_X15_takeLast : GoodIn wsX18_onVector (wsV RX18 427 RX15 yX15_takeLast wsX15_takeLast) := goodIn_app (goodIn_of _ (by decide +kernel)) ggX18_onVector_X15_takeLast
set_option maxRecDepth 20000 in
theorem ggX18_onVector_X15_part : GoodIn wsX18_onVector wsX15_part := goodIn_r _ [130, 40, 41, 217, 218, 219, 220, 221, 222] rfl (by decide +kernel)
set_option maxRecDepth 20000 in
theorem gX18_onVector_X15_part : GoodIn wsX18_onVector (wsV RX18 366 RX15 yX15_part wsX15_part) := goodIn_app (goodIn_of _ (by decide +kernel)) ggX18_onVector_X15_part
set_option maxRecDepth 20000 in
theorem ggX18_onVector_X15_swap : GoodIn wsX18_onVector wsX15_swap := goodIn_r _ [134, 37, 38, 39, 40, 135, 136, 137, 34, 138, 217, 218, 219, 220, 221, 222] rfl (by decide +kernel)
set_option maxRecDepth 20000 in
theorem gX18_onVector_X15_swap : GoodIn wsX18_onVector (wsV RX18 430 RX15 yX15_swap wsX15_swap) := goodIn_app (goodIn_of _ (by decide +kernel)) ggX18_onVector_X15_swap
set_option maxRecDepth 20000 in
theorem ggX18_digest_X18_take : GoodIn wsX18_digest wsX18_take := goodIn_r _ [7, 1, 8, 9, 10, 6, 11, 12, 13, 14, 15, 16, 17, 18, 19, 20, 21, 22, 23, 24, 25, 26, 27, 28, 29, 30, 31, 32, 109, 110, 111, 112, 113, 114, 115, 116, 117, 118, 119, 120, 121, 122, 123, 124, 125, 126, 127, 128, 129, 130, 131, 132, 133, 134, 135, 136, 137, 138, 139, 140, 141, 142, 143, 144, 145, 146, 147, 148, 149, 150, 151, 152, 153, 154, 155, 156, 157, 158, 159, 160, 161, 162, 163, 164, 165, 166, 167, 168, 169, 170, 171, 172, 173, 174, 175, 176, 177, 178, 179, 180, 181, 182, 183, 184, 185, 186, 187, 188, 189, 190, 191, 192] rfl (by decide +kernel)
set_option maxRecDepth 20000 in
theorem gX18_digest_X18_take : GoodIn wsX18_digest (wsV RX18 341 RX18 yX18_take wsX18_take) := goodIn_app (goodIn_of _ (by decide +kernel)) ggX18_digest_X18_take
set_option maxRecDepth 20000 in
theorem ggX18_digest_X18_goesOn : GoodIn wsX18_digest wsX18_goesOn := goodIn_r _ [21, 22, 109, 110, 111, 112, 113, 114, 115, 116, 117, 118, 119, 120, 121, 122, 123, 124, 125, 126, 127, 128, 129, 130, 131, 132, 133, 134, 135, 136, 137, 138, 139, 140, 141, 142, 143, 144, 145, 146, 147, 148, 149, 150, 151, 152, 153, 154, 155, 156, 157, 158, 159, 160, 161, 162, 163, 164, 165, 166, 167, 168, 169, 170, 171, 172, 173, 174, 175, 176, 177, 178, 179, 180, 181, 182, 183, 184, 185, 186] rfl (by decide +kernel)
set_option maxRecDepth 20000 in
theorem gX18_digest_X18_goesOn : GoodIn wsX18_digest (wsV RX18 257 RX18 yX18_goesOn wsX18_goesOn) := goodIn_app (goodIn_of _ (by decide +kernel)) ggX18_digest_X18_goesOn
set_option maxRecDepth 20000 in
theorem ggX18_digest_X15_count : GoodIn wsX18_digest wsX15_count := goodIn_r _ [37, 38, 39, 187, 188, 189, 190, 191, 192] rfl (by decide +kernel)
set_option maxRecDepth 20000 in
theorem gX18_digest_X15_count : GoodIn wsX18_digest (wsV RX18 80 RX15 yX15_count wsX15_count) := goodIn_app (goodIn_of _ (by decide +kernel)) ggX18_digest_X15_count
set_option maxRecDepth 20000 in
theorem ggX18_digest_X18_spend : GoodIn wsX18_digest wsX18_spend := goodIn_r _ [43, 44, 45, 46, 18, 19, 20, 6, 21, 22, 28, 29, 30, 31, 32, 109, 110, 111, 112, 113, 114, 115, 116, 117, 118, 119, 120, 121, 122, 123, 124, 125, 126, 127, 128, 129, 130, 131, 132, 133, 134, 135, 136, 137, 138, 139, 140, 141, 142, 143, 144, 145, 146, 147, 148, 149, 150, 151, 152, 153, 154, 155, 156, 157, 158, 159, 160, 161, 162, 163, 164, 165, 166, 167, 168, 169, 170, 171, 172, 173, 174, 175, 176, 177, 178, 179, 180, 181, 182, 183, 184, 185, 186] rfl (by decide +kernel)
set_option maxRecDepth 20000 in
theorem gX18_digest_X18_spend : GoodIn wsX18_digest (wsV RX18 353 RX18 yX18_spend wsX18_spend) := goodIn_app (goodIn_of _ (by decide +kernel)) ggX18_digest_X18_spend
set_option maxRecDepth 20000 in
theorem ggX18_digest_X12_begin : GoodIn wsX18_digest wsX12_begin := goodIn_r _ [51, 52, 193, 194, 195, 196] rfl (by decide +kernel)
set_option maxRecDepth 20000 in
theorem gX18_digest_X12_begin : GoodIn wsX18_digest (wsV RX18 433 RX12 yX12_begin wsX12_begin) := goodIn_app (goodIn_of _ (by decide +kernel)) ggX18_digest_X12_begin
set_option maxRecDepth 20000 in
theorem ggX18_digest_X12_add : GoodIn wsX18_digest wsX12_add := goodIn_r _ [56, 57, 52, 193, 194, 195, 196] rfl (by decide +kernel)
set_option maxRecDepth 20000 in
theorem gX18_digest_X12_add : GoodIn wsX18_digest (wsV RX18 98 RX12 yX12_add wsX12_add) := goodIn_app (goodIn_of _ (by decide +kernel)) ggX18_digest_X12_add
set_option maxRecDepth 20000 in
theorem ggX18_digest_X12_end : GoodIn wsX18_digest wsX12_end := goodIn_r _ [61, 62, 63, 64, 65, 66, 67, 68, 69, 70, 52, 71, 72, 54, 55, 50, 56, 57, 73, 74, 75, 76, 77, 78, 79, 80, 81, 82, 83, 84, 85, 86, 87, 193, 194, 195, 196] rfl (by decide +kernel)
set_option maxRecDepth 20000 in
theorem gX18_digest_X12_end : GoodIn wsX18_digest (wsV RX18 436 RX12 yX12_end wsX12_end) := goodIn_app (goodIn_of _ (by decide +kernel)) ggX18_digest_X12_end
set_option maxRecDepth 20000 in
theorem ggX18_digest_X15_make : GoodIn wsX18_digest wsX15_make := goodIn_r _ [91, 92, 93, 94, 95, 38, 39, 187, 188, 189, 190, 191, 192] rfl (by decide +kernel)
set_option maxRecDepth 20000 in
theorem gX18_digest_X15_make : GoodIn wsX18_digest (wsV RX18 54 RX15 yX15_make wsX15_make) := goodIn_app (goodIn_of _ (by decide +kernel)) ggX18_digest_X15_make
set_option maxRecDepth 20000 in
theorem ggX18_digest_X12_byteOf : GoodIn wsX18_digest wsX12_byteOf := goodIn_r _ [99, 62, 100, 193, 194, 195, 196] rfl (by decide +kernel)
set_option maxRecDepth 20000 in
theorem gX18_digest_X12_byteOf : GoodIn wsX18_digest (wsV RX18 438 RX12 yX12_byteOf wsX12_byteOf) := goodIn_app (goodIn_of _ (by decide +kernel)) ggX18_digest_X12_byteOf
set_option maxRecDepth 20000 in
theorem ggX18_digest_X15_add : GoodIn wsX18_digest wsX15_add := goodIn_r _ [104, 39, 38, 187, 188, 189, 190, 191, 192] rfl (by decide +kernel)
set_option maxRecDepth 20000 in
theorem gX18_digest_X15_add : GoodIn wsX18_digest (wsV RX18 63 RX15 yX15_add wsX15_add) := goodIn_app (goodIn_of _ (by decide +kernel)) ggX18_digest_X15_add
set_option maxRecDepth 20000 in
theorem ggX18_digest_X18_push : GoodIn wsX18_digest wsX18_push := goodIn_r _ [108, 16, 12, 15, 18, 19, 20, 6, 21, 22, 109, 110, 111, 112, 113, 114, 115, 116, 117, 118, 119, 120, 121, 122, 123, 124, 125, 126, 127, 128, 129, 130, 131, 132, 133, 134, 135, 136, 137, 138, 139, 140, 141, 142, 143, 144, 145, 146, 147, 148, 149, 150, 151, 152, 153, 154, 155, 156, 157, 158, 159, 160, 161, 162, 163, 164, 165, 166, 167, 168, 169, 170, 171, 172, 173, 174, 175, 176, 177, 178, 179, 180, 181, 182, 183, 184, 185, 186] rfl (by decide +kernel)
set_option maxRecDepth 20000 in
theorem gX18_digest_X18_push : GoodIn wsX18_digest (wsV RX18 318 RX18 yX18_push wsX18_push) := goodIn_app (goodIn_of _ (by decide +kernel)) ggX18_digest_X18_push
set_option maxRecDepth 20000 in
theorem ggX18_enter_X18_local : GoodIn wsX18_enter wsX18_local := goodIn_r _ [15, 1, 16, 17, 18, 19, 20, 21, 22, 23, 24, 25, 26, 27, 28, 29, 30, 31, 32, 33, 34, 35, 36, 37, 38, 39, 40, 41, 42, 43, 44, 45, 46, 47, 48, 49, 50, 51, 52, 53, 54, 55, 56, 57, 58, 59, 60, 61, 62, 63, 64, 65, 66, 67, 68, 69, 70, 71, 72, 73, 74, 75, 76, 77, 78, 79, 80, 81, 82, 83, 84, 85, 86, 87, 88, 89, 90, 91, 92, 93] rfl (by decide +kernel)
set_option maxRecDepth 20000 in
theorem gX18_enter_X18_local : GoodIn wsX18_enter (wsV RX18 344 RX18 yX18_local wsX18_local) := goodIn_app (goodIn_of _ (by decide +kernel)) ggX18_enter_X18_local
set_option maxRecDepth 20000 in
theorem ggX18_enterCall_X16_many : GoodIn wsX18_enterCall wsX16_many := goodIn_r _ [11, 12, 13, 14, 15, 10, 16, 17, 18, 19, 20, 21, 22, 23, 24, 25, 26, 27, 28, 29, 30, 31, 32, 33, 34, 35, 36, 262, 263, 264, 265, 266, 267, 268, 269, 270, 271, 272, 273, 274, 275, 276, 277, 278, 279] rfl (by decide +kernel)
set_option maxRecDepth 20000 in
theorem gX18_enterCall_X16_many : GoodIn wsX18_enterCall (wsV RX18 133 RX16 yX16_many wsX16_many) := goodIn_app (goodIn_of _ (by decide +kernel)) ggX18_enterCall_X16_many
set_option maxRecDepth 20000 in
theorem ggX18_enterCall_X18_slip : GoodIn wsX18_enterCall wsX18_slip := goodIn_r _ [41, 42, 43, 44, 45, 40, 46, 47, 48, 184, 185, 186, 187, 188, 189, 190, 191, 192, 193, 194, 195, 196, 197, 198, 199, 200, 201, 202, 203, 204, 205, 206, 207, 208, 209, 210, 211, 212, 213, 214, 215, 216, 217, 218, 219, 220, 221, 222, 223, 224, 225, 226, 227, 228, 229, 230, 231, 232, 233, 234, 235, 236, 237, 238, 239, 240, 241, 242, 243, 244, 245, 246, 247, 248, 249, 250, 251, 252, 253, 254, 255, 256, 257, 258, 259, 260, 261] rfl (by decide +kernel)
set_option maxRecDepth 20000 in
theorem gX18_enterCall_X18_slip : GoodIn wsX18_enterCall (wsV RX18 331 RX18 yX18_slip wsX18_slip) := goodIn_app (goodIn_of _ (by decide +kernel)) ggX18_enterCall_X18_slip
set_option maxRecDepth 20000 in
theorem ggX18_enterCall_X16_foreignNumber : GoodIn wsX18_enterCall wsX16_foreignNumber := goodIn_r _ [52, 17, 12, 27, 28, 29, 10, 30, 31, 32, 262, 263, 264, 265, 266, 267, 268, 269, 270, 271, 272, 273, 274, 275, 276, 277, 278, 279] rfl (by decide +kernel)
set_option maxRecDepth 20000 in
theorem gX18_enterCall_X16_foreignNumber : GoodIn wsX18_enterCall (wsV RX18 172 RX16 yX16_foreignNumber wsX16_foreignNumber) := goodIn_app (goodIn_of _ (by decide +kernel)) ggX18_enterCall_X16_foreignNumber
set_option maxRecDepth 20000 in
theorem ggX18_enterCall_X16_foreignModule : GoodIn wsX18_enterCall wsX16_foreignModule := goodIn_r _ [56, 17, 12, 57, 58, 59, 10, 60, 27, 28, 29, 30, 31, 32, 262, 263, 264, 265, 266, 267, 268, 269, 270, 271, 272, 273, 274, 275, 276, 277, 278, 279] rfl (by decide +kernel)
set_option maxRecDepth 20000 in
theorem gX18_enterCall_X16_foreignModule : GoodIn wsX18_enterCall (wsV RX18 169 RX16 yX16_foreignModule wsX16_foreignModule) := goodIn_app (goodIn_of _ (by decide +kernel)) ggX18_enterCall_X16_foreignModule
set_option maxRecDepth 20000 in
theorem ggX18_enterCall_X18_coin : GoodIn wsX18_enterCall wsX18_coin := goodIn_r _ [64, 65, 66, 67, 68, 69, 70, 71, 40, 72, 73, 74, 75, 76, 77, 78, 79, 80, 4, 5, 2, 81, 82, 83, 84, 85, 86, 87, 47, 37, 38, 39, 41, 42, 43, 44, 45, 46, 48, 88, 89, 90, 91, 92, 93, 94, 95, 96, 97, 98, 99, 100, 101, 102, 103, 104, 105, 106, 107, 108, 109, 110, 111, 112, 113, 114, 115, 116, 117, 118, 119, 120, 121, 122, 123, 124, 125, 126, 127, 128, 129, 6, 130, 131, 132, 133, 134, 135, 136, 137, 138, 139, 140, 141, 142, 143, 144, 145, 146, 147, 148, 149, 150, 151, 152, 153, 154, 155, 156, 157, 158, 159, 160, 161, 184, 185, 186, 187, 188, 189, 190, 191, 192, 193, 194, 195, 196, 197, 198, 199, 200, 201, 202, 203, 204, 205, 206, 207, 208, 209, 210, 211, 212, 213, 214, 215, 216, 217, 218, 219, 220, 221, 222, 223, 224, 225, 226, 227, 228, 229, 230, 231, 232, 233, 234, 235, 236, 237, 238, 239, 240, 241, 242, 243, 244, 245, 246, 247, 248, 249, 250, 251, 252, 253, 254, 255, 256, 257, 258, 259, 260, 261, 280, 281, 282, 283, 284, 285] rfl (by decide +kernel)
set_option maxRecDepth 20000 in
theorem gX18_enterCall_X18_coin : GoodIn wsX18_enterCall (wsV RX18 448 RX18 yX18_coin wsX18_coin) := goodIn_app (goodIn_of _ (by decide +kernel)) ggX18_enterCall_X18_coin
set_option maxRecDepth 20000 in
theorem ggX18_enterCall_X18_ask : GoodIn wsX18_enterCall wsX18_ask := goodIn_r _ [125, 126, 127, 128, 129, 6, 130, 67, 65, 131, 43, 44, 45, 40, 46, 47, 48, 132, 133, 134, 135, 136, 137, 138, 139, 140, 141, 142, 143, 144, 145, 146, 147, 148, 149, 150, 151, 152, 153, 66, 154, 155, 156, 157, 103, 104, 105, 106, 107, 108, 109, 110, 111, 112, 113, 114, 115, 116, 117, 184, 185, 186, 187, 188, 189, 190, 191, 192, 193, 194, 195, 196, 197, 198, 199, 200, 201, 202, 203, 204, 205, 206, 207, 208, 209, 210, 211, 212, 213, 214, 215, 216, 217, 218, 219, 220, 221, 222, 223, 224, 225, 226, 227, 228, 229, 230, 231, 232, 233, 234, 235, 236, 237, 238, 239, 240, 241, 242, 243, 244, 245, 246, 247, 248, 249, 250, 251, 252, 253, 254, 255, 256, 257, 258, 259, 260, 261, 280, 281, 282, 283, 284, 285] rfl (by decide +kernel)
set_option maxRecDepth 20000 in
theorem gX18_enterCall_X18_ask : GoodIn wsX18_enterCall (wsV RX18 414 RX18 yX18_ask wsX18_ask) := goodIn_app (goodIn_of _ (by decide +kernel)) ggX18_enterCall_X18_ask
set_option maxRecDepth 20000 in
theorem ggX18_enterCall_X18_findModule : GoodIn wsX18_enterCall wsX18_findModule := goodIn_r _ [165, 166, 167, 168, 169, 170, 10, 171, 57, 58, 59, 60, 27, 28, 29, 30, 31, 32, 184, 185, 186, 187, 188, 189, 190, 191, 192, 193, 194, 195, 196, 197, 198, 199, 200, 201, 202, 203, 204, 205, 206, 207, 208, 209, 210, 211, 212, 213, 214, 215, 216, 217, 218, 219, 220, 221, 222, 223, 224, 225, 226, 227, 228, 229, 230, 231, 232, 233, 234, 235, 236, 237, 238, 239, 240, 241, 242, 243, 244, 245, 246, 247, 248, 249, 250, 251, 252, 253, 254, 255, 256, 257, 258, 259, 260, 261, 262, 263, 264, 265, 266, 267, 268, 269, 270, 271, 272, 273, 274, 275, 276, 277, 278, 279] rfl (by decide +kernel)
set_option maxRecDepth 20000 in
theorem gX18_enterCall_X18_findModule : GoodIn wsX18_enterCall (wsV RX18 106 RX18 yX18_findModule wsX18_findModule) := goodIn_app (goodIn_of _ (by decide +kernel)) ggX18_enterCall_X18_findModule
set_option maxRecDepth 20000 in
theorem ggX18_enterCall_X18_end : GoodIn wsX18_enterCall wsX18_end := goodIn_r _ [46, 47, 48, 184, 185, 186, 187, 188, 189, 190, 191, 192, 193, 194, 195, 196, 197, 198, 199, 200, 201, 202, 203, 204, 205, 206, 207, 208, 209, 210, 211, 212, 213, 214, 215, 216, 217, 218, 219, 220, 221, 222, 223, 224, 225, 226, 227, 228, 229, 230, 231, 232, 233, 234, 235, 236, 237, 238, 239, 240, 241, 242, 243, 244, 245, 246, 247, 248, 249, 250, 251, 252, 253, 254, 255, 256, 257, 258, 259, 260, 261] rfl (by decide +kernel)
set_option maxRecDepth 20000 in
theorem gX18_enterCall_X18_end : GoodIn wsX18_enterCall (wsV RX18 267 RX18 yX18_end wsX18_end) := goodIn_app (goodIn_of _ (by decide +kernel)) ggX18_enterCall_X18_end
set_option maxRecDepth 20000 in
theorem ggX18_enterCall_X18_spend : GoodIn wsX18_enterCall wsX18_spend := goodIn_r _ [91, 92, 93, 94, 84, 85, 86, 40, 87, 47, 43, 44, 45, 46, 48, 184, 185, 186, 187, 188, 189, 190, 191, 192, 193, 194, 195, 196, 197, 198, 199, 200, 201, 202, 203, 204, 205, 206, 207, 208, 209, 210, 211, 212, 213, 214, 215, 216, 217, 218, 219, 220, 221, 222, 223, 224, 225, 226, 227, 228, 229, 230, 231, 232, 233, 234, 235, 236, 237, 238, 239, 240, 241, 242, 243, 244, 245, 246, 247, 248, 249, 250, 251, 252, 253, 254, 255, 256, 257, 258, 259, 260, 261] rfl (by decide +kernel)
set_option maxRecDepth 20000 in
theorem gX18_enterCall_X18_spend : GoodIn wsX18_enterCall (wsV RX18 353 RX18 yX18_spend wsX18_spend) := goodIn_app (goodIn_of _ (by decide +kernel)) ggX18_enterCall_X18_spend
set_option maxRecDepth 20000 in
theorem ggX18_enterCall_X18_enter : GoodIn wsX18_enterCall wsX18_enter := goodIn_r _ [175, 2, 1, 176, 177, 178, 82, 4, 179, 81, 5, 180, 181, 182, 40, 183, 184, 185, 186, 187, 188, 189, 190, 191, 192, 193, 194, 195, 196, 197, 198, 199, 200, 201, 202, 203, 204, 205, 206, 207, 208, 209, 210, 211, 212, 213, 214, 215, 216, 217, 218, 219, 220, 221, 222, 223, 224, 225, 226, 227, 228, 229, 230, 231, 232, 233, 234, 235, 236, 237, 238, 239, 240, 241, 242, 243, 244, 245, 246, 247, 248, 249, 250, 251, 252, 253, 254, 255, 256, 257, 258, 259, 260, 261] rfl (by decide +kernel)
set_option maxRecDepth 20000 in
theorem gX18_enterCall_X18_enter : GoodIn wsX18_enterCall (wsV RX18 451 RX18 yX18_enter wsX18_enter) := goodIn_app (goodIn_of _ (by decide +kernel)) ggX18_enterCall_X18_enter
set_option maxRecDepth 20000 in
theorem ggX18_makeCoin_X15_make : GoodIn wsX18_makeCoin wsX15_make := goodIn_r _ [6, 7, 8, 9, 10, 11, 12, 108, 109, 110, 111, 112, 113] rfl (by decide +kernel)
set_option maxRecDepth 20000 in
theorem gX18_makeCoin_X15_make : GoodIn wsX18_makeCoin (wsV RX18 54 RX15 yX15_make wsX15_make) := goodIn_app (goodIn_of _ (by decide +kernel)) ggX18_makeCoin_X15_make
set_option maxRecDepth 20000 in
theorem ggX18_makeCoin_X15_add : GoodIn wsX18_makeCoin wsX15_add := goodIn_r _ [16, 12, 11, 108, 109, 110, 111, 112, 113] rfl (by decide +kernel)
set_option maxRecDepth 20000 in
theorem gX18_makeCoin_X15_add : GoodIn wsX18_makeCoin (wsV RX18 63 RX15 yX15_add wsX15_add) := goodIn_app (goodIn_of _ (by decide +kernel)) ggX18_makeCoin_X15_add
set_option maxRecDepth 20000 in
theorem ggX18_makeCoin_X18_push : GoodIn wsX18_makeCoin wsX18_push := goodIn_r _ [21, 22, 23, 24, 25, 26, 27, 20, 28, 29, 30, 31, 32, 33, 34, 35, 36, 37, 38, 39, 40, 41, 42, 43, 44, 45, 46, 47, 48, 49, 50, 51, 52, 53, 54, 55, 56, 57, 58, 59, 60, 61, 62, 63, 64, 65, 66, 67, 68, 69, 70, 71, 72, 73, 74, 75, 76, 77, 78, 79, 80, 81, 82, 83, 84, 85, 86, 87, 88, 89, 90, 91, 92, 93, 94, 95, 96, 97, 98, 99, 100, 101, 102, 103, 104, 105, 106, 107] rfl (by decide +kernel)
set_option maxRecDepth 20000 in
theorem gX18_makeCoin_X18_push : GoodIn wsX18_makeCoin (wsV RX18 318 RX18 yX18_push wsX18_push) := goodIn_app (goodIn_of _ (by decide +kernel)) ggX18_makeCoin_X18_push
set_option maxRecDepth 20000 in
theorem ggX18_coin_X18_takeLong : GoodIn wsX18_coin wsX18_takeLong := goodIn_r _ [9, 2, 10, 11, 12, 8, 13, 14, 15, 16, 17, 18, 19, 20, 21, 22, 23, 24, 25, 26, 27, 28, 29, 30, 31, 32, 33, 34, 35, 36, 37, 38, 114, 115, 116, 117, 118, 119, 120, 121, 122, 123, 124, 125, 126, 127, 128, 129, 130, 131, 132, 133, 134, 135, 136, 137, 138, 139, 140, 141, 142, 143, 144, 145, 146, 147, 148, 149, 150, 151, 152, 153, 154, 155, 156, 157, 158, 159, 160, 161, 162, 163, 164, 165, 166, 167, 168, 169, 170, 171, 172, 173, 174, 175, 176, 177, 178, 179, 180, 181, 182, 183, 184, 185, 186, 187, 188, 189, 190, 191, 192, 193, 194, 195, 196, 197] rfl (by decide +kernel)
set_option maxRecDepth 20000 in
theorem gX18_coin_X18_takeLong : GoodIn wsX18_coin (wsV RX18 421 RX18 yX18_takeLong wsX18_takeLong) := goodIn_app (goodIn_of _ (by decide +kernel)) ggX18_coin_X18_takeLong
set_option maxRecDepth 20000 in
theorem ggX18_coin_X18_spend : GoodIn wsX18_coin wsX18_spend := goodIn_r _ [42, 43, 44, 45, 24, 25, 26, 8, 27, 28, 34, 35, 36, 37, 38, 114, 115, 116, 117, 118, 119, 120, 121, 122, 123, 124, 125, 126, 127, 128, 129, 130, 131, 132, 133, 134, 135, 136, 137, 138, 139, 140, 141, 142, 143, 144, 145, 146, 147, 148, 149, 150, 151, 152, 153, 154, 155, 156, 157, 158, 159, 160, 161, 162, 163, 164, 165, 166, 167, 168, 169, 170, 171, 172, 173, 174, 175, 176, 177, 178, 179, 180, 181, 182, 183, 184, 185, 186, 187, 188, 189, 190, 191] rfl (by decide +kernel)
set_option maxRecDepth 20000 in
theorem gX18_coin_X18_spend : GoodIn wsX18_coin (wsV RX18 353 RX18 yX18_spend wsX18_spend) := goodIn_app (goodIn_of _ (by decide +kernel)) ggX18_coin_X18_spend
set_option maxRecDepth 20000 in
theorem ggX18_coin_X18_isBelow : GoodIn wsX18_coin wsX18_isBelow := goodIn_r _ [48, 49] rfl (by decide +kernel)
set_option maxRecDepth 20000 in
theorem gX18_coin_X18_isBelow : GoodIn wsX18_coin (va_wsS RX18 459 yX18_isBelow wsX18_isBelow) := goodIn_app (goodIn_of _ (by decide +kernel)) ggX18_coin_X18_isBelow
set_option maxRecDepth 20000 in
theorem ggX18_coin_X18_end : GoodIn wsX18_coin wsX18_end := goodIn_r _ [37, 28, 38, 114, 115, 116, 117, 118, 119, 120, 121, 122, 123, 124, 125, 126, 127, 128, 129, 130, 131, 132, 133, 134, 135, 136, 137, 138, 139, 140, 141, 142, 143, 144, 145, 146, 147, 148, 149, 150, 151, 152, 153, 154, 155, 156, 157, 158, 159, 160, 161, 162, 163, 164, 165, 166, 167, 168, 169, 170, 171, 172, 173, 174, 175, 176, 177, 178, 179, 180, 181, 182, 183, 184, 185, 186, 187, 188, 189, 190, 191] rfl (by decide +kernel)
set_option maxRecDepth 20000 in
theorem gX18_coin_X18_end : GoodIn wsX18_coin (wsV RX18 267 RX18 yX18_end wsX18_end) := goodIn_app (goodIn_of _ (by decide +kernel)) ggX18_coin_X18_end
set_option maxRecDepth 20000 in
theorem ggX18_coin_X18_makeCoin : GoodIn wsX18_coin wsX18_makeCoin := goodIn_r _ [53, 2, 54, 55, 56, 57, 58, 59, 60, 61, 62, 63, 64, 65, 66, 67, 68, 69, 70, 71, 8, 72, 22, 18, 21, 24, 25, 26, 27, 28, 114, 115, 116, 117, 118, 119, 120, 121, 122, 123, 124, 125, 126, 127, 128, 129, 130, 131, 132, 133, 134, 135, 136, 137, 138, 139, 140, 141, 142, 143, 144, 145, 146, 147, 148, 149, 150, 151, 152, 153, 154, 155, 156, 157, 158, 159, 160, 161, 162, 163, 164, 165, 166, 167, 168, 169, 170, 171, 172, 173, 174, 175, 176, 177, 178, 179, 180, 181, 182, 183, 184, 185, 186, 187, 188, 189, 190, 191, 192, 193, 194, 195, 196, 197] rfl (by decide +kernel)
set_option maxRecDepth 20000 in
theorem gX18_coin_X18_makeCoin : GoodIn wsX18_coin (wsV RX18 463 RX18 yX18_makeCoin wsX18_makeCoin) := goodIn_app (goodIn_of _ (by decide +kernel)) ggX18_coin_X18_makeCoin
set_option maxRecDepth 20000 in
theorem ggX18_coin_X18_take : GoodIn wsX18_coin wsX18_take := goodIn_r _ [13, 2, 14, 15, 16, 8, 17, 18, 19, 20, 21, 22, 23, 24, 25, 26, 27, 28, 29, 30, 31, 32, 33, 34, 35, 36, 37, 38, 114, 115, 116, 117, 118, 119, 120, 121, 122, 123, 124, 125, 126, 127, 128, 129, 130, 131, 132, 133, 134, 135, 136, 137, 138, 139, 140, 141, 142, 143, 144, 145, 146, 147, 148, 149, 150, 151, 152, 153, 154, 155, 156, 157, 158, 159, 160, 161, 162, 163, 164, 165, 166, 167, 168, 169, 170, 171, 172, 173, 174, 175, 176, 177, 178, 179, 180, 181, 182, 183, 184, 185, 186, 187, 188, 189, 190, 191, 192, 193, 194, 195, 196, 197] rfl (by decide +kernel)
set_option maxRecDepth 20000 in
theorem gX18_coin_X18_take : GoodIn wsX18_coin (wsV RX18 341 RX18 yX18_take wsX18_take) := goodIn_app (goodIn_of _ (by decide +kernel)) ggX18_coin_X18_take
set_option maxRecDepth 20000 in
theorem ggX18_coin_X18_goesOn : GoodIn wsX18_coin wsX18_goesOn := goodIn_r _ [27, 28, 114, 115, 116, 117, 118, 119, 120, 121, 122, 123, 124, 125, 126, 127, 128, 129, 130, 131, 132, 133, 134, 135, 136, 137, 138, 139, 140, 141, 142, 143, 144, 145, 146, 147, 148, 149, 150, 151, 152, 153, 154, 155, 156, 157, 158, 159, 160, 161, 162, 163, 164, 165, 166, 167, 168, 169, 170, 171, 172, 173, 174, 175, 176, 177, 178, 179, 180, 181, 182, 183, 184, 185, 186, 187, 188, 189, 190, 191] rfl (by decide +kernel)
set_option maxRecDepth 20000 in
theorem gX18_coin_X18_goesOn : GoodIn wsX18_coin (wsV RX18 257 RX18 yX18_goesOn wsX18_goesOn) := goodIn_app (goodIn_of _ (by decide +kernel)) ggX18_coin_X18_goesOn
set_option maxRecDepth 20000 in
theorem ggX18_coin_X18_ask : GoodIn wsX18_coin wsX18_ask := goodIn_r _ [76, 77, 78, 79, 80, 81, 82, 3, 1, 83, 34, 35, 36, 8, 37, 28, 38, 84, 85, 86, 87, 88, 89, 90, 91, 92, 93, 94, 95, 96, 97, 98, 99, 100, 101, 102, 103, 104, 105, 2, 106, 107, 108, 109, 54, 55, 56, 57, 58, 59, 60, 61, 62, 63, 64, 65, 66, 67, 68, 114, 115, 116, 117, 118, 119, 120, 121, 122, 123, 124, 125, 126, 127, 128, 129, 130, 131, 132, 133, 134, 135, 136, 137, 138, 139, 140, 141, 142, 143, 144, 145, 146, 147, 148, 149, 150, 151, 152, 153, 154, 155, 156, 157, 158, 159, 160, 161, 162, 163, 164, 165, 166, 167, 168, 169, 170, 171, 172, 173, 174, 175, 176, 177, 178, 179, 180, 181, 182, 183, 184, 185, 186, 187, 188, 189, 190, 191, 192, 193, 194, 195, 196, 197] rfl (by decide +kernel)
set_option maxRecDepth 20000 in
theorem gX18_coin_X18_ask : GoodIn wsX18_coin (wsV RX18 414 RX18 yX18_ask wsX18_ask) := goodIn_app (goodIn_of _ (by decide +kernel)) ggX18_coin_X18_ask
set_option maxRecDepth 20000 in
theorem ggX18_coin_X18_takeAny : GoodIn wsX18_coin wsX18_takeAny := goodIn_r _ [17, 18, 19, 20, 21, 22, 23, 24, 25, 26, 8, 27, 28, 29, 30, 31, 32, 33, 34, 35, 36, 37, 38, 114, 115, 116, 117, 118, 119, 120, 121, 122, 123, 124, 125, 126, 127, 128, 129, 130, 131, 132, 133, 134, 135, 136, 137, 138, 139, 140, 141, 142, 143, 144, 145, 146, 147, 148, 149, 150, 151, 152, 153, 154, 155, 156, 157, 158, 159, 160, 161, 162, 163, 164, 165, 166, 167, 168, 169, 170, 171, 172, 173, 174, 175, 176, 177, 178, 179, 180, 181, 182, 183, 184, 185, 186, 187, 188, 189, 190, 191] rfl (by decide +kernel)
set_option maxRecDepth 20000 in
theorem gX18_coin_X18_takeAny : GoodIn wsX18_coin (wsV RX18 337 RX18 yX18_takeAny wsX18_takeAny) := goodIn_app (goodIn_of _ (by decide +kernel)) ggX18_coin_X18_takeAny
set_option maxRecDepth 20000 in
theorem ggX18_coin_X18_make : GoodIn wsX18_coin wsX18_make := goodIn_r _ [113, 2, 24, 25, 26, 8, 27, 28, 54, 55, 56, 57, 58, 59, 60, 61, 62, 63, 64, 69, 70, 71, 72, 22, 18, 21, 114, 115, 116, 117, 118, 119, 120, 121, 122, 123, 124, 125, 126, 127, 128, 129, 130, 131, 132, 133, 134, 135, 136, 137, 138, 139, 140, 141, 142, 143, 144, 145, 146, 147, 148, 149, 150, 151, 152, 153, 154, 155, 156, 157, 158, 159, 160, 161, 162, 163, 164, 165, 166, 167, 168, 169, 170, 171, 172, 173, 174, 175, 176, 177, 178, 179, 180, 181, 182, 183, 184, 185, 186, 187, 188, 189, 190, 191, 192, 193, 194, 195, 196, 197] rfl (by decide +kernel)
set_option maxRecDepth 20000 in
theorem gX18_coin_X18_make : GoodIn wsX18_coin (wsV RX18 392 RX18 yX18_make wsX18_make) := goodIn_app (goodIn_of _ (by decide +kernel)) ggX18_coin_X18_make
set_option maxRecDepth 20000 in
theorem ggX18_giveBack_X16_many : GoodIn wsX18_giveBack wsX16_many := goodIn_r _ [10, 11, 12, 13, 14, 9, 15, 16, 17, 18, 19, 20, 21, 22, 23, 24, 25, 26, 27, 28, 29, 30, 31, 32, 33, 34, 35, 126, 127, 128, 129, 130, 131, 132, 133, 134, 135, 136, 137, 138, 139, 140, 141, 142, 143] rfl (by decide +kernel)
set_option maxRecDepth 20000 in
theorem gX18_giveBack_X16_many : GoodIn wsX18_giveBack (wsV RX18 133 RX16 yX16_many wsX16_many) := goodIn_app (goodIn_of _ (by decide +kernel)) ggX18_giveBack_X16_many
set_option maxRecDepth 20000 in
theorem ggX18_giveBack_X18_slip : GoodIn wsX18_giveBack wsX18_slip := goodIn_r _ [40, 41, 42, 43, 44, 39, 45, 46, 47, 48, 49, 50, 51, 52, 53, 54, 55, 56, 57, 58, 59, 60, 61, 62, 63, 64, 65, 66, 67, 68, 69, 70, 71, 72, 73, 74, 75, 76, 77, 78, 79, 80, 81, 82, 83, 84, 85, 86, 87, 88, 89, 90, 91, 92, 93, 94, 95, 96, 97, 98, 99, 100, 101, 102, 103, 104, 105, 106, 107, 108, 109, 110, 111, 112, 113, 114, 115, 116, 117, 118, 119, 120, 121, 122, 123, 124, 125] rfl (by decide +kernel)
set_option maxRecDepth 20000 in
theorem gX18_giveBack_X18_slip : GoodIn wsX18_giveBack (wsV RX18 331 RX18 yX18_slip wsX18_slip) := goodIn_app (goodIn_of _ (by decide +kernel)) ggX18_giveBack_X18_slip
set_option maxRecDepth 20000 in
theorem ggX18_giveBack_X18_end : GoodIn wsX18_giveBack wsX18_end := goodIn_r _ [45, 46, 47, 48, 49, 50, 51, 52, 53, 54, 55, 56, 57, 58, 59, 60, 61, 62, 63, 64, 65, 66, 67, 68, 69, 70, 71, 72, 73, 74, 75, 76, 77, 78, 79, 80, 81, 82, 83, 84, 85, 86, 87, 88, 89, 90, 91, 92, 93, 94, 95, 96, 97, 98, 99, 100, 101, 102, 103, 104, 105, 106, 107, 108, 109, 110, 111, 112, 113, 114, 115, 116, 117, 118, 119, 120, 121, 122, 123, 124, 125] rfl (by decide +kernel)
set_option maxRecDepth 20000 in
theorem gX18_giveBack_X18_end : GoodIn wsX18_giveBack (wsV RX18 267 RX18 yX18_end wsX18_end) := goodIn_app (goodIn_of _ (by decide +kernel)) ggX18_giveBack_X18_end
set_option maxRecDepth 20000 in
theorem ggX18_branch_X18_take : GoodIn wsX18_branch wsX18_take := goodIn_r _ [8, 1, 9, 10, 11, 7, 12, 13, 14, 3, 15, 16, 17, 18, 19, 20, 21, 22, 23, 24, 25, 26, 27, 28, 29, 30, 31, 32, 33, 34, 35, 36, 37, 38, 39, 40, 41, 42, 43, 44, 45, 46, 47, 48, 49, 50, 51, 52, 53, 54, 55, 56, 57, 58, 59, 60, 61, 62, 63, 64, 65, 66, 67, 68, 69, 70, 71, 72, 73, 74, 75, 76, 77, 78, 79, 80, 81, 82, 83, 84, 85, 86, 87, 88, 89, 90, 91, 92, 93, 94, 95, 96, 97, 98, 99, 100, 101, 102, 103, 104, 105, 106, 107, 108, 109, 110, 111, 112, 113, 114, 115, 116] rfl (by decide +kernel)
set_option maxRecDepth 20000 in
theorem gX18_branch_X18_take : GoodIn wsX18_branch (wsV RX18 341 RX18 yX18_take wsX18_take) := goodIn_app (goodIn_of _ (by decide +kernel)) ggX18_branch_X18_take
set_option maxRecDepth 20000 in
theorem ggX18_branch_X18_goesOn : GoodIn wsX18_branch wsX18_goesOn := goodIn_r _ [21, 22, 33, 34, 35, 36, 37, 38, 39, 40, 41, 42, 43, 44, 45, 46, 47, 48, 49, 50, 51, 52, 53, 54, 55, 56, 57, 58, 59, 60, 61, 62, 63, 64, 65, 66, 67, 68, 69, 70, 71, 72, 73, 74, 75, 76, 77, 78, 79, 80, 81, 82, 83, 84, 85, 86, 87, 88, 89, 90, 91, 92, 93, 94, 95, 96, 97, 98, 99, 100, 101, 102, 103, 104, 105, 106, 107, 108, 109, 110] rfl (by decide +kernel)
set_option maxRecDepth 20000 in
theorem gX18_branch_X18_goesOn : GoodIn wsX18_branch (wsV RX18 257 RX18 yX18_goesOn wsX18_goesOn) := goodIn_app (goodIn_of _ (by decide +kernel)) ggX18_branch_X18_goesOn
set_option maxRecDepth 20000 in
theorem ggX18_constant_X18_make : GoodIn wsX18_constant wsX18_make := goodIn_r _ [6, 7, 8, 9, 10, 5, 11, 12, 13, 14, 15, 16, 17, 18, 19, 20, 21, 22, 23, 24, 25, 26, 27, 28, 29, 30, 31, 32, 33, 34, 35, 36, 37, 38, 39, 40, 41, 42, 43, 44, 45, 46, 47, 48, 49, 50, 51, 52, 53, 54, 55, 56, 57, 58, 59, 60, 61, 62, 63, 64, 65, 66, 67, 68, 69, 70, 71, 72, 73, 74, 75, 76, 77, 78, 79, 80, 81, 82, 83, 84, 85, 86, 87, 88, 89, 90, 91, 92, 93, 94, 95, 96, 97, 98, 99, 100, 101, 102, 103, 104, 105, 106, 107, 108, 109, 110, 111, 112, 113, 114] rfl (by decide +kernel)
set_option maxRecDepth 20000 in
theorem gX18_constant_X18_make : GoodIn wsX18_constant (wsV RX18 392 RX18 yX18_make wsX18_make) := goodIn_app (goodIn_of _ (by decide +kernel)) ggX18_constant_X18_make
set_option maxRecDepth 20000 in
theorem ggX18_one_X16_instructions : GoodIn wsX18_one wsX16_instructions := goodIn_r _ [14, 15, 503, 504, 505, 506, 507, 508, 509, 510, 511, 512, 513, 514, 515, 516, 517, 518, 519, 520] rfl (by decide +kernel)
set_option maxRecDepth 20000 in
theorem gX18_one_X16_instructions : GoodIn wsX18_one (wsV RX18 467 RX16 yX16_instructions wsX16_instructions) := goodIn_app (goodIn_of _ (by decide +kernel)) ggX18_one_X16_instructions
set_option maxRecDepth 20000 in
theorem ggX18_one_X18_slip : GoodIn wsX18_one wsX18_slip := goodIn_r _ [20, 21, 22, 23, 24, 19, 25, 26, 27, 419, 420, 421, 422, 423, 424, 425, 426, 427, 428, 429, 430, 431, 432, 433, 434, 435, 436, 437, 438, 439, 440, 441, 442, 443, 444, 445, 446, 447, 448, 449, 450, 451, 452, 453, 454, 455, 456, 457, 458, 459, 460, 461, 462, 463, 464, 465, 466, 467, 468, 469, 470, 471, 472, 473, 474, 475, 476, 477, 478, 479, 480, 481, 482, 483, 484, 485, 486, 487, 488, 489, 490, 491, 492, 493, 494, 495, 496] rfl (by decide +kernel)
set_option maxRecDepth 20000 in
theorem gX18_one_X18_slip : GoodIn wsX18_one (wsV RX18 331 RX18 yX18_slip wsX18_slip) := goodIn_app (goodIn_of _ (by decide +kernel)) ggX18_one_X18_slip
set_option maxRecDepth 20000 in
theorem ggX18_one_X18_spend : GoodIn wsX18_one wsX18_spend := goodIn_r _ [31, 32, 33, 34, 35, 36, 37, 19, 38, 26, 22, 23, 24, 25, 27, 419, 420, 421, 422, 423, 424, 425, 426, 427, 428, 429, 430, 431, 432, 433, 434, 435, 436, 437, 438, 439, 440, 441, 442, 443, 444, 445, 446, 447, 448, 449, 450, 451, 452, 453, 454, 455, 456, 457, 458, 459, 460, 461, 462, 463, 464, 465, 466, 467, 468, 469, 470, 471, 472, 473, 474, 475, 476, 477, 478, 479, 480, 481, 482, 483, 484, 485, 486, 487, 488, 489, 490, 491, 492, 493, 494, 495, 496] rfl (by decide +kernel)
set_option maxRecDepth 20000 in
theorem gX18_one_X18_spend : GoodIn wsX18_one (wsV RX18 353 RX18 yX18_spend wsX18_spend) := goodIn_app (goodIn_of _ (by decide +kernel)) ggX18_one_X18_spend
set_option maxRecDepth 20000 in
theorem ggX18_one_X16_operation : GoodIn wsX18_one wsX16_operation := goodIn_r _ [42, 43, 15, 44, 45, 46, 13, 47, 48, 49, 503, 504, 505, 506, 507, 508, 509, 510, 511, 512, 513, 514, 515, 516, 517, 518, 519, 520] rfl (by decide +kernel)
set_option maxRecDepth 20000 in
theorem gX18_one_X16_operation : GoodIn wsX18_one (wsV RX18 470 RX16 yX16_operation wsX16_operation) := goodIn_app (goodIn_of _ (by decide +kernel)) ggX18_one_X16_operation
set_option maxRecDepth 20000 in
theorem ggX18_one_X16_operand : GoodIn wsX18_one wsX16_operand := goodIn_r _ [53, 43, 15, 44, 45, 46, 13, 47, 48, 49, 54, 55, 56, 57, 58, 59, 60, 61, 503, 504, 505, 506, 507, 508, 509, 510, 511, 512, 513, 514, 515, 516, 517, 518, 519, 520] rfl (by decide +kernel)
set_option maxRecDepth 20000 in
theorem gX18_one_X16_operand : GoodIn wsX18_one (wsV RX18 473 RX16 yX16_operand wsX16_operand) := goodIn_app (goodIn_of _ (by decide +kernel)) ggX18_one_X16_operand
set_option maxRecDepth 20000 in
theorem ggX18_one_X18_giveBack : GoodIn wsX18_one wsX18_giveBack := goodIn_r _ [65, 6, 1, 2, 7, 8, 66, 67, 68, 13, 69, 70, 71, 72, 73, 74, 75, 76, 77, 78, 79, 80, 81, 82, 83, 84, 44, 45, 46, 47, 48, 49, 85, 86, 87, 88, 16, 17, 18, 19, 20, 21, 22, 23, 24, 25, 26, 27, 419, 420, 421, 422, 423, 424, 425, 426, 427, 428, 429, 430, 431, 432, 433, 434, 435, 436, 437, 438, 439, 440, 441, 442, 443, 444, 445, 446, 447, 448, 449, 450, 451, 452, 453, 454, 455, 456, 457, 458, 459, 460, 461, 462, 463, 464, 465, 466, 467, 468, 469, 470, 471, 472, 473, 474, 475, 476, 477, 478, 479, 480, 481, 482, 483, 484, 485, 486, 487, 488, 489, 490, 491, 492, 493, 494, 495, 496, 503, 504, 505, 506, 507, 508, 509, 510, 511, 512, 513, 514, 515, 516, 517, 518, 519, 520] rfl (by decide +kernel)
set_option maxRecDepth 20000 in
theorem gX18_one_X18_giveBack : GoodIn wsX18_one (wsV RX18 476 RX18 yX18_giveBack wsX18_giveBack) := goodIn_app (goodIn_of _ (by decide +kernel)) ggX18_one_X18_giveBack
set_option maxRecDepth 20000 in
theorem ggX18_one_X18_branch : GoodIn wsX18_one wsX18_branch := goodIn_r _ [92, 9, 3, 2, 93, 94, 95, 19, 96, 97, 98, 99, 100, 7, 8, 101, 102, 103, 35, 36, 37, 38, 26, 16, 17, 18, 20, 21, 22, 23, 24, 25, 27, 419, 420, 421, 422, 423, 424, 425, 426, 427, 428, 429, 430, 431, 432, 433, 434, 435, 436, 437, 438, 439, 440, 441, 442, 443, 444, 445, 446, 447, 448, 449, 450, 451, 452, 453, 454, 455, 456, 457, 458, 459, 460, 461, 462, 463, 464, 465, 466, 467, 468, 469, 470, 471, 472, 473, 474, 475, 476, 477, 478, 479, 480, 481, 482, 483, 484, 485, 486, 487, 488, 489, 490, 491, 492, 493, 494, 495, 496, 497, 498, 499, 500, 501, 502] rfl (by decide +kernel)
set_option maxRecDepth 20000 in
theorem gX18_one_X18_branch : GoodIn wsX18_one (wsV RX18 479 RX18 yX18_branch wsX18_branch) := goodIn_app (goodIn_of _ (by decide +kernel)) ggX18_one_X18_branch
set_option maxRecDepth 20000 in
theorem ggX18_one_X18_constant : GoodIn wsX18_one wsX18_constant := goodIn_r _ [107, 108, 109, 110, 111, 19, 112, 9, 35, 36, 37, 38, 26, 113, 114, 115, 116, 117, 118, 119, 120, 121, 122, 123, 124, 125, 126, 127, 102, 7, 101, 419, 420, 421, 422, 423, 424, 425, 426, 427, 428, 429, 430, 431, 432, 433, 434, 435, 436, 437, 438, 439, 440, 441, 442, 443, 444, 445, 446, 447, 448, 449, 450, 451, 452, 453, 454, 455, 456, 457, 458, 459, 460, 461, 462, 463, 464, 465, 466, 467, 468, 469, 470, 471, 472, 473, 474, 475, 476, 477, 478, 479, 480, 481, 482, 483, 484, 485, 486, 487, 488, 489, 490, 491, 492, 493, 494, 495, 496, 497, 498, 499, 500, 501, 502] rfl (by decide +kernel)
set_option maxRecDepth 20000 in
theorem gX18_one_X18_constant : GoodIn wsX18_one (wsV RX18 482 RX18 yX18_constant wsX18_constant) := goodIn_app (goodIn_of _ (by decide +kernel)) ggX18_one_X18_constant
set_option maxRecDepth 20000 in
theorem ggX18_one_X18_onLocal : GoodIn wsX18_one wsX18_onLocal := goodIn_r _ [131, 7, 8, 2, 101, 132, 103, 133, 9, 134, 135, 136, 19, 137, 35, 36, 37, 38, 26, 97, 98, 99, 100, 102, 16, 17, 18, 20, 21, 22, 23, 24, 25, 27, 28, 29, 30, 31, 32, 33, 34, 124, 125, 126, 127, 138, 139, 140, 116, 141, 122, 123, 142, 143, 144, 145, 146, 119, 120, 121, 147, 114, 115, 117, 118, 148, 149, 150, 151, 152, 419, 420, 421, 422, 423, 424, 425, 426, 427, 428, 429, 430, 431, 432, 433, 434, 435, 436, 437, 438, 439, 440, 441, 442, 443, 444, 445, 446, 447, 448, 449, 450, 451, 452, 453, 454, 455, 456, 457, 458, 459, 460, 461, 462, 463, 464, 465, 466, 467, 468, 469, 470, 471, 472, 473, 474, 475, 476, 477, 478, 479, 480, 481, 482, 483, 484, 485, 486, 487, 488, 489, 490, 491, 492, 493, 494, 495, 496, 497, 498, 499, 500, 501, 502] rfl (by decide +kernel)
set_option maxRecDepth 20000 in
theorem gX18_one_X18_onLocal : GoodIn wsX18_one (wsV RX18 485 RX18 yX18_onLocal wsX18_onLocal) := goodIn_app (goodIn_of _ (by decide +kernel)) ggX18_one_X18_onLocal
set_option maxRecDepth 20000 in
theorem ggX18_one_X18_onReference : GoodIn wsX18_one wsX18_onReference := goodIn_r _ [156, 9, 97, 98, 99, 19, 100, 7, 8, 2, 101, 102, 103, 35, 36, 37, 38, 26, 16, 17, 18, 20, 21, 22, 23, 24, 25, 27, 124, 125, 126, 127, 138, 139, 140, 116, 141, 122, 123, 142, 28, 29, 30, 31, 32, 33, 34, 143, 144, 145, 146, 119, 120, 121, 147, 114, 115, 117, 118, 148, 149, 150, 151, 152, 157, 158, 159, 160, 161, 162, 163, 164, 419, 420, 421, 422, 423, 424, 425, 426, 427, 428, 429, 430, 431, 432, 433, 434, 435, 436, 437, 438, 439, 440, 441, 442, 443, 444, 445, 446, 447, 448, 449, 450, 451, 452, 453, 454, 455, 456, 457, 458, 459, 460, 461, 462, 463, 464, 465, 466, 467, 468, 469, 470, 471, 472, 473, 474, 475, 476, 477, 478, 479, 480, 481, 482, 483, 484, 485, 486, 487, 488, 489, 490, 491, 492, 493, 494, 495, 496, 497, 498, 499, 500, 501, 502] rfl (by decide +kernel)
set_option maxRecDepth 20000 in
theorem gX18_one_X18_onReference : GoodIn wsX18_one (wsV RX18 488 RX18 yX18_onReference wsX18_onReference) := goodIn_app (goodIn_of _ (by decide +kernel)) ggX18_one_X18_onReference
set_option maxRecDepth 20000 in
theorem ggX18_one_X18_pack : GoodIn wsX18_one wsX18_pack := goodIn_r _ [168, 6, 7, 8, 2, 9, 102, 169, 13, 170, 171, 172, 44, 45, 46, 47, 48, 49, 16, 17, 18, 19, 20, 21, 22, 23, 24, 25, 26, 27, 35, 36, 37, 38, 173, 174, 175, 176, 177, 178, 179, 180, 181, 182, 183, 184, 185, 113, 114, 115, 116, 117, 118, 119, 120, 121, 122, 123, 186, 150, 151, 152, 124, 125, 126, 127, 101, 419, 420, 421, 422, 423, 424, 425, 426, 427, 428, 429, 430, 431, 432, 433, 434, 435, 436, 437, 438, 439, 440, 441, 442, 443, 444, 445, 446, 447, 448, 449, 450, 451, 452, 453, 454, 455, 456, 457, 458, 459, 460, 461, 462, 463, 464, 465, 466, 467, 468, 469, 470, 471, 472, 473, 474, 475, 476, 477, 478, 479, 480, 481, 482, 483, 484, 485, 486, 487, 488, 489, 490, 491, 492, 493, 494, 495, 496, 503, 504, 505, 506, 507, 508, 509, 510, 511, 512, 513, 514, 515, 516, 517, 518, 519, 520, 497, 498, 499, 500, 501, 502] rfl (by decide +kernel)
set_option maxRecDepth 20000 in
theorem gX18_one_X18_pack : GoodIn wsX18_one (wsV RX18 491 RX18 yX18_pack wsX18_pack) := goodIn_app (goodIn_of _ (by decide +kernel)) ggX18_one_X18_pack
set_option maxRecDepth 20000 in
theorem ggX18_one_X18_unpack : GoodIn wsX18_one wsX18_unpack := goodIn_r _ [190, 9, 6, 93, 94, 95, 19, 96, 97, 98, 99, 100, 7, 8, 2, 101, 102, 103, 35, 36, 37, 38, 26, 16, 17, 18, 20, 21, 22, 23, 24, 25, 27, 173, 174, 175, 13, 176, 172, 177, 178, 179, 180, 181, 182, 183, 184, 185, 44, 45, 46, 47, 48, 49, 124, 125, 126, 127, 419, 420, 421, 422, 423, 424, 425, 426, 427, 428, 429, 430, 431, 432, 433, 434, 435, 436, 437, 438, 439, 440, 441, 442, 443, 444, 445, 446, 447, 448, 449, 450, 451, 452, 453, 454, 455, 456, 457, 458, 459, 460, 461, 462, 463, 464, 465, 466, 467, 468, 469, 470, 471, 472, 473, 474, 475, 476, 477, 478, 479, 480, 481, 482, 483, 484, 485, 486, 487, 488, 489, 490, 491, 492, 493, 494, 495, 496, 497, 498, 499, 500, 501, 502, 503, 504, 505, 506, 507, 508, 509, 510, 511, 512, 513, 514, 515, 516, 517, 518, 519, 520] rfl (by decide +kernel)
set_option maxRecDepth 20000 in
theorem gX18_one_X18_unpack : GoodIn wsX18_one (wsV RX18 494 RX18 yX18_unpack wsX18_unpack) := goodIn_app (goodIn_of _ (by decide +kernel)) ggX18_one_X18_unpack
set_option maxRecDepth 20000 in
theorem ggX18_one_X18_enterCall : GoodIn wsX18_one wsX18_enterCall := goodIn_r _ [194, 5, 2, 6, 7, 8, 195, 66, 67, 68, 13, 69, 70, 71, 72, 73, 74, 75, 76, 77, 78, 79, 80, 81, 82, 83, 84, 44, 45, 46, 47, 48, 49, 85, 86, 87, 88, 16, 17, 18, 19, 20, 21, 22, 23, 24, 25, 26, 27, 196, 197, 198, 199, 200, 201, 202, 203, 182, 183, 184, 185, 204, 205, 206, 207, 208, 9, 209, 210, 211, 212, 213, 214, 93, 94, 95, 96, 97, 98, 99, 100, 101, 102, 103, 35, 36, 37, 38, 28, 29, 30, 31, 32, 33, 34, 215, 216, 217, 218, 219, 220, 221, 222, 113, 114, 115, 116, 117, 118, 119, 120, 121, 122, 123, 186, 150, 151, 152, 124, 125, 126, 127, 223, 224, 225, 226, 227, 228, 229, 230, 231, 232, 233, 234, 235, 236, 237, 238, 239, 240, 241, 242, 243, 244, 245, 246, 247, 248, 249, 250, 251, 252, 253, 254, 255, 256, 257, 258, 109, 110, 111, 112, 259, 260, 261, 262, 263, 4, 264, 179, 180, 181, 265, 266, 267, 268, 1, 3, 132, 133, 134, 135, 136, 137, 419, 420, 421, 422, 423, 424, 425, 426, 427, 428, 429, 430, 431, 432, 433, 434, 435, 436, 437, 438, 439, 440, 441, 442, 443, 444, 445, 446, 447, 448, 449, 450, 451, 452, 453, 454, 455, 456, 457, 458, 459, 460, 461, 462, 463, 464, 465, 466, 467, 468, 469, 470, 471, 472, 473, 474, 475, 476, 477, 478, 479, 480, 481, 482, 483, 484, 485, 486, 487, 488, 489, 490, 491, 492, 493, 494, 495, 496, 503, 504, 505, 506, 507, 508, 509, 510, 511, 512, 513, 514, 515, 516, 517, 518, 519, 520, 497, 498, 499, 500, 501, 502] rfl (by decide +kernel)
set_option maxRecDepth 20000 in
theorem gX18_one_X18_enterCall : GoodIn wsX18_one (wsV RX18 497 RX18 yX18_enterCall wsX18_enterCall) := goodIn_app (goodIn_of _ (by decide +kernel)) ggX18_one_X18_enterCall
set_option maxRecDepth 20000 in
theorem ggX18_one_X18_shift : GoodIn wsX18_one wsX18_shift := goodIn_r _ [272, 9, 273, 93, 94, 95, 19, 96, 97, 98, 99, 100, 7, 8, 2, 101, 102, 103, 35, 36, 37, 38, 26, 16, 17, 18, 20, 21, 22, 23, 24, 25, 27, 274, 275, 276, 277, 278, 279, 280, 281, 282, 283, 284, 109, 110, 111, 112, 113, 114, 115, 116, 117, 118, 119, 120, 121, 122, 123, 124, 125, 126, 127, 419, 420, 421, 422, 423, 424, 425, 426, 427, 428, 429, 430, 431, 432, 433, 434, 435, 436, 437, 438, 439, 440, 441, 442, 443, 444, 445, 446, 447, 448, 449, 450, 451, 452, 453, 454, 455, 456, 457, 458, 459, 460, 461, 462, 463, 464, 465, 466, 467, 468, 469, 470, 471, 472, 473, 474, 475, 476, 477, 478, 479, 480, 481, 482, 483, 484, 485, 486, 487, 488, 489, 490, 491, 492, 493, 494, 495, 496, 497, 498, 499, 500, 501, 502, 521, 522, 523, 524, 525] rfl (by decide +kernel)
set_option maxRecDepth 20000 in
theorem gX18_one_X18_shift : GoodIn wsX18_one (wsV RX18 500 RX18 yX18_shift wsX18_shift) := goodIn_app (goodIn_of _ (by decide +kernel)) ggX18_one_X18_shift
set_option maxRecDepth 20000 in
theorem ggX18_one_X18_take : GoodIn wsX18_one wsX18_take := goodIn_r _ [96, 9, 97, 98, 99, 19, 100, 7, 8, 2, 101, 102, 103, 35, 36, 37, 38, 26, 16, 17, 18, 20, 21, 22, 23, 24, 25, 27, 419, 420, 421, 422, 423, 424, 425, 426, 427, 428, 429, 430, 431, 432, 433, 434, 435, 436, 437, 438, 439, 440, 441, 442, 443, 444, 445, 446, 447, 448, 449, 450, 451, 452, 453, 454, 455, 456, 457, 458, 459, 460, 461, 462, 463, 464, 465, 466, 467, 468, 469, 470, 471, 472, 473, 474, 475, 476, 477, 478, 479, 480, 481, 482, 483, 484, 485, 486, 487, 488, 489, 490, 491, 492, 493, 494, 495, 496, 497, 498, 499, 500, 501, 502] rfl (by decide +kernel)
set_option maxRecDepth 20000 in
theorem gX18_one_X18_take : GoodIn wsX18_one (wsV RX18 341 RX18 yX18_take wsX18_take) := goodIn_app (goodIn_of _ (by decide +kernel)) ggX18_one_X18_take
set_option maxRecDepth 20000 in
theorem ggX18_one_X18_make : GoodIn wsX18_one wsX18_make := goodIn_r _ [112, 9, 35, 36, 37, 19, 38, 26, 113, 114, 115, 116, 117, 118, 119, 120, 121, 122, 123, 124, 125, 126, 127, 102, 7, 101, 419, 420, 421, 422, 423, 424, 425, 426, 427, 428, 429, 430, 431, 432, 433, 434, 435, 436, 437, 438, 439, 440, 441, 442, 443, 444, 445, 446, 447, 448, 449, 450, 451, 452, 453, 454, 455, 456, 457, 458, 459, 460, 461, 462, 463, 464, 465, 466, 467, 468, 469, 470, 471, 472, 473, 474, 475, 476, 477, 478, 479, 480, 481, 482, 483, 484, 485, 486, 487, 488, 489, 490, 491, 492, 493, 494, 495, 496, 497, 498, 499, 500, 501, 502] rfl (by decide +kernel)
set_option maxRecDepth 20000 in
theorem gX18_one_X18_make : GoodIn wsX18_one (wsV RX18 392 RX18 yX18_make wsX18_make) := goodIn_app (goodIn_of _ (by decide +kernel)) ggX18_one_X18_make
set_option maxRecDepth 20000 in
theorem ggX18_one_X18_reckon : GoodIn wsX18_one wsX18_reckon := goodIn_r _ [288, 9, 273, 97, 98, 99, 19, 100, 7, 8, 2, 101, 102, 103, 35, 36, 37, 38, 26, 16, 17, 18, 20, 21, 22, 23, 24, 25, 27, 274, 275, 276, 289, 290, 291, 280, 292, 293, 294, 295, 296, 297, 298, 299, 300, 301, 302, 303, 304, 305, 306, 307, 308, 309, 310, 311, 312, 282, 283, 313, 314, 315, 316, 317, 318, 319, 320, 321, 322, 323, 324, 325, 326, 327, 328, 329, 330, 331, 332, 333, 334, 109, 110, 111, 112, 113, 114, 115, 116, 117, 118, 119, 120, 121, 122, 123, 124, 125, 126, 127, 138, 139, 140, 141, 142, 28, 29, 30, 31, 32, 33, 34, 335, 336, 337, 338, 339, 340, 419, 420, 421, 422, 423, 424, 425, 426, 427, 428, 429, 430, 431, 432, 433, 434, 435, 436, 437, 438, 439, 440, 441, 442, 443, 444, 445, 446, 447, 448, 449, 450, 451, 452, 453, 454, 455, 456, 457, 458, 459, 460, 461, 462, 463, 464, 465, 466, 467, 468, 469, 470, 471, 472, 473, 474, 475, 476, 477, 478, 479, 480, 481, 482, 483, 484, 485, 486, 487, 488, 489, 490, 491, 492, 493, 494, 495, 496, 497, 498, 499, 500, 501, 502, 521, 522, 523, 524, 525] rfl (by decide +kernel)
set_option maxRecDepth 20000 in
theorem gX18_one_X18_reckon : GoodIn wsX18_one (wsV RX18 503 RX18 yX18_reckon wsX18_reckon) := goodIn_app (goodIn_of _ (by decide +kernel)) ggX18_one_X18_reckon
set_option maxRecDepth 20000 in
theorem ggX18_one_X18_convert : GoodIn wsX18_one wsX18_convert := goodIn_r _ [344, 9, 97, 98, 99, 19, 100, 7, 8, 2, 101, 102, 103, 35, 36, 37, 38, 26, 16, 17, 18, 20, 21, 22, 23, 24, 25, 27, 274, 275, 276, 345, 317, 280, 318, 109, 110, 111, 112, 113, 114, 115, 116, 117, 118, 119, 120, 121, 122, 123, 124, 125, 126, 127, 419, 420, 421, 422, 423, 424, 425, 426, 427, 428, 429, 430, 431, 432, 433, 434, 435, 436, 437, 438, 439, 440, 441, 442, 443, 444, 445, 446, 447, 448, 449, 450, 451, 452, 453, 454, 455, 456, 457, 458, 459, 460, 461, 462, 463, 464, 465, 466, 467, 468, 469, 470, 471, 472, 473, 474, 475, 476, 477, 478, 479, 480, 481, 482, 483, 484, 485, 486, 487, 488, 489, 490, 491, 492, 493, 494, 495, 496, 497, 498, 499, 500, 501, 502] rfl (by decide +kernel)
set_option maxRecDepth 20000 in
theorem gX18_one_X18_convert : GoodIn wsX18_one (wsV RX18 505 RX18 yX18_convert wsX18_convert) := goodIn_app (goodIn_of _ (by decide +kernel)) ggX18_one_X18_convert
set_option maxRecDepth 20000 in
theorem ggX18_one_X18_takeLong : GoodIn wsX18_one wsX18_takeLong := goodIn_r _ [214, 9, 93, 94, 95, 19, 96, 97, 98, 99, 100, 7, 8, 2, 101, 102, 103, 35, 36, 37, 38, 26, 16, 17, 18, 20, 21, 22, 23, 24, 25, 27, 419, 420, 421, 422, 423, 424, 425, 426, 427, 428, 429, 430, 431, 432, 433, 434, 435, 436, 437, 438, 439, 440, 441, 442, 443, 444, 445, 446, 447, 448, 449, 450, 451, 452, 453, 454, 455, 456, 457, 458, 459, 460, 461, 462, 463, 464, 465, 466, 467, 468, 469, 470, 471, 472, 473, 474, 475, 476, 477, 478, 479, 480, 481, 482, 483, 484, 485, 486, 487, 488, 489, 490, 491, 492, 493, 494, 495, 496, 497, 498, 499, 500, 501, 502] rfl (by decide +kernel)
set_option maxRecDepth 20000 in
theorem gX18_one_X18_takeLong : GoodIn wsX18_one (wsV RX18 421 RX18 yX18_takeLong wsX18_takeLong) := goodIn_app (goodIn_of _ (by decide +kernel)) ggX18_one_X18_takeLong
set_option maxRecDepth 20000 in
theorem ggX18_one_X18_end : GoodIn wsX18_one wsX18_end := goodIn_r _ [25, 26, 27, 419, 420, 421, 422, 423, 424, 425, 426, 427, 428, 429, 430, 431, 432, 433, 434, 435, 436, 437, 438, 439, 440, 441, 442, 443, 444, 445, 446, 447, 448, 449, 450, 451, 452, 453, 454, 455, 456, 457, 458, 459, 460, 461, 462, 463, 464, 465, 466, 467, 468, 469, 470, 471, 472, 473, 474, 475, 476, 477, 478, 479, 480, 481, 482, 483, 484, 485, 486, 487, 488, 489, 490, 491, 492, 493, 494, 495, 496] rfl (by decide +kernel)
set_option maxRecDepth 20000 in
theorem gX18_one_X18_end : GoodIn wsX18_one (wsV RX18 267 RX18 yX18_end wsX18_end) := goodIn_app (goodIn_of _ (by decide +kernel)) ggX18_one_X18_end
set_option maxRecDepth 20000 in
theorem ggX18_one_X18_onResource : GoodIn wsX18_one wsX18_onResource := goodIn_r _ [349, 6, 108, 9, 209, 350, 231, 173, 174, 175, 13, 176, 172, 177, 178, 179, 180, 181, 182, 183, 184, 185, 44, 45, 46, 47, 48, 49, 93, 94, 95, 19, 96, 97, 98, 99, 100, 7, 8, 2, 101, 102, 103, 35, 36, 37, 38, 26, 16, 17, 18, 20, 21, 22, 23, 24, 25, 27, 223, 224, 225, 226, 227, 228, 229, 230, 195, 208, 232, 233, 234, 235, 236, 237, 238, 239, 240, 241, 242, 243, 244, 245, 246, 247, 248, 249, 250, 251, 252, 253, 254, 255, 256, 257, 258, 113, 114, 115, 116, 117, 118, 119, 120, 121, 122, 123, 186, 150, 151, 152, 28, 29, 30, 31, 32, 33, 34, 109, 110, 111, 112, 124, 125, 126, 127, 138, 139, 140, 141, 142, 419, 420, 421, 422, 423, 424, 425, 426, 427, 428, 429, 430, 431, 432, 433, 434, 435, 436, 437, 438, 439, 440, 441, 442, 443, 444, 445, 446, 447, 448, 449, 450, 451, 452, 453, 454, 455, 456, 457, 458, 459, 460, 461, 462, 463, 464, 465, 466, 467, 468, 469, 470, 471, 472, 473, 474, 475, 476, 477, 478, 479, 480, 481, 482, 483, 484, 485, 486, 487, 488, 489, 490, 491, 492, 493, 494, 495, 496, 497, 498, 499, 500, 501, 502, 503, 504, 505, 506, 507, 508, 509, 510, 511, 512, 513, 514, 515, 516, 517, 518, 519, 520] rfl (by decide +kernel)
set_option maxRecDepth 20000 in
theorem gX18_one_X18_onResource : GoodIn wsX18_one (wsV RX18 508 RX18 yX18_onResource wsX18_onResource) := goodIn_app (goodIn_of _ (by decide +kernel)) ggX18_one_X18_onResource
set_option maxRecDepth 20000 in
theorem ggX18_one_X18_onVector : GoodIn wsX18_one wsX18_onVector := goodIn_r _ [354, 7, 8, 2, 9, 102, 195, 210, 16, 17, 18, 19, 20, 21, 22, 23, 24, 25, 26, 27, 28, 29, 30, 31, 32, 33, 34, 35, 36, 37, 38, 113, 114, 115, 116, 117, 118, 119, 120, 121, 122, 123, 186, 150, 151, 152, 124, 125, 126, 127, 101, 355, 356, 357, 358, 359, 93, 94, 95, 96, 97, 98, 99, 100, 103, 360, 361, 362, 363, 364, 365, 366, 367, 368, 369, 370, 371, 372, 373, 374, 375, 376, 377, 378, 379, 380, 381, 382, 383, 384, 385, 386, 387, 388, 389, 390, 391, 392, 393, 394, 395, 396, 397, 398, 399, 400, 401, 402, 403, 404, 405, 406, 407, 408, 409, 211, 212, 213, 214, 109, 110, 111, 112, 410, 411, 412, 413, 161, 162, 163, 164, 414, 415, 416, 417, 418, 158, 159, 160, 419, 420, 421, 422, 423, 424, 425, 426, 427, 428, 429, 430, 431, 432, 433, 434, 435, 436, 437, 438, 439, 440, 441, 442, 443, 444, 445, 446, 447, 448, 449, 450, 451, 452, 453, 454, 455, 456, 457, 458, 459, 460, 461, 462, 463, 464, 465, 466, 467, 468, 469, 470, 471, 472, 473, 474, 475, 476, 477, 478, 479, 480, 481, 482, 483, 484, 485, 486, 487, 488, 489, 490, 491, 492, 493, 494, 495, 496, 497, 498, 499, 500, 501, 502, 526, 527, 528, 529] rfl (by decide +kernel)
set_option maxRecDepth 20000 in
theorem gX18_one_X18_onVector : GoodIn wsX18_one (wsV RX18 511 RX18 yX18_onVector wsX18_onVector) := goodIn_app (goodIn_of _ (by decide +kernel)) ggX18_one_X18_onVector
set_option maxRecDepth 20000 in
theorem ggX18_execute_X18_doOne : GoodIn wsX18_execute wsX18_doOne := goodIn_r _ [8, 9, 10, 11, 12, 13, 14, 15, 16, 17, 18, 19, 20, 21, 22, 23, 3, 24, 25, 26, 27, 28, 7, 29, 30, 31, 32, 33, 34, 35, 36, 37, 38, 39, 40, 41, 42, 43, 44, 45, 46, 47, 48, 49, 50, 51, 52, 53, 54, 55, 56, 57, 58, 59, 60, 61, 62, 63, 64, 65, 66, 67, 68, 69, 70, 71, 72, 73, 74, 75, 76, 77, 78, 79, 80, 81, 82, 83, 84, 85, 86, 87, 88, 89, 90, 91, 92, 93, 94, 95, 96, 97, 98, 99, 100, 101, 102, 103, 104, 105, 106, 107, 108, 109, 110, 111, 112, 113, 114, 115, 116, 117, 118, 119, 120, 121, 122, 123, 124, 125, 126, 127, 128, 129, 130, 131, 132, 133, 134, 135, 136, 137, 138, 139, 140, 141, 142, 143, 144, 145, 146, 147, 148, 149, 150, 151, 152, 153, 154, 155, 156, 157, 158, 159, 160, 161, 162, 163, 164, 165, 166, 167, 168, 169, 170, 171, 172, 173, 174, 175, 176, 177, 178, 179, 180, 181, 182, 183, 184, 185, 186, 187, 188, 189, 190, 191, 192, 193, 194, 195, 196, 197, 198, 199, 200, 201, 202, 203, 204, 205, 206, 207, 208, 209, 210, 211, 212, 213, 214, 215, 216, 217, 218, 219, 220, 221, 222, 223, 224, 225, 226, 227, 228, 229, 230, 231, 232, 233, 234, 235, 236, 237, 238, 239, 240, 241, 242, 243, 244, 245, 246, 247, 248, 249, 250, 251, 252, 253, 254, 255, 256, 257, 258, 259, 260, 261, 262, 263, 264, 265, 266, 267, 268, 269, 270, 271, 272, 273, 274, 275, 276, 277, 278, 279, 280, 281, 282, 283, 284, 285, 286, 287, 288, 289, 290, 291, 292, 293, 294, 295, 296, 297, 298, 299, 300, 301, 302, 303, 304, 305, 306, 307, 308, 309, 310, 311, 312, 313, 314, 315, 316, 317, 318, 319, 320, 321, 322, 323, 324, 325, 326, 327, 328, 329, 330, 331, 332, 333, 334, 335, 336, 337, 338, 339, 340, 341, 342, 343, 344, 345, 346, 347, 348, 349, 350, 351, 352, 353, 354, 355, 356, 357, 358, 359, 360, 361, 362, 363, 364, 365, 366, 367, 368, 369, 370, 371, 372, 373, 374, 375, 376, 377, 378, 379, 380, 381, 382, 383, 384, 385, 386, 387, 388, 389, 390, 391, 392, 393, 394, 395, 396, 397, 398, 399, 400, 401, 402, 403, 404, 405, 406, 407, 408, 409, 410, 411, 412, 413, 414, 415, 416, 417, 418, 419, 420, 421, 422, 423, 424, 425, 426, 427, 428, 429, 430, 431, 432, 433, 434, 435, 436, 437, 438, 439, 440, 441, 442, 443, 444, 445, 446, 447, 448, 449, 450, 451, 452, 453, 454, 455, 456, 457, 458, 459, 460, 461, 462, 463, 464, 465, 466, 467, 468, 469, 470, 471, 472, 473, 474, 475, 476, 477, 478, 479, 480, 481, 482, 483, 484, 485, 486, 487, 488, 489, 490, 491, 492, 493, 494, 495, 496, 497, 498, 499, 500, 501, 502, 503, 504, 505, 506, 507, 508, 509, 510, 511, 512, 513, 514, 515, 516, 517, 518, 519, 520, 521, 522, 523, 524, 525, 526, 527, 528, 529, 530, 531, 532, 533, 534, 535, 536, 537, 538, 539, 540, 541, 542, 543, 544, 545, 546, 547, 548, 549, 550, 551, 552, 553, 554, 555, 556, 557, 558, 559, 560, 561, 562, 563, 564, 565, 566, 567, 568, 569, 570, 571, 572, 573, 574, 575, 576, 577, 578, 579, 580, 581, 582, 583, 584, 585, 586, 587, 588, 589, 590, 591, 592, 593, 594, 595, 596, 597, 598, 599, 600, 601, 602, 603, 604, 605, 606, 607, 608, 609, 610, 611, 612, 613, 614, 615, 616, 617, 618, 619, 620, 621, 622, 623, 624, 625, 626, 627, 628, 629, 630, 631, 632, 633, 634, 635, 636, 637, 638, 639, 640, 641, 642, 643, 644, 645, 646, 647, 648, 649, 650, 651, 652, 653, 654, 655, 656, 657, 658, 659, 660, 661, 662, 663, 664, 665, 666, 667, 668, 669, 670, 671, 672, 673, 674, 675, 676, 677, 678, 679, 680, 681, 682, 683, 684, 685, 686, 687, 688, 689, 690, 691, 692, 693, 694, 695, 696, 697, 698, 699, 700, 701, 702, 703, 704, 705, 706, 707, 708, 709, 710, 711, 712, 713, 714, 715, 716, 717, 718, 719, 720, 721, 722, 723, 724, 725, 726, 727, 728, 729, 730, 731, 732, 733, 734, 735, 736, 737, 738, 739, 740, 741, 742, 743, 744, 745, 746, 747, 748, 749, 750, 751, 752, 753, 754, 755, 756, 757, 758, 759, 760, 761, 762, 763, 764, 765, 766, 767, 768, 769, 770, 771, 772, 773, 774, 775, 776, 777, 778, 779, 780, 781, 782, 783, 784, 785, 786, 787, 788, 789, 790, 791, 792, 793, 794, 795, 796, 797, 798, 799, 800, 801, 802, 803, 804, 805, 806, 807, 808, 809, 810, 811, 812, 813, 814, 815, 816, 817, 818, 819, 820, 821, 822, 823, 824, 825, 826, 827, 828, 829, 830, 831, 832, 833, 834, 835, 836, 837, 838, 839, 840, 841, 842, 843, 844, 845, 846, 847, 848, 849, 850, 851, 852, 853, 854, 855, 856, 857, 858, 859, 860, 861, 862, 863, 864, 865, 866, 867, 868, 869, 870, 871, 872, 873, 874, 875, 876, 877, 878, 879, 880, 881, 882, 883, 884, 885, 886, 887, 888, 889, 890, 891, 892, 893, 894, 895, 896, 897, 898, 899, 900, 901, 902, 903, 904, 905, 906, 907, 908, 909, 910, 911, 912, 913, 914, 915, 916, 917, 918, 919, 920, 921, 922, 923, 924, 925, 926, 927, 928, 929, 930, 931, 932, 933, 934, 935, 936, 937, 938, 939, 940, 941, 942, 943, 944, 945, 946, 947, 948, 949, 950, 951, 952, 953, 954, 955, 956, 957, 958, 959, 960, 961, 962, 963, 964, 965, 966, 967, 968, 969, 970, 971, 972, 973, 974, 975, 976, 977, 978, 979, 980, 981, 982, 983, 984, 985, 986, 987, 988, 989, 990, 991, 992, 993, 994, 995, 996, 997, 998] rfl (by decide +kernel)
set_option maxRecDepth 20000 in
theorem gX18_execute_X18_doOne : GoodIn wsX18_execute (wsV RX18 643 RX18 yX18_doOne wsX18_doOne) := goodIn_app (goodIn_of _ (by decide +kernel)) ggX18_execute_X18_doOne
set_option maxRecDepth 20000 in
theorem ggX18_doOne_X18_findAccount : GoodIn wsX18_doOne wsX18_findAccount := goodIn_r _ [23, 24, 25, 860, 861, 862, 863, 864, 865, 866, 867, 868, 869, 870, 871, 872, 873, 874, 875, 876, 877, 878, 879, 880, 881, 882, 883, 884, 885, 886, 887, 888, 889, 890, 891, 892, 893, 894, 895, 896, 897, 898, 899, 900, 901, 902, 903, 904, 905, 906, 907, 908, 909, 910, 911, 912, 913, 914, 915, 916, 917, 918, 919, 920, 921, 922, 923, 924, 925, 926, 927, 928, 929, 930, 931, 932, 933, 934, 935, 936, 937] rfl (by decide +kernel)
set_option maxRecDepth 20000 in
theorem gX18_doOne_X18_findAccount : GoodIn wsX18_doOne (wsV RX18 288 RX18 yX18_findAccount wsX18_findAccount) := goodIn_app (goodIn_of _ (by decide +kernel)) ggX18_doOne_X18_findAccount
set_option maxRecDepth 20000 in
theorem ggX18_doOne_X18_findModule : GoodIn wsX18_doOne wsX18_findModule := goodIn_r _ [29, 30, 31, 32, 33, 34, 35, 36, 37, 38, 39, 40, 41, 42, 43, 44, 45, 46, 860, 861, 862, 863, 864, 865, 866, 867, 868, 869, 870, 871, 872, 873, 874, 875, 876, 877, 878, 879, 880, 881, 882, 883, 884, 885, 886, 887, 888, 889, 890, 891, 892, 893, 894, 895, 896, 897, 898, 899, 900, 901, 902, 903, 904, 905, 906, 907, 908, 909, 910, 911, 912, 913, 914, 915, 916, 917, 918, 919, 920, 921, 922, 923, 924, 925, 926, 927, 928, 929, 930, 931, 932, 933, 934, 935, 936, 937, 938, 939, 940, 941, 942, 943, 944, 945, 946, 947, 948, 949, 950, 951, 952, 953, 954, 955] rfl (by decide +kernel)
set_option maxRecDepth 20000 in
theorem gX18_doOne_X18_findModule : GoodIn wsX18_doOne (wsV RX18 106 RX18 yX18_findModule wsX18_findModule) := goodIn_app (goodIn_of _ (by decide +kernel)) ggX18_doOne_X18_findModule
set_option maxRecDepth 20000 in
theorem ggX18_doOne_X18_refusal : GoodIn wsX18_doOne wsX18_refusal := goodIn_r _ [50, 51, 13, 31, 52, 53, 54, 55, 56, 57, 35, 58, 59, 60, 61, 41, 42, 43, 44, 45, 46, 62, 63, 64, 65, 66, 67, 68, 69, 70, 71, 72, 73, 74, 75, 76, 77, 78, 79, 80, 81, 82, 83, 84, 85, 86, 87, 88, 89, 90, 860, 861, 862, 863, 864, 865, 866, 867, 868, 869, 870, 871, 872, 873, 874, 875, 876, 877, 878, 879, 880, 881, 882, 883, 884, 885, 886, 887, 888, 889, 890, 891, 892, 893, 894, 895, 896, 897, 898, 899, 900, 901, 902, 903, 904, 905, 906, 907, 908, 909, 910, 911, 912, 913, 914, 915, 916, 917, 918, 919, 920, 921, 922, 923, 924, 925, 926, 927, 928, 929, 930, 931, 932, 933, 934, 935, 936, 937, 938, 939, 940, 941, 942, 943, 944, 945, 946, 947, 948, 949, 950, 951, 952, 953, 954, 955] rfl (by decide +kernel)
set_option maxRecDepth 20000 in
theorem gX18_doOne_X18_refusal : GoodIn wsX18_doOne (wsV RX18 646 RX18 yX18_refusal wsX18_refusal) := goodIn_app (goodIn_of _ (by decide +kernel)) ggX18_doOne_X18_refusal
set_option maxRecDepth 20000 in
theorem ggX18_doOne_X18_end : GoodIn wsX18_doOne wsX18_end := goodIn_r _ [94, 6, 7, 860, 861, 862, 863, 864, 865, 866, 867, 868, 869, 870, 871, 872, 873, 874, 875, 876, 877, 878, 879, 880, 881, 882, 883, 884, 885, 886, 887, 888, 889, 890, 891, 892, 893, 894, 895, 896, 897, 898, 899, 900, 901, 902, 903, 904, 905, 906, 907, 908, 909, 910, 911, 912, 913, 914, 915, 916, 917, 918, 919, 920, 921, 922, 923, 924, 925, 926, 927, 928, 929, 930, 931, 932, 933, 934, 935, 936, 937] rfl (by decide +kernel)
set_option maxRecDepth 20000 in
theorem gX18_doOne_X18_end : GoodIn wsX18_doOne (wsV RX18 267 RX18 yX18_end wsX18_end) := goodIn_app (goodIn_of _ (by decide +kernel)) ggX18_doOne_X18_end
set_option maxRecDepth 20000 in
theorem ggX18_doOne_X18_publishOne : GoodIn wsX18_doOne wsX18_publishOne := goodIn_r _ [98, 99, 30, 100, 101, 9, 102, 103, 104, 105, 22, 106, 5, 4, 54, 107, 108, 109, 110, 6, 91, 92, 93, 94, 7, 111, 112, 113, 114, 31, 115, 116, 117, 118, 119, 35, 120, 45, 46, 121, 122, 123, 124, 125, 126, 127, 128, 129, 130, 131, 132, 61, 133, 134, 59, 135, 136, 137, 138, 139, 140, 141, 142, 143, 144, 145, 146, 41, 42, 43, 44, 147, 148, 149, 150, 151, 152, 153, 154, 155, 156, 157, 158, 159, 160, 161, 162, 60, 163, 164, 165, 166, 167, 37, 38, 39, 40, 168, 169, 170, 171, 172, 173, 174, 175, 176, 177, 178, 179, 180, 181, 182, 183, 184, 185, 186, 187, 78, 79, 80, 81, 188, 189, 190, 191, 192, 193, 194, 195, 196, 197, 198, 199, 70, 71, 72, 73, 74, 75, 76, 77, 200, 201, 202, 203, 204, 205, 206, 207, 208, 209, 210, 211, 212, 213, 214, 215, 216, 217, 218, 219, 220, 32, 33, 34, 36, 26, 27, 28, 29, 221, 222, 223, 224, 225, 226, 227, 228, 229, 230, 231, 232, 233, 234, 235, 236, 237, 238, 239, 240, 241, 242, 243, 244, 245, 246, 247, 248, 249, 250, 251, 252, 253, 254, 255, 256, 257, 258, 259, 260, 261, 262, 263, 264, 265, 55, 56, 57, 58, 266, 267, 268, 269, 62, 63, 64, 65, 66, 67, 68, 69, 270, 271, 272, 273, 274, 275, 276, 82, 83, 84, 85, 86, 87, 88, 89, 90, 277, 278, 279, 280, 281, 282, 283, 284, 285, 286, 287, 288, 289, 290, 291, 292, 293, 294, 295, 296, 297, 298, 299, 300, 301, 302, 303, 304, 305, 306, 307, 308, 309, 310, 311, 312, 313, 314, 315, 316, 317, 318, 319, 320, 321, 322, 323, 324, 325, 326, 327, 328, 329, 330, 331, 332, 333, 334, 335, 336, 337, 338, 339, 340, 341, 342, 343, 344, 345, 346, 347, 348, 349, 350, 351, 352, 353, 354, 355, 356, 357, 358, 359, 360, 361, 362, 363, 364, 365, 366, 367, 368, 369, 370, 371, 372, 373, 374, 375, 376, 377, 378, 379, 380, 381, 382, 383, 384, 385, 386, 387, 388, 389, 390, 391, 392, 393, 394, 395, 396, 397, 398, 399, 400, 401, 402, 403, 404, 405, 406, 407, 408, 409, 410, 411, 412, 413, 414, 415, 416, 417, 418, 419, 420, 421, 422, 423, 424, 425, 426, 427, 428, 429, 430, 431, 432, 433, 434, 435, 436, 437, 438, 439, 440, 441, 442, 443, 444, 445, 446, 447, 448, 449, 450, 451, 452, 453, 454, 455, 456, 457, 458, 459, 460, 461, 462, 463, 464, 465, 466, 467, 468, 469, 470, 471, 472, 473, 474, 475, 476, 477, 478, 479, 480, 481, 482, 483, 484, 485, 486, 487, 488, 489, 490, 491, 492, 493, 494, 495, 496, 497, 498, 499, 500, 501, 502, 503, 504, 505, 506, 507, 508, 509, 510, 511, 512, 513, 24, 514, 860, 861, 862, 863, 864, 865, 866, 867, 868, 869, 870, 871, 872, 873, 874, 875, 876, 877, 878, 879, 880, 881, 882, 883, 884, 885, 886, 887, 888, 889, 890, 891, 892, 893, 894, 895, 896, 897, 898, 899, 900, 901, 902, 903, 904, 905, 906, 907, 908, 909, 910, 911, 912, 913, 914, 915, 916, 917, 918, 919, 920, 921, 922, 923, 924, 925, 926, 927, 928, 929, 930, 931, 932, 933, 934, 935, 936, 937, 938, 939, 940, 941, 942, 943, 944, 945, 946, 947, 948, 949, 950, 951, 952, 953, 954, 955, 956, 957, 958, 959, 960, 961, 962, 963, 964, 965, 966, 967, 968, 969, 970, 971, 972, 973, 974, 975, 976, 977] rfl (by decide +kernel)
set_option maxRecDepth 20000 in
theorem gX18_doOne_X18_publishOne : GoodIn wsX18_doOne (wsV RX18 649 RX18 yX18_publishOne wsX18_publishOne) := goodIn_app (goodIn_of _ (by decide +kernel)) ggX18_doOne_X18_publishOne
set_option maxRecDepth 20000 in
theorem ggX18_doOne_X18_callOne : GoodIn wsX18_doOne wsX18_callOne := goodIn_r _ [518, 519, 520, 2, 521, 4, 13, 522, 523, 52, 53, 524, 525, 51, 6, 100, 7, 526, 527, 528, 529, 8, 530, 531, 532, 22, 533, 534, 535, 536, 537, 538, 12, 91, 92, 93, 94, 19, 20, 21, 23, 24, 25, 539, 540, 541, 542, 514, 543, 544, 545, 546, 547, 548, 549, 550, 551, 552, 553, 554, 555, 556, 557, 558, 559, 560, 561, 562, 563, 564, 565, 566, 567, 568, 569, 570, 571, 572, 573, 574, 575, 576, 577, 107, 108, 109, 110, 578, 579, 580, 581, 582, 583, 584, 585, 586, 587, 588, 589, 590, 591, 592, 593, 594, 595, 31, 596, 597, 359, 360, 35, 361, 163, 598, 599, 600, 601, 602, 103, 104, 105, 106, 5, 54, 603, 365, 366, 367, 172, 41, 42, 43, 44, 45, 46, 604, 369, 370, 371, 173, 174, 175, 372, 373, 374, 375, 90, 605, 606, 607, 608, 62, 63, 64, 65, 59, 66, 67, 68, 69, 61, 70, 71, 72, 73, 60, 74, 75, 76, 77, 78, 79, 80, 81, 609, 610, 611, 612, 613, 614, 615, 616, 617, 618, 619, 620, 621, 622, 623, 624, 625, 626, 627, 628, 629, 630, 631, 632, 633, 634, 635, 636, 637, 638, 639, 640, 641, 642, 643, 644, 645, 646, 647, 648, 649, 650, 651, 652, 653, 654, 655, 656, 657, 658, 659, 660, 661, 181, 182, 183, 126, 229, 230, 231, 232, 125, 233, 33, 34, 36, 37, 38, 39, 40, 662, 663, 664, 665, 666, 667, 668, 669, 258, 259, 260, 261, 254, 255, 256, 257, 670, 671, 672, 673, 674, 675, 676, 677, 678, 679, 680, 681, 682, 683, 684, 685, 686, 26, 27, 28, 29, 30, 32, 687, 688, 689, 690, 691, 692, 693, 694, 695, 696, 697, 698, 699, 700, 701, 702, 703, 704, 705, 706, 707, 708, 709, 710, 711, 712, 713, 714, 715, 716, 717, 718, 719, 720, 721, 722, 723, 724, 725, 726, 727, 728, 729, 730, 731, 732, 733, 734, 735, 736, 737, 738, 739, 740, 741, 742, 743, 744, 745, 746, 747, 748, 749, 750, 751, 752, 753, 754, 755, 756, 757, 758, 759, 760, 761, 762, 763, 764, 765, 766, 767, 285, 768, 769, 770, 771, 772, 773, 774, 775, 776, 777, 778, 779, 780, 781, 782, 783, 784, 785, 786, 787, 788, 789, 790, 791, 792, 793, 794, 795, 796, 797, 798, 799, 800, 801, 802, 803, 804, 805, 806, 807, 808, 809, 810, 811, 812, 813, 814, 815, 816, 817, 818, 819, 820, 821, 822, 823, 824, 825, 826, 827, 828, 829, 830, 831, 832, 833, 834, 835, 836, 837, 838, 839, 510, 511, 512, 513, 840, 841, 842, 843, 844, 845, 846, 847, 848, 849, 850, 851, 10, 852, 853, 854, 855, 856, 857, 858, 859, 860, 861, 862, 863, 864, 865, 866, 867, 868, 869, 870, 871, 872, 873, 874, 875, 876, 877, 878, 879, 880, 881, 882, 883, 884, 885, 886, 887, 888, 889, 890, 891, 892, 893, 894, 895, 896, 897, 898, 899, 900, 901, 902, 903, 904, 905, 906, 907, 908, 909, 910, 911, 912, 913, 914, 915, 916, 917, 918, 919, 920, 921, 922, 923, 924, 925, 926, 927, 928, 929, 930, 931, 932, 933, 934, 935, 936, 937, 978, 979, 980, 981, 982, 983, 938, 939, 940, 941, 942, 943, 944, 945, 946, 947, 948, 949, 950, 951, 952, 953, 954, 955, 984, 985, 986, 987, 988, 989, 990, 991, 992] rfl (by decide +kernel)
set_option maxRecDepth 20000 in
theorem gX18_doOne_X18_callOne : GoodIn wsX18_doOne (wsV RX18 652 RX18 yX18_callOne wsX18_callOne) := goodIn_app (goodIn_of _ (by decide +kernel)) ggX18_doOne_X18_callOne
set_option maxRecDepth 20000 in
theorem ggX18_refusal_X16_flags : GoodIn wsX18_refusal wsX16_flags := goodIn_r _ [11, 12, 13, 14, 15, 16, 17, 10, 18, 19, 20, 128, 129, 130, 131, 132, 133, 134, 135, 136, 137, 138, 139, 140, 141, 142, 143, 144, 145] rfl (by decide +kernel)
set_option maxRecDepth 20000 in
theorem gX18_refusal_X16_flags : GoodIn wsX18_refusal (wsV RX18 126 RX16 yX16_flags wsX16_flags) := goodIn_app (goodIn_of _ (by decide +kernel)) ggX18_refusal_X16_flags
set_option maxRecDepth 20000 in
theorem ggX18_refusal_X16_many : GoodIn wsX18_refusal wsX16_many := goodIn_r _ [24, 12, 25, 26, 27, 10, 28, 14, 29, 30, 31, 32, 13, 33, 34, 35, 36, 15, 16, 17, 18, 19, 20, 37, 38, 39, 40, 128, 129, 130, 131, 132, 133, 134, 135, 136, 137, 138, 139, 140, 141, 142, 143, 144, 145] rfl (by decide +kernel)
set_option maxRecDepth 20000 in
theorem gX18_refusal_X16_many : GoodIn wsX18_refusal (wsV RX18 133 RX16 yX16_many wsX16_many) := goodIn_app (goodIn_of _ (by decide +kernel)) ggX18_refusal_X16_many
set_option maxRecDepth 20000 in
theorem ggX18_refusal_X16_listed : GoodIn wsX18_refusal wsX16_listed := goodIn_r _ [44, 25, 26, 27, 10, 28, 12, 14, 29, 30, 31, 32, 13, 33, 34, 35, 36, 15, 16, 17, 18, 19, 20, 37, 38, 39, 40, 45, 46, 47, 48, 49, 128, 129, 130, 131, 132, 133, 134, 135, 136, 137, 138, 139, 140, 141, 142, 143, 144, 145] rfl (by decide +kernel)
set_option maxRecDepth 20000 in
theorem gX18_refusal_X16_listed : GoodIn wsX18_refusal (wsV RX18 140 RX16 yX16_listed wsX16_listed) := goodIn_app (goodIn_of _ (by decide +kernel)) ggX18_refusal_X16_listed
set_option maxRecDepth 20000 in
theorem ggX18_publishOne_X18_spend : GoodIn wsX18_publishOne wsX18_spend := goodIn_r _ [11, 12, 13, 14, 15, 16, 17, 10, 18, 19, 20, 21, 22, 23, 24, 486, 487, 488, 489, 490, 491, 492, 493, 494, 495, 496, 497, 498, 499, 500, 501, 502, 503, 504, 505, 506, 507, 508, 509, 510, 511, 512, 513, 514, 515, 516, 517, 518, 519, 520, 521, 522, 523, 524, 525, 526, 527, 528, 529, 530, 531, 532, 533, 534, 535, 536, 537, 538, 539, 540, 541, 542, 543, 544, 545, 546, 547, 548, 549, 550, 551, 552, 553, 554, 555, 556, 557, 558, 559, 560, 561, 562, 563] rfl (by decide +kernel)
set_option maxRecDepth 20000 in
theorem gX18_publishOne_X18_spend : GoodIn wsX18_publishOne (wsV RX18 353 RX18 yX18_spend wsX18_spend) := goodIn_app (goodIn_of _ (by decide +kernel)) ggX18_publishOne_X18_spend
set_option maxRecDepth 20000 in
theorem ggX18_publishOne_X18_end : GoodIn wsX18_publishOne wsX18_end := goodIn_r _ [23, 19, 24, 486, 487, 488, 489, 490, 491, 492, 493, 494, 495, 496, 497, 498, 499, 500, 501, 502, 503, 504, 505, 506, 507, 508, 509, 510, 511, 512, 513, 514, 515, 516, 517, 518, 519, 520, 521, 522, 523, 524, 525, 526, 527, 528, 529, 530, 531, 532, 533, 534, 535, 536, 537, 538, 539, 540, 541, 542, 543, 544, 545, 546, 547, 548, 549, 550, 551, 552, 553, 554, 555, 556, 557, 558, 559, 560, 561, 562, 563] rfl (by decide +kernel)
set_option maxRecDepth 20000 in
theorem gX18_publishOne_X18_end : GoodIn wsX18_publishOne (wsV RX18 267 RX18 yX18_end wsX18_end) := goodIn_app (goodIn_of _ (by decide +kernel)) ggX18_publishOne_X18_end
set_option maxRecDepth 20000 in
theorem ggX18_publishOne_X18_takeModule : GoodIn wsX18_publishOne wsX18_takeModule := goodIn_r _ [28, 29, 6, 30, 31, 32, 33, 34, 35, 36, 37, 38, 39, 40, 41, 42, 43, 44, 45, 46, 47, 48, 49, 50, 51, 52, 53, 54, 55, 56, 57, 58, 59, 60, 61, 62, 63, 64, 65, 66, 67, 68, 69, 70, 71, 72, 73, 74, 75, 76, 77, 78, 79, 80, 81, 82, 83, 84, 85, 86, 87, 88, 89, 90, 91, 92, 93, 94, 95, 96, 97, 98, 99, 100, 101, 102, 103, 104, 105, 106, 107, 108, 109, 110, 111, 112, 113, 114, 115, 116, 117, 118, 119, 120, 121, 122, 123, 124, 125, 126, 127, 128, 129, 130, 131, 132, 133, 134, 135, 136, 137, 138, 139, 140, 141, 142, 143, 144, 145, 146, 147, 148, 149, 150, 151, 152, 153, 154, 155, 156, 157, 158, 159, 160, 161, 162, 163, 164, 165, 166, 167, 168, 10, 169, 2, 170, 171, 172, 173, 174, 175, 176, 177, 178, 179, 180, 181, 182, 183, 184, 185, 186, 187, 188, 189, 190, 191, 192, 193, 194, 195, 196, 197, 198, 199, 200, 201, 202, 203, 204, 205, 206, 207, 208, 209, 210, 211, 212, 213, 214, 215, 216, 217, 218, 219, 220, 221, 222, 223, 224, 225, 226, 227, 228, 229, 230, 231, 232, 233, 234, 235, 236, 237, 238, 239, 240, 241, 242, 243, 244, 245, 246, 247, 248, 249, 250, 251, 252, 253, 254, 255, 14, 256, 257, 258, 259, 260, 261, 262, 263, 264, 265, 266, 267, 268, 269, 270, 271, 272, 273, 274, 275, 276, 277, 278, 279, 280, 281, 282, 283, 284, 285, 286, 287, 288, 289, 290, 291, 292, 293, 294, 295, 296, 297, 298, 299, 300, 301, 302, 303, 304, 305, 306, 307, 308, 309, 310, 311, 312, 313, 314, 315, 316, 317, 318, 319, 320, 321, 322, 323, 324, 325, 326, 327, 328, 329, 330, 331, 332, 333, 334, 335, 336, 337, 338, 339, 340, 341, 342, 343, 344, 345, 346, 347, 348, 349, 350, 351, 352, 353, 354, 355, 356, 357, 358, 359, 360, 361, 362, 363, 364, 365, 366, 367, 368, 369, 370, 371, 372, 373, 374, 375, 376, 377, 378, 379, 380, 381, 382, 383, 384, 385, 386, 387, 388, 389, 390, 391, 392, 393, 394, 395, 396, 397, 398, 399, 400, 401, 402, 403, 404, 405, 406, 407, 408, 409, 410, 411, 412, 413, 414, 415, 416, 417, 418, 419, 420, 421, 422, 423, 424, 425, 426, 427, 428, 429, 430, 431, 432, 433, 434, 435, 436, 437, 438, 439, 440, 441, 442, 443, 444, 445, 446, 447, 448, 449, 450, 451, 452, 453, 454, 455, 456, 457, 458, 459, 460, 461, 462, 463, 464, 465, 466, 467, 468, 469, 470, 471, 472, 473, 474, 475, 476, 477, 478, 479, 486, 487, 488, 489, 490, 491, 492, 493, 494, 495, 496, 497, 498, 499, 500, 501, 502, 503, 504, 505, 506, 507, 508, 509, 510, 511, 512, 513, 514, 515, 516, 517, 518, 519, 520, 521, 522, 523, 524, 525, 526, 527, 528, 529, 530, 531, 532, 533, 534, 535, 536, 537, 538, 539, 540, 541, 542, 543, 544, 545, 546, 547, 548, 549, 550, 551, 552, 553, 554, 555, 556, 557, 558, 559, 560, 561, 562, 563, 564, 565, 566, 567, 568, 569, 570, 571, 572, 573, 574, 575, 576, 577, 578, 579, 580, 581, 582, 583, 584, 585, 586, 587, 588, 589, 590, 591, 592, 593, 594, 595, 596, 597, 598, 599, 600, 601, 602, 603] rfl (by decide +kernel)
set_option maxRecDepth 20000 in
theorem gX18_publishOne_X18_takeModule : GoodIn wsX18_publishOne (wsV RX18 655 RX18 yX18_takeModule wsX18_takeModule) := goodIn_app (goodIn_of _ (by decide +kernel)) ggX18_publishOne_X18_takeModule
set_option maxRecDepth 20000 in
theorem ggX18_publishOne_X18_placeCount : GoodIn wsX18_publishOne wsX18_placeCount := goodIn_r _ [483, 484, 2, 485, 486, 487, 488, 489, 490, 491, 492, 493, 494, 495, 496, 497, 498, 499, 500, 501, 502, 503, 504, 505, 506, 507, 508, 509, 510, 511, 512, 513, 514, 515, 516, 517, 518, 519, 520, 521, 522, 523, 524, 525, 526, 527, 528, 529, 530, 531, 532, 533, 534, 535, 536, 537, 538, 539, 540, 541, 542, 543, 544, 545, 546, 547, 548, 549, 550, 551, 552, 553, 554, 555, 556, 557, 558, 559, 560, 561, 562, 563] rfl (by decide +kernel)
set_option maxRecDepth 20000 in
theorem gX18_publishOne_X18_placeCount : GoodIn wsX18_publishOne (wsV RX18 620 RX18 yX18_placeCount wsX18_placeCount) := goodIn_app (goodIn_of _ (by decide +kernel)) ggX18_publishOne_X18_placeCount
set_option maxRecDepth 20000 in
theorem ggX18_callOne_X18_ask : GoodIn wsX18_callOne wsX18_ask := goodIn_r _ [26, 2, 27, 28, 29, 15, 30, 31, 4, 32, 33, 34, 35, 25, 36, 14, 16, 37, 38, 39, 40, 41, 42, 43, 44, 45, 46, 47, 48, 49, 50, 51, 52, 53, 54, 55, 56, 57, 58, 1, 59, 60, 61, 62, 63, 64, 65, 66, 67, 68, 69, 70, 71, 72, 73, 74, 75, 76, 77, 462, 463, 464, 465, 466, 467, 468, 469, 470, 471, 472, 473, 474, 475, 476, 477, 478, 479, 480, 481, 482, 483, 484, 485, 486, 487, 488, 489, 490, 491, 492, 493, 494, 495, 496, 497, 498, 499, 500, 501, 502, 503, 504, 505, 506, 507, 508, 509, 510, 511, 512, 513, 514, 515, 516, 517, 518, 519, 520, 521, 522, 523, 524, 525, 526, 527, 528, 529, 530, 531, 532, 533, 534, 535, 536, 537, 538, 539, 540, 541, 542, 543, 544, 545] rfl (by decide +kernel)
set_option maxRecDepth 20000 in
theorem gX18_callOne_X18_ask : GoodIn wsX18_callOne (wsV RX18 414 RX18 yX18_ask wsX18_ask) := goodIn_app (goodIn_of _ (by decide +kernel)) ggX18_callOne_X18_ask
set_option maxRecDepth 20000 in
theorem ggX18_callOne_X15_make : GoodIn wsX18_callOne wsX15_make := goodIn_r _ [67, 68, 69, 70, 71, 72, 73, 540, 541, 542, 543, 544, 545] rfl (by decide +kernel)
set_option maxRecDepth 20000 in
theorem gX18_callOne_X15_make : GoodIn wsX18_callOne (wsV RX18 54 RX15 yX15_make wsX15_make) := goodIn_app (goodIn_of _ (by decide +kernel)) ggX18_callOne_X15_make
set_option maxRecDepth 20000 in
theorem ggX18_callOne_X18_push : GoodIn wsX18_callOne wsX18_push := goodIn_r _ [81, 18, 8, 82, 83, 84, 85, 25, 86, 14, 462, 463, 464, 465, 466, 467, 468, 469, 470, 471, 472, 473, 474, 475, 476, 477, 478, 479, 480, 481, 482, 483, 484, 485, 486, 487, 488, 489, 490, 491, 492, 493, 494, 495, 496, 497, 498, 499, 500, 501, 502, 503, 504, 505, 506, 507, 508, 509, 510, 511, 512, 513, 514, 515, 516, 517, 518, 519, 520, 521, 522, 523, 524, 525, 526, 527, 528, 529, 530, 531, 532, 533, 534, 535, 536, 537, 538, 539] rfl (by decide +kernel)
set_option maxRecDepth 20000 in
theorem gX18_callOne_X18_push : GoodIn wsX18_callOne (wsV RX18 318 RX18 yX18_push wsX18_push) := goodIn_app (goodIn_of _ (by decide +kernel)) ggX18_callOne_X18_push
set_option maxRecDepth 20000 in
theorem ggX18_callOne_X18_enter : GoodIn wsX18_callOne wsX18_enter := goodIn_r _ [90, 7, 91, 92, 93, 94, 18, 8, 95, 82, 96, 97, 98, 99, 25, 100, 462, 463, 464, 465, 466, 467, 468, 469, 470, 471, 472, 473, 474, 475, 476, 477, 478, 479, 480, 481, 482, 483, 484, 485, 486, 487, 488, 489, 490, 491, 492, 493, 494, 495, 496, 497, 498, 499, 500, 501, 502, 503, 504, 505, 506, 507, 508, 509, 510, 511, 512, 513, 514, 515, 516, 517, 518, 519, 520, 521, 522, 523, 524, 525, 526, 527, 528, 529, 530, 531, 532, 533, 534, 535, 536, 537, 538, 539] rfl (by decide +kernel)
set_option maxRecDepth 20000 in
theorem gX18_callOne_X18_enter : GoodIn wsX18_callOne (wsV RX18 451 RX18 yX18_enter wsX18_enter) := goodIn_app (goodIn_of _ (by decide +kernel)) ggX18_callOne_X18_enter
set_option maxRecDepth 20000 in
theorem ggX18_callOne_X18_goesOn : GoodIn wsX18_callOne wsX18_goesOn := goodIn_r _ [86, 14, 462, 463, 464, 465, 466, 467, 468, 469, 470, 471, 472, 473, 474, 475, 476, 477, 478, 479, 480, 481, 482, 483, 484, 485, 486, 487, 488, 489, 490, 491, 492, 493, 494, 495, 496, 497, 498, 499, 500, 501, 502, 503, 504, 505, 506, 507, 508, 509, 510, 511, 512, 513, 514, 515, 516, 517, 518, 519, 520, 521, 522, 523, 524, 525, 526, 527, 528, 529, 530, 531, 532, 533, 534, 535, 536, 537, 538, 539] rfl (by decide +kernel)
set_option maxRecDepth 20000 in
theorem gX18_callOne_X18_goesOn : GoodIn wsX18_callOne (wsV RX18 257 RX18 yX18_goesOn wsX18_goesOn) := goodIn_app (goodIn_of _ (by decide +kernel)) ggX18_callOne_X18_goesOn
set_option maxRecDepth 20000 in
theorem ggX18_callOne_X18_one : GoodIn wsX18_callOne wsX18_one := goodIn_r _ [104, 92, 7, 93, 105, 91, 106, 8, 96, 1, 107, 108, 109, 110, 111, 112, 113, 114, 115, 25, 116, 117, 33, 34, 35, 36, 14, 16, 118, 119, 120, 121, 122, 5, 123, 83, 84, 85, 86, 124, 125, 126, 127, 128, 129, 130, 131, 132, 133, 134, 135, 136, 137, 138, 139, 140, 141, 142, 143, 144, 145, 146, 147, 148, 149, 150, 151, 152, 153, 154, 155, 156, 157, 158, 159, 160, 161, 162, 163, 164, 165, 166, 167, 168, 169, 170, 171, 172, 173, 174, 175, 176, 177, 178, 179, 180, 181, 182, 183, 184, 185, 82, 18, 186, 187, 188, 189, 190, 3, 191, 192, 193, 194, 63, 64, 65, 66, 67, 68, 69, 70, 71, 72, 73, 78, 79, 80, 81, 195, 196, 197, 198, 94, 95, 97, 98, 99, 100, 199, 200, 201, 202, 203, 204, 205, 206, 207, 208, 209, 210, 75, 76, 77, 211, 212, 213, 214, 215, 216, 217, 218, 219, 220, 221, 222, 223, 224, 225, 226, 227, 228, 229, 230, 231, 232, 233, 234, 235, 236, 237, 238, 239, 240, 241, 242, 243, 74, 244, 245, 246, 247, 248, 249, 250, 251, 15, 252, 253, 254, 255, 256, 257, 258, 259, 260, 261, 262, 263, 4, 31, 264, 265, 266, 267, 268, 269, 270, 271, 272, 273, 274, 275, 276, 22, 23, 24, 26, 2, 27, 28, 29, 30, 32, 37, 38, 39, 40, 41, 42, 43, 44, 45, 46, 47, 48, 49, 50, 51, 52, 53, 54, 55, 56, 57, 58, 59, 60, 61, 62, 277, 278, 279, 280, 281, 282, 87, 88, 89, 90, 283, 284, 285, 286, 287, 288, 289, 290, 291, 292, 293, 294, 295, 296, 297, 298, 299, 300, 301, 302, 303, 304, 305, 306, 307, 308, 309, 310, 311, 312, 313, 314, 315, 316, 317, 318, 319, 320, 321, 322, 323, 324, 325, 326, 327, 328, 329, 330, 331, 332, 333, 334, 335, 336, 337, 338, 339, 340, 341, 342, 343, 344, 345, 346, 347, 348, 349, 350, 351, 352, 353, 354, 355, 356, 357, 358, 359, 360, 361, 362, 363, 364, 365, 366, 367, 368, 369, 370, 371, 372, 373, 374, 375, 376, 377, 378, 379, 380, 381, 382, 383, 384, 385, 386, 387, 388, 389, 390, 391, 392, 393, 394, 395, 396, 397, 398, 399, 400, 401, 402, 403, 404, 405, 406, 407, 408, 409, 410, 411, 412, 413, 414, 415, 416, 417, 418, 419, 420, 421, 422, 423, 424, 425, 426, 427, 428, 429, 430, 431, 432, 462, 463, 464, 465, 466, 467, 468, 469, 470, 471, 472, 473, 474, 475, 476, 477, 478, 479, 480, 481, 482, 483, 484, 485, 486, 487, 488, 489, 490, 491, 492, 493, 494, 495, 496, 497, 498, 499, 500, 501, 502, 503, 504, 505, 506, 507, 508, 509, 510, 511, 512, 513, 514, 515, 516, 517, 518, 519, 520, 521, 522, 523, 524, 525, 526, 527, 528, 529, 530, 531, 532, 533, 534, 535, 536, 537, 538, 539, 540, 541, 542, 543, 544, 545, 546, 547, 548, 549, 550, 551, 552, 553, 554, 555, 556, 557, 558, 559, 560, 561, 562, 563, 564, 565, 566, 567, 568, 569, 570, 571, 572] rfl (by decide +kernel)
set_option maxRecDepth 20000 in
theorem gX18_callOne_X18_one : GoodIn wsX18_callOne (wsV RX18 662 RX18 yX18_one wsX18_one) := goodIn_app (goodIn_of _ (by decide +kernel)) ggX18_callOne_X18_one
set_option maxRecDepth 20000 in
theorem ggX18_callOne_X18_isTooMuch : GoodIn wsX18_callOne wsX18_isTooMuch := goodIn_r _ [436, 2, 27, 28, 29, 31, 1, 30, 37, 38, 39, 25, 40, 41, 42, 43, 44, 45, 46, 47, 48, 49, 199, 200, 201, 66, 202, 72, 73, 203, 437, 438, 439, 440, 281, 462, 463, 464, 465, 466, 467, 468, 469, 470, 471, 472, 473, 474, 475, 476, 477, 478, 479, 480, 481, 482, 483, 484, 485, 486, 487, 488, 489, 490, 491, 492, 493, 494, 495, 496, 497, 498, 499, 500, 501, 502, 503, 504, 505, 506, 507, 508, 509, 510, 511, 512, 513, 514, 515, 516, 517, 518, 519, 520, 521, 522, 523, 524, 525, 526, 527, 528, 529, 530, 531, 532, 533, 534, 535, 536, 537, 538, 539, 540, 541, 542, 543, 544, 545] rfl (by decide +kernel)
set_option maxRecDepth 20000 in
theorem gX18_callOne_X18_isTooMuch : GoodIn wsX18_callOne (wsV RX18 665 RX18 yX18_isTooMuch wsX18_isTooMuch) := goodIn_app (goodIn_of _ (by decide +kernel)) ggX18_callOne_X18_isTooMuch
set_option maxRecDepth 20000 in
theorem ggX18_callOne_X18_settle : GoodIn wsX18_callOne wsX18_settle := goodIn_r _ [444, 4, 5, 2, 27, 31, 28, 29, 32, 47, 48, 49, 30, 43, 44, 45, 25, 46, 445, 446, 447, 448, 59, 60, 61, 62, 37, 38, 39, 40, 41, 42, 449, 450, 451, 452, 453, 454, 455, 456, 457, 54, 458, 459, 460, 461, 1, 374, 375, 376, 66, 377, 72, 73, 462, 463, 464, 465, 466, 467, 468, 469, 470, 471, 472, 473, 474, 475, 476, 477, 478, 479, 480, 481, 482, 483, 484, 485, 486, 487, 488, 489, 490, 491, 492, 493, 494, 495, 496, 497, 498, 499, 500, 501, 502, 503, 504, 505, 506, 507, 508, 509, 510, 511, 512, 513, 514, 515, 516, 517, 518, 519, 520, 521, 522, 523, 524, 525, 526, 527, 528, 529, 530, 531, 532, 533, 534, 535, 536, 537, 538, 539, 540, 541, 542, 543, 544, 545] rfl (by decide +kernel)
set_option maxRecDepth 20000 in
theorem gX18_callOne_X18_settle : GoodIn wsX18_callOne (wsV RX18 668 RX18 yX18_settle wsX18_settle) := goodIn_app (goodIn_of _ (by decide +kernel)) ggX18_callOne_X18_settle
set_option maxRecDepth 20000 in
theorem ggX18_isTooMuch_X18_findAccount : GoodIn wsX18_isTooMuch wsX18_findAccount := goodIn_r _ [12, 13, 14, 35, 36, 37, 38, 39, 40, 41, 42, 43, 44, 45, 46, 47, 48, 49, 50, 51, 52, 53, 54, 55, 56, 57, 58, 59, 60, 61, 62, 63, 64, 65, 66, 67, 68, 69, 70, 71, 72, 73, 74, 75, 76, 77, 78, 79, 80, 81, 82, 83, 84, 85, 86, 87, 88, 89, 90, 91, 92, 93, 94, 95, 96, 97, 98, 99, 100, 101, 102, 103, 104, 105, 106, 107, 108, 109, 110, 111, 112] rfl (by decide +kernel)
set_option maxRecDepth 20000 in
theorem gX18_isTooMuch_X18_findAccount : GoodIn wsX18_isTooMuch (wsV RX18 288 RX18 yX18_findAccount wsX18_findAccount) := goodIn_app (goodIn_of _ (by decide +kernel)) ggX18_isTooMuch_X18_findAccount
set_option maxRecDepth 20000 in
theorem ggX18_isTooMuch_X18_findResource : GoodIn wsX18_isTooMuch wsX18_findResource := goodIn_r _ [18, 19, 20, 21, 35, 36, 37, 38, 39, 40, 41, 42, 43, 44, 45, 46, 47, 48, 49, 50, 51, 52, 53, 54, 55, 56, 57, 58, 59, 60, 61, 62, 63, 64, 65, 66, 67, 68, 69, 70, 71, 72, 73, 74, 75, 76, 77, 78, 79, 80, 81, 82, 83, 84, 85, 86, 87, 88, 89, 90, 91, 92, 93, 94, 95, 96, 97, 98, 99, 100, 101, 102, 103, 104, 105, 106, 107, 108, 109, 110, 111, 112] rfl (by decide +kernel)
set_option maxRecDepth 20000 in
theorem gX18_isTooMuch_X18_findResource : GoodIn wsX18_isTooMuch (wsV RX18 292 RX18 yX18_findResource wsX18_findResource) := goodIn_app (goodIn_of _ (by decide +kernel)) ggX18_isTooMuch_X18_findResource
set_option maxRecDepth 20000 in
theorem ggX18_isTooMuch_X15_sizeOf : GoodIn wsX18_isTooMuch wsX15_sizeOf := goodIn_r _ [26, 27, 28, 29, 23, 24, 25, 113, 114, 115, 116, 117, 118] rfl (by decide +kernel)
set_option maxRecDepth 20000 in
theorem gX18_isTooMuch_X15_sizeOf : GoodIn wsX18_isTooMuch (wsV RX18 357 RX15 yX15_sizeOf wsX15_sizeOf) := goodIn_app (goodIn_of _ (by decide +kernel)) ggX18_isTooMuch_X15_sizeOf
set_option maxRecDepth 20000 in
theorem ggX18_isTooMuch_X18_placeCount : GoodIn wsX18_isTooMuch wsX18_placeCount := goodIn_r _ [33, 13, 34, 19, 35, 36, 37, 38, 39, 40, 41, 42, 43, 44, 45, 46, 47, 48, 49, 50, 51, 52, 53, 54, 55, 56, 57, 58, 59, 60, 61, 62, 63, 64, 65, 66, 67, 68, 69, 70, 71, 72, 73, 74, 75, 76, 77, 78, 79, 80, 81, 82, 83, 84, 85, 86, 87, 88, 89, 90, 91, 92, 93, 94, 95, 96, 97, 98, 99, 100, 101, 102, 103, 104, 105, 106, 107, 108, 109, 110, 111, 112] rfl (by decide +kernel)
set_option maxRecDepth 20000 in
theorem gX18_isTooMuch_X18_placeCount : GoodIn wsX18_isTooMuch (wsV RX18 620 RX18 yX18_placeCount wsX18_placeCount) := goodIn_app (goodIn_of _ (by decide +kernel)) ggX18_isTooMuch_X18_placeCount
set_option maxRecDepth 20000 in
theorem ggX18_settle_X18_findResource : GoodIn wsX18_settle wsX18_findResource := goodIn_r _ [17, 9, 10, 11, 54, 55, 56, 57, 58, 59, 60, 61, 62, 63, 64, 65, 66, 67, 68, 69, 70, 71, 72, 73, 74, 75, 76, 77, 78, 79, 80, 81, 82, 83, 84, 85, 86, 87, 88, 89, 90, 91, 92, 93, 94, 95, 96, 97, 98, 99, 100, 101, 102, 103, 104, 105, 106, 107, 108, 109, 110, 111, 112, 113, 114, 115, 116, 117, 118, 119, 120, 121, 122, 123, 124, 125, 126, 127, 128, 129, 130, 131] rfl (by decide +kernel)
set_option maxRecDepth 20000 in
theorem gX18_settle_X18_findResource : GoodIn wsX18_settle (wsV RX18 292 RX18 yX18_findResource wsX18_findResource) := goodIn_app (goodIn_of _ (by decide +kernel)) ggX18_settle_X18_findResource
set_option maxRecDepth 20000 in
theorem ggX18_settle_X18_removeResource : GoodIn wsX18_settle wsX18_removeResource := goodIn_r _ [21, 9, 10, 11, 22, 23, 24, 25, 54, 55, 56, 57, 58, 59, 60, 61, 62, 63, 64, 65, 66, 67, 68, 69, 70, 71, 72, 73, 74, 75, 76, 77, 78, 79, 80, 81, 82, 83, 84, 85, 86, 87, 88, 89, 90, 91, 92, 93, 94, 95, 96, 97, 98, 99, 100, 101, 102, 103, 104, 105, 106, 107, 108, 109, 110, 111, 112, 113, 114, 115, 116, 117, 118, 119, 120, 121, 122, 123, 124, 125, 126, 127, 128, 129, 130, 131] rfl (by decide +kernel)
set_option maxRecDepth 20000 in
theorem gX18_settle_X18_removeResource : GoodIn wsX18_settle (wsV RX18 671 RX18 yX18_removeResource wsX18_removeResource) := goodIn_app (goodIn_of _ (by decide +kernel)) ggX18_settle_X18_removeResource
set_option maxRecDepth 20000 in
theorem ggX18_settle_X18_findAccount : GoodIn wsX18_settle wsX18_findAccount := goodIn_r _ [29, 30, 31, 54, 55, 56, 57, 58, 59, 60, 61, 62, 63, 64, 65, 66, 67, 68, 69, 70, 71, 72, 73, 74, 75, 76, 77, 78, 79, 80, 81, 82, 83, 84, 85, 86, 87, 88, 89, 90, 91, 92, 93, 94, 95, 96, 97, 98, 99, 100, 101, 102, 103, 104, 105, 106, 107, 108, 109, 110, 111, 112, 113, 114, 115, 116, 117, 118, 119, 120, 121, 122, 123, 124, 125, 126, 127, 128, 129, 130, 131] rfl (by decide +kernel)
set_option maxRecDepth 20000 in
theorem gX18_settle_X18_findAccount : GoodIn wsX18_settle (wsV RX18 288 RX18 yX18_findAccount wsX18_findAccount) := goodIn_app (goodIn_of _ (by decide +kernel)) ggX18_settle_X18_findAccount
set_option maxRecDepth 20000 in
theorem ggX18_settle_X18_newAccount : GoodIn wsX18_settle wsX18_newAccount := goodIn_r _ [35, 31, 30, 8, 36, 54, 55, 56, 57, 58, 59, 60, 61, 62, 63, 64, 65, 66, 67, 68, 69, 70, 71, 72, 73, 74, 75, 76, 77, 78, 79, 80, 81, 82, 83, 84, 85, 86, 87, 88, 89, 90, 91, 92, 93, 94, 95, 96, 97, 98, 99, 100, 101, 102, 103, 104, 105, 106, 107, 108, 109, 110, 111, 112, 113, 114, 115, 116, 117, 118, 119, 120, 121, 122, 123, 124, 125, 126, 127, 128, 129, 130, 131] rfl (by decide +kernel)
set_option maxRecDepth 20000 in
theorem gX18_settle_X18_newAccount : GoodIn wsX18_settle (wsV RX18 623 RX18 yX18_newAccount wsX18_newAccount) := goodIn_app (goodIn_of _ (by decide +kernel)) ggX18_settle_X18_newAccount
set_option maxRecDepth 20000 in
theorem ggX18_settle_X18_keep : GoodIn wsX18_settle wsX18_keep := goodIn_r _ [40, 41, 42, 43, 44, 16, 45, 22, 46, 23, 24, 25, 47, 48, 49, 50, 51, 52, 53, 54, 55, 56, 57, 58, 59, 60, 61, 62, 63, 64, 65, 66, 67, 68, 69, 70, 71, 72, 73, 74, 75, 76, 77, 78, 79, 80, 81, 82, 83, 84, 85, 86, 87, 88, 89, 90, 91, 92, 93, 94, 95, 96, 97, 98, 99, 100, 101, 102, 103, 104, 105, 106, 107, 108, 109, 110, 111, 112, 113, 114, 115, 116, 117, 118, 119, 120, 121, 122, 123, 124, 125, 126, 127, 128, 129, 130, 131, 132, 133, 134, 135, 136, 137] rfl (by decide +kernel)
set_option maxRecDepth 20000 in
theorem gX18_settle_X18_keep : GoodIn wsX18_settle (wsV RX18 674 RX18 yX18_keep wsX18_keep) := goodIn_app (goodIn_of _ (by decide +kernel)) ggX18_settle_X18_keep
set_option maxRecDepth 20000 in
theorem ggX18_coins_X18_coinsIn : GoodIn wsX18_coins wsX18_coinsIn := goodIn_r _ [10, 11, 12, 13, 14, 15, 16, 17, 18, 19, 20, 21, 22, 23, 24, 25, 26, 27, 28, 29, 30, 31, 32, 33, 34, 35, 36, 37, 38, 39, 40, 41, 42, 43, 44, 45, 46, 47, 48, 49, 50, 51, 52, 53, 54, 55, 56, 57, 58, 59, 60, 61, 62, 63, 64, 65, 66, 67, 68, 69, 70, 71, 72, 73, 74, 75, 76, 77, 78, 79, 80, 81, 82, 83, 84, 85, 86, 87, 88, 89, 90, 91] rfl (by decide +kernel)
set_option maxRecDepth 20000 in
theorem gX18_coins_X18_coinsIn : GoodIn wsX18_coins (wsV RX18 680 RX18 yX18_coinsIn wsX18_coinsIn) := goodIn_app (goodIn_of _ (by decide +kernel)) ggX18_coins_X18_coinsIn
set_option maxRecDepth 20000 in
theorem ggX18_resource_X18_addBytes : GoodIn wsX18_resource wsX18_addBytes := goodIn_r _ [22, 23, 24, 25, 26, 8, 27, 28, 3, 29, 30, 31, 32, 33, 34, 16, 35, 36, 18, 37, 38, 39, 40, 41, 42, 43, 44, 45, 46, 47, 48, 49, 50, 51, 52, 53, 54, 55, 56, 57, 58, 59, 60, 61, 62, 63, 64, 65, 66, 67, 68, 69, 70, 71, 72, 73, 74, 75, 76, 77, 78, 79, 80, 81, 82, 83, 84, 85, 86, 87, 88, 89, 90, 91, 92, 93, 94, 95, 96, 97, 98, 99, 100, 101, 102, 103, 104, 105, 106, 107, 108, 109, 110, 111, 112, 113, 114, 115, 116, 117, 118, 119, 120, 121, 122, 123] rfl (by decide +kernel)
set_option maxRecDepth 20000 in
theorem gX18_resource_X18_addBytes : GoodIn wsX18_resource (wsV RX18 687 RX18 yX18_addBytes wsX18_addBytes) := goodIn_app (goodIn_of _ (by decide +kernel)) ggX18_resource_X18_addBytes
set_option maxRecDepth 20000 in
theorem ggX18_keepFour_X12_end : GoodIn wsX18_keepFour wsX12_end := goodIn_r _ [6, 7, 8, 9, 10, 11, 12, 13, 14, 15, 16, 17, 18, 19, 20, 5, 21, 22, 23, 24, 25, 26, 27, 28, 29, 30, 31, 32, 33, 34, 35, 36, 37, 124, 125, 126, 127] rfl (by decide +kernel)
set_option maxRecDepth 20000 in
theorem gX18_keepFour_X12_end : GoodIn wsX18_keepFour (wsV RX18 436 RX12 yX12_end wsX12_end) := goodIn_app (goodIn_of _ (by decide +kernel)) ggX18_keepFour_X12_end
set_option maxRecDepth 20000 in
theorem ggX18_keepFour_X12_four : GoodIn wsX18_keepFour wsX12_four := goodIn_r _ [41, 7, 124, 125, 126, 127] rfl (by decide +kernel)
set_option maxRecDepth 20000 in
theorem gX18_keepFour_X12_four : GoodIn wsX18_keepFour (wsV RX18 694 RX12 yX12_four wsX12_four) := goodIn_app (goodIn_of _ (by decide +kernel)) ggX18_keepFour_X12_four
set_option maxRecDepth 20000 in
theorem ggX18_keepFour_X12_begin : GoodIn wsX18_keepFour wsX12_begin := goodIn_r _ [45, 16, 124, 125, 126, 127] rfl (by decide +kernel)
set_option maxRecDepth 20000 in
theorem gX18_keepFour_X12_begin : GoodIn wsX18_keepFour (wsV RX18 433 RX12 yX12_begin wsX12_begin) := goodIn_app (goodIn_of _ (by decide +kernel)) ggX18_keepFour_X12_begin
set_option maxRecDepth 20000 in
theorem ggX18_root_X12_add : GoodIn wsX18_root wsX12_add := goodIn_r _ [29, 30, 25, 277, 278, 279, 280] rfl (by decide +kernel)
set_option maxRecDepth 20000 in
theorem gX18_root_X12_add : GoodIn wsX18_root (wsV RX18 98 RX12 yX12_add wsX12_add) := goodIn_app (goodIn_of _ (by decide +kernel)) ggX18_root_X12_add
set_option maxRecDepth 20000 in
theorem ggX18_root_X12_addNumber : GoodIn wsX18_root wsX12_addNumber := goodIn_r _ [34, 35, 27, 28, 23, 29, 30, 25, 277, 278, 279, 280] rfl (by decide +kernel)
set_option maxRecDepth 20000 in
theorem gX18_root_X12_addNumber : GoodIn wsX18_root (wsV RX18 102 RX12 yX12_addNumber wsX12_addNumber) := goodIn_app (goodIn_of _ (by decide +kernel)) ggX18_root_X12_addNumber
set_option maxRecDepth 20000 in
theorem ggX18_root_X18_keepFour : GoodIn wsX18_root wsX18_keepFour := goodIn_r _ [40, 2, 41, 42, 43, 23, 44, 45, 46, 47, 48, 49, 50, 51, 52, 53, 25, 54, 35, 27, 28, 29, 30, 55, 32, 33, 34, 56, 57, 58, 59, 60, 61, 62, 63, 64, 65, 66, 67, 68, 69, 70, 20, 21, 22, 24, 170, 171, 172, 173, 174, 175, 176, 177, 178, 179, 180, 181, 182, 183, 184, 185, 186, 187, 188, 189, 190, 191, 192, 193, 194, 195, 196, 197, 198, 199, 200, 201, 202, 203, 204, 205, 206, 207, 208, 209, 210, 211, 212, 213, 214, 215, 216, 217, 218, 219, 220, 221, 222, 223, 224, 225, 226, 227, 228, 229, 230, 231, 232, 233, 234, 235, 236, 237, 238, 239, 240, 241, 242, 243, 244, 245, 246, 247, 277, 278, 279, 280] rfl (by decide +kernel)
set_option maxRecDepth 20000 in
theorem gX18_root_X18_keepFour : GoodIn wsX18_root (wsV RX18 698 RX18 yX18_keepFour wsX18_keepFour) := goodIn_app (goodIn_of _ (by decide +kernel)) ggX18_root_X18_keepFour
set_option maxRecDepth 20000 in
theorem ggX18_root_X14_put : GoodIn wsX18_root wsX14_put := goodIn_r _ [74, 19, 75, 76, 77, 78, 79, 80, 81, 82, 17, 83, 84, 85, 86, 87, 88, 89, 90, 91, 92, 93, 94, 95, 96, 97, 98, 99, 266, 267, 268, 269, 270, 271, 272, 273, 274, 275, 276] rfl (by decide +kernel)
set_option maxRecDepth 20000 in
theorem gX18_root_X14_put : GoodIn wsX18_root (wsV RX18 702 RX14 yX14_put wsX14_put) := goodIn_app (goodIn_of _ (by decide +kernel)) ggX18_root_X14_put
set_option maxRecDepth 20000 in
theorem ggX18_root_X16_number : GoodIn wsX18_root wsX16_number := goodIn_r _ [104, 105, 106, 107, 103, 108, 109, 110, 111, 112, 113, 114, 248, 249, 250, 251, 252, 253, 254, 255, 256, 257, 258, 259, 260, 261, 262, 263, 264, 265] rfl (by decide +kernel)
set_option maxRecDepth 20000 in
theorem gX18_root_X16_number : GoodIn wsX18_root (wsV RX18 21 RX16 yX16_number wsX16_number) := goodIn_app (goodIn_of _ (by decide +kernel)) ggX18_root_X16_number
set_option maxRecDepth 20000 in
theorem ggX18_root_X18_addBytes : GoodIn wsX18_root wsX18_addBytes := goodIn_r _ [118, 119, 120, 121, 122, 39, 123, 124, 2, 125, 126, 127, 26, 27, 28, 23, 29, 30, 25, 31, 32, 33, 34, 35, 170, 171, 172, 173, 174, 175, 176, 177, 178, 179, 180, 181, 182, 183, 184, 185, 186, 187, 188, 189, 190, 191, 192, 193, 194, 195, 196, 197, 198, 199, 200, 201, 202, 203, 204, 205, 206, 207, 208, 209, 210, 211, 212, 213, 214, 215, 216, 217, 218, 219, 220, 221, 222, 223, 224, 225, 226, 227, 228, 229, 230, 231, 232, 233, 234, 235, 236, 237, 238, 239, 240, 241, 242, 243, 244, 245, 246, 247, 277, 278, 279, 280] rfl (by decide +kernel)
set_option maxRecDepth 20000 in
theorem gX18_root_X18_addBytes : GoodIn wsX18_root (wsV RX18 687 RX18 yX18_addBytes wsX18_addBytes) := goodIn_app (goodIn_of _ (by decide +kernel)) ggX18_root_X18_addBytes
