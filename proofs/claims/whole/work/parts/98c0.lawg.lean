section
set_option maxRecDepth 20000 in
theorem ggL_law_X11_init : GoodIn wsL_law wsX11_init := goodIn_r _ [8, 9, 10, 11, 12, 13, 14, 15, 16, 17, 18, 19, 20, 21, 22, 23, 24, 25, 26, 27, 28, 29, 30, 31, 32, 33, 34, 35, 36, 37, 38, 872, 873, 874, 875, 876, 877, 878, 879, 880, 827, 828, 829, 830, 831, 832, 833, 834, 881, 882] rfl (by decide +kernel)
set_option maxRecDepth 20000 in
theorem gL_law_X11_init : GoodIn wsL_law (wsX11_init) := ggL_law_X11_init
set_option maxRecDepth 20000 in
theorem ggL_law_X12_init : GoodIn wsL_law wsX12_init := goodIn_r _ [41, 42, 10, 11, 23, 43, 44, 45, 27, 46, 47, 48, 49, 50, 51, 52, 53, 54, 55, 56, 57, 58, 59, 60, 61, 62, 63, 64, 65, 66, 67, 68, 69, 70, 71, 835, 836, 837, 838, 839, 840, 841, 842, 843, 844, 845, 846, 847, 848, 849, 850, 851, 852, 853, 854, 855, 856, 857, 858, 859, 860, 861, 862, 863, 864, 865, 866, 867, 868, 869, 870, 871] rfl (by decide +kernel)
set_option maxRecDepth 20000 in
theorem gL_law_X12_init : GoodIn wsL_law (wsX12_init) := ggL_law_X12_init
set_option maxRecDepth 20000 in
theorem ggL_law_X11_node : GoodIn wsL_law wsX11_node := goodIn_r _ [75, 15, 76, 77, 78, 14, 79, 80, 81, 827, 828, 829, 830, 831, 832, 833, 834, 872, 873, 874, 875, 876, 877, 878, 879, 880] rfl (by decide +kernel)
set_option maxRecDepth 20000 in
theorem gL_law_X11_node : GoodIn wsL_law (wsV RL 13 RX11 yX11_node wsX11_node) := goodIn_app (goodIn_of _ (by decide +kernel)) ggL_law_X11_node
set_option maxRecDepth 20000 in
theorem ggL_law_X12_node : GoodIn wsL_law wsX12_node := goodIn_r _ [85, 86, 47, 87, 88, 89, 5, 90, 91, 92, 835, 836, 837, 838, 839, 840, 841, 842, 843, 844, 845, 846, 847, 848, 849, 850, 851, 852, 853, 854, 855, 856, 857, 858, 859, 860, 861, 862, 863, 864, 865, 866, 867, 868, 869, 870, 871] rfl (by decide +kernel)
set_option maxRecDepth 20000 in
theorem gL_law_X12_node : GoodIn wsL_law (wsV RL 17 RX12 yX12_node wsX12_node) := goodIn_app (goodIn_of _ (by decide +kernel)) ggL_law_X12_node
set_option maxRecDepth 20000 in
theorem ggL_law_X11_arc : GoodIn wsL_law wsX11_arc := goodIn_r _ [96, 15, 97, 98, 99, 14, 100, 81, 101, 102, 103, 104, 80, 105, 106, 24, 25, 26, 28, 107, 108, 109, 110, 29, 827, 828, 829, 830, 831, 832, 833, 834, 872, 873, 874, 875, 876, 877, 878, 879, 880] rfl (by decide +kernel)
set_option maxRecDepth 20000 in
theorem gL_law_X11_arc : GoodIn wsL_law (wsV RL 18 RX11 yX11_arc wsX11_arc) := goodIn_app (goodIn_of _ (by decide +kernel)) ggL_law_X11_arc
set_option maxRecDepth 20000 in
theorem ggL_law_X12_arc : GoodIn wsL_law wsX12_arc := goodIn_r _ [114, 115, 43, 44, 45, 46, 116, 117, 118, 5, 119, 86, 87, 88, 89, 90, 91, 92, 835, 836, 837, 838, 839, 840, 841, 842, 843, 844, 845, 846, 847, 848, 849, 850, 851, 852, 853, 854, 855, 856, 857, 858, 859, 860, 861, 862, 863, 864, 865, 866, 867, 868, 869, 870, 871] rfl (by decide +kernel)
set_option maxRecDepth 20000 in
theorem gL_law_X12_arc : GoodIn wsL_law (wsV RL 22 RX12 yX12_arc wsX12_arc) := goodIn_app (goodIn_of _ (by decide +kernel)) ggL_law_X12_arc
set_option maxRecDepth 20000 in
theorem ggL_law_X11_cut : GoodIn wsL_law wsX11_cut := goodIn_r _ [123, 15, 124, 125, 126, 14, 127, 105, 28, 128, 129, 130, 131, 80, 106, 29, 132, 36, 37, 38, 107, 108, 109, 110, 24, 25, 827, 828, 829, 830, 831, 832, 833, 834, 872, 873, 874, 875, 876, 877, 878, 879, 880] rfl (by decide +kernel)
set_option maxRecDepth 20000 in
theorem gL_law_X11_cut : GoodIn wsL_law (wsV RL 23 RX11 yX11_cut wsX11_cut) := goodIn_app (goodIn_of _ (by decide +kernel)) ggL_law_X11_cut
set_option maxRecDepth 20000 in
theorem ggL_law_X12_cut : GoodIn wsL_law wsX12_cut := goodIn_r _ [136, 115, 46, 87, 88, 89, 5, 90, 91, 92, 835, 836, 837, 838, 839, 840, 841, 842, 843, 844, 845, 846, 847, 848, 849, 850, 851, 852, 853, 854, 855, 856, 857, 858, 859, 860, 861, 862, 863, 864, 865, 866, 867, 868, 869, 870, 871] rfl (by decide +kernel)
set_option maxRecDepth 20000 in
theorem gL_law_X12_cut : GoodIn wsL_law (wsV RL 27 RX12 yX12_cut wsX12_cut) := goodIn_app (goodIn_of _ (by decide +kernel)) ggL_law_X12_cut
set_option maxRecDepth 20000 in
theorem ggL_law_X11_clear : GoodIn wsL_law wsX11_clear := goodIn_r _ [140, 15, 19, 141, 142, 143, 14, 144, 80, 81, 105, 106, 29, 132, 36, 37, 38, 145, 146, 147, 18, 148, 149, 34, 35, 827, 828, 829, 830, 831, 832, 833, 834, 872, 873, 874, 875, 876, 877, 878, 879, 880, 881, 882] rfl (by decide +kernel)
set_option maxRecDepth 20000 in
theorem gL_law_X11_clear : GoodIn wsL_law (wsV RL 28 RX11 yX11_clear wsX11_clear) := goodIn_app (goodIn_of _ (by decide +kernel)) ggL_law_X11_clear
set_option maxRecDepth 20000 in
theorem ggL_law_X12_clear : GoodIn wsL_law wsX12_clear := goodIn_r _ [153, 86, 115, 87, 88, 89, 5, 90, 91, 92, 835, 836, 837, 838, 839, 840, 841, 842, 843, 844, 845, 846, 847, 848, 849, 850, 851, 852, 853, 854, 855, 856, 857, 858, 859, 860, 861, 862, 863, 864, 865, 866, 867, 868, 869, 870, 871] rfl (by decide +kernel)
set_option maxRecDepth 20000 in
theorem gL_law_X12_clear : GoodIn wsL_law (wsV RL 31 RX12 yX12_clear wsX12_clear) := goodIn_app (goodIn_of _ (by decide +kernel)) ggL_law_X12_clear
set_option maxRecDepth 20000 in
theorem ggL_law_X11_pairs : GoodIn wsL_law wsX11_pairs := goodIn_r _ [157, 158, 159, 2, 160, 161, 162, 163, 164, 165, 166, 167, 168, 15, 169, 170, 171, 172, 10, 11, 173, 174, 175, 176, 27, 177, 178, 66, 179, 180, 181, 182, 183, 184, 185, 186, 187, 188, 23, 189, 190, 191, 192, 193, 194, 195, 196, 197, 198, 199, 200, 201, 202, 203, 204, 205, 206, 207, 14, 208, 81, 209, 210, 211, 212, 213, 214, 215, 216, 217, 218, 219, 220, 221, 222, 223, 224, 225, 226, 227, 228, 229, 230, 231, 232, 233, 234, 235, 236, 237, 238, 239, 240, 241, 242, 243, 244, 245, 246, 247, 248, 249, 250, 251, 252, 253, 254, 255, 256, 257, 258, 259, 260, 261, 262, 263, 264, 265, 266, 36, 37, 38, 267, 268, 269, 270, 271, 272, 273, 274, 275, 276, 277, 278, 279, 280, 281, 282, 283, 284, 285, 286, 287, 288, 289, 290, 291, 292, 293, 294, 295, 296, 297, 298, 299, 300, 301, 302, 303, 304, 305, 306, 307, 308, 309, 310, 311, 312, 313, 314, 315, 316, 317, 318, 319, 320, 321, 322, 827, 828, 829, 830, 831, 832, 833, 834, 883, 884, 885, 886, 887, 888, 889, 890, 891, 892, 893, 894, 895, 896, 897, 898, 899, 900, 872, 873, 874, 875, 876, 877, 878, 879, 880] rfl (by decide +kernel)
end
