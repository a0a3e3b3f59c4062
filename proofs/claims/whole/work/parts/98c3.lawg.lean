section
set_option maxRecDepth 20000 in
theorem gL_law_X12_holdNode : GoodIn wsL_law (wsV RL 77 RX12 yX12_holdNode wsX12_holdNode) := goodIn_app (goodIn_of _ (by decide +kernel)) ggL_law_X12_holdNode
set_option maxRecDepth 20000 in
theorem ggL_law_X11_join : GoodIn wsL_law wsX11_join := goodIn_r _ [655, 15, 656, 206, 207, 14, 208, 81, 657, 658, 659, 2, 660, 661, 662, 663, 664, 665, 666, 667, 668, 10, 11, 669, 174, 175, 670, 23, 671, 672, 673, 182, 183, 184, 185, 186, 187, 188, 189, 66, 190, 191, 192, 193, 194, 195, 196, 197, 198, 199, 200, 674, 675, 676, 677, 678, 679, 680, 681, 682, 683, 684, 685, 686, 687, 688, 689, 690, 262, 263, 264, 265, 266, 36, 37, 38, 267, 268, 269, 273, 274, 691, 276, 277, 278, 221, 222, 692, 693, 694, 695, 696, 697, 698, 699, 700, 701, 702, 703, 704, 210, 211, 212, 213, 214, 215, 216, 217, 218, 219, 220, 223, 224, 225, 226, 227, 228, 229, 230, 231, 232, 233, 234, 235, 236, 237, 238, 239, 240, 241, 242, 243, 244, 245, 246, 247, 248, 705, 283, 284, 285, 286, 287, 288, 289, 290, 291, 292, 293, 294, 295, 296, 297, 298, 299, 300, 301, 302, 303, 271, 272, 706, 305, 306, 307, 707, 309, 310, 311, 395, 396, 397, 398, 105, 26, 827, 828, 829, 830, 831, 832, 833, 834, 922, 923, 924, 925, 926, 927, 928, 872, 873, 874, 875, 876, 877, 878, 879, 880, 889, 890, 891, 892, 893, 894, 895, 896, 897, 898, 899, 900] rfl (by decide +kernel)
set_option maxRecDepth 20000 in
theorem gL_law_X11_join : GoodIn wsL_law (wsV RL 78 RX11 yX11_join wsX11_join) := goodIn_app (goodIn_of _ (by decide +kernel)) ggL_law_X11_join
set_option maxRecDepth 20000 in
theorem ggL_law_X12_join : GoodIn wsL_law wsX12_join := goodIn_r _ [711, 62, 390, 92, 115, 63, 46, 43, 44, 45, 351, 352, 353, 5, 354, 86, 330, 331, 332, 333, 91, 334, 335, 336, 337, 51, 49, 55, 56, 57, 58, 338, 339, 340, 341, 342, 54, 343, 344, 345, 346, 53, 347, 348, 349, 350, 355, 356, 357, 358, 359, 360, 361, 59, 60, 362, 363, 364, 365, 366, 367, 368, 369, 370, 371, 372, 64, 373, 374, 375, 376, 61, 377, 378, 379, 380, 381, 382, 383, 384, 52, 385, 386, 387, 388, 389, 65, 835, 836, 837, 838, 839, 840, 841, 842, 843, 844, 845, 846, 847, 848, 849, 850, 851, 852, 853, 854, 855, 856, 857, 858, 859, 860, 861, 862, 863, 864, 865, 866, 867, 868, 869, 870, 871] rfl (by decide +kernel)
set_option maxRecDepth 20000 in
theorem gL_law_X12_join : GoodIn wsL_law (wsV RL 81 RX12 yX12_join wsX12_join) := goodIn_app (goodIn_of _ (by decide +kernel)) ggL_law_X12_join
set_option maxRecDepth 20000 in
theorem ggL_law_X11_joinArc : GoodIn wsL_law wsX11_joinArc := goodIn_r _ [715, 661, 674, 675, 676, 664, 677, 672, 673, 678, 679, 581, 582, 2, 583, 584, 273, 274, 827, 828, 829, 830, 831, 832, 833, 834, 922, 923, 924, 925, 926, 927, 928, 872, 873, 874, 875, 876, 877, 878, 879, 880] rfl (by decide +kernel)
set_option maxRecDepth 20000 in
theorem gL_law_X11_joinArc : GoodIn wsL_law (wsV RL 82 RX11 yX11_joinArc wsX11_joinArc) := goodIn_app (goodIn_of _ (by decide +kernel)) ggL_law_X11_joinArc
set_option maxRecDepth 20000 in
theorem ggL_law_X12_joinArc : GoodIn wsL_law wsX12_joinArc := goodIn_r _ [719, 92, 115, 63, 835, 836, 837, 838, 839, 840, 841, 842, 843, 844, 845, 846, 847, 848, 849, 850, 851, 852, 853, 854, 855, 856, 857, 858, 859, 860, 861, 862, 863, 864, 865, 866, 867, 868, 869, 870, 871] rfl (by decide +kernel)
set_option maxRecDepth 20000 in
theorem gL_law_X12_joinArc : GoodIn wsL_law (wsV RL 85 RX12 yX12_joinArc wsX12_joinArc) := goodIn_app (goodIn_of _ (by decide +kernel)) ggL_law_X12_joinArc
set_option maxRecDepth 20000 in
theorem ggL_law_X11_rank : GoodIn wsL_law wsX11_rank := goodIn_r _ [723, 15, 19, 97, 98, 99, 14, 100, 81, 724, 725, 726, 18, 727, 149, 34, 221, 2, 222, 827, 828, 829, 830, 831, 832, 833, 834, 872, 873, 874, 875, 876, 877, 878, 879, 880, 881, 882] rfl (by decide +kernel)
set_option maxRecDepth 20000 in
theorem gL_law_X11_rank : GoodIn wsL_law (wsV RL 86 RX11 yX11_rank wsX11_rank) := goodIn_app (goodIn_of _ (by decide +kernel)) ggL_law_X11_rank
set_option maxRecDepth 20000 in
theorem ggL_law_X12_rank : GoodIn wsL_law wsX12_rank := goodIn_r _ [731, 47, 116, 117, 118, 5, 119, 86, 835, 836, 837, 838, 839, 840, 841, 842, 843, 844, 845, 846, 847, 848, 849, 850, 851, 852, 853, 854, 855, 856, 857, 858, 859, 860, 861, 862, 863, 864, 865, 866, 867, 868, 869, 870, 871] rfl (by decide +kernel)
set_option maxRecDepth 20000 in
theorem gL_law_X12_rank : GoodIn wsL_law (wsV RL 89 RX12 yX12_rank wsX12_rank) := goodIn_app (goodIn_of _ (by decide +kernel)) ggL_law_X12_rank
set_option maxRecDepth 20000 in
theorem ggL_law_X11_stable : GoodIn wsL_law wsX11_stable := goodIn_r _ [735, 15, 736, 737, 738, 2, 739, 740, 741, 742, 743, 19, 744, 745, 746, 747, 10, 11, 66, 748, 23, 749, 750, 751, 752, 753, 754, 755, 756, 757, 758, 759, 760, 761, 762, 763, 764, 765, 766, 300, 301, 302, 767, 268, 37, 269, 221, 222, 273, 274, 768, 769, 770, 771, 219, 220, 772, 773, 774, 775, 776, 777, 778, 779, 780, 206, 207, 14, 208, 81, 232, 233, 234, 235, 236, 237, 238, 239, 240, 781, 782, 783, 784, 785, 786, 787, 788, 827, 828, 829, 830, 831, 832, 833, 834, 872, 873, 874, 875, 876, 877, 878, 879, 880, 929, 930, 931, 932, 933, 934, 935, 936, 937, 938, 881, 882] rfl (by decide +kernel)
set_option maxRecDepth 20000 in
theorem gL_law_X11_stable : GoodIn wsL_law (wsV RL 90 RX11 yX11_stable wsX11_stable) := goodIn_app (goodIn_of _ (by decide +kernel)) ggL_law_X11_stable
set_option maxRecDepth 20000 in
theorem ggL_law_X12_stable : GoodIn wsL_law wsX12_stable := goodIn_r _ [792, 86, 793, 794, 795, 796, 5, 797, 798, 70, 71, 69, 799, 800, 801, 802, 115, 43, 44, 46, 47, 803, 804, 805, 806, 807, 808, 809, 810, 811, 812, 813, 814, 815, 816, 817, 818, 835, 836, 837, 838, 839, 840, 841, 842, 843, 844, 845, 846, 847, 848, 849, 850, 851, 852, 853, 854, 855, 856, 857, 858, 859, 860, 861, 862, 863, 864, 865, 866, 867, 868, 869, 870, 871] rfl (by decide +kernel)
set_option maxRecDepth 20000 in
theorem gL_law_X12_stable : GoodIn wsL_law (wsV RL 93 RX12 yX12_stable wsX12_stable) := goodIn_app (goodIn_of _ (by decide +kernel)) ggL_law_X12_stable
set_option maxRecDepth 20000 in
theorem ggL_law_X11_stableMate : GoodIn wsL_law wsX11_stableMate := goodIn_r _ [822, 15, 97, 98, 99, 14, 100, 81, 736, 737, 738, 2, 739, 740, 741, 742, 743, 19, 744, 745, 746, 747, 10, 11, 66, 748, 23, 749, 750, 751, 752, 753, 754, 755, 756, 757, 758, 759, 760, 761, 762, 763, 764, 765, 766, 300, 301, 302, 767, 268, 37, 269, 221, 222, 273, 274, 768, 769, 770, 771, 219, 220, 772, 773, 774, 775, 776, 777, 778, 779, 780, 206, 207, 208, 232, 233, 234, 235, 236, 237, 238, 239, 240, 781, 782, 783, 784, 785, 786, 787, 788, 407, 408, 409, 410, 105, 24, 25, 827, 828, 829, 830, 831, 832, 833, 834, 872, 873, 874, 875, 876, 877, 878, 879, 880, 929, 930, 931, 932, 933, 934, 935, 936, 937, 938, 881, 882] rfl (by decide +kernel)
set_option maxRecDepth 20000 in
theorem gL_law_X11_stableMate : GoodIn wsL_law (wsV RL 94 RX11 yX11_stableMate wsX11_stableMate) := goodIn_app (goodIn_of _ (by decide +kernel)) ggL_law_X11_stableMate
set_option maxRecDepth 20000 in
theorem ggL_law_X12_stableMate : GoodIn wsL_law wsX12_stableMate := goodIn_r _ [826, 86, 793, 115, 798, 43, 44, 116, 117, 118, 5, 119, 794, 795, 796, 797, 70, 71, 69, 799, 800, 801, 802, 46, 47, 803, 804, 805, 806, 807, 808, 809, 810, 811, 812, 813, 814, 815, 816, 817, 818, 835, 836, 837, 838, 839, 840, 841, 842, 843, 844, 845, 846, 847, 848, 849, 850, 851, 852, 853, 854, 855, 856, 857, 858, 859, 860, 861, 862, 863, 864, 865, 866, 867, 868, 869, 870, 871] rfl (by decide +kernel)
set_option maxRecDepth 20000 in
theorem gL_law_X12_stableMate : GoodIn wsL_law (wsV RL 97 RX12 yX12_stableMate wsX12_stableMate) := goodIn_app (goodIn_of _ (by decide +kernel)) ggL_law_X12_stableMate
end
