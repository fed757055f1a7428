set_option maxRecDepth 20000 in
theorem ggL_law_X5_init : GoodIn wsL_law wsX5_init := goodIn_r _ [8, 9, 10, 11, 12, 13, 14, 15, 16, 17, 18, 19, 20, 21, 22, 23, 24, 25, 26, 27, 28, 29, 30, 31, 32, 33, 34, 35, 36, 37, 38, 39, 40, 41, 42, 43, 44, 45, 46, 47, 48, 49, 50, 51, 52, 53, 54, 55, 56, 57, 58, 59, 60, 61, 62, 63, 64, 65, 66, 67, 68, 69, 70, 71, 72, 73, 74, 75, 76, 77, 78, 79, 80, 81, 82, 83, 84, 85, 86, 87, 88, 89, 90, 91, 92, 93, 94, 95, 96, 97, 98, 99, 100, 101, 102, 907, 908, 909, 910, 911, 912, 913, 873, 874, 875, 876, 877, 878, 879, 880, 881, 882, 883, 884, 914, 915, 916, 917, 918, 919, 920, 921, 922, 923, 924, 925, 926, 927, 928, 929, 930, 931, 932, 933, 934, 935, 936, 937, 938, 939, 940, 941, 942, 943, 944, 945] (by decide +kernel) (by decide +kernel)
set_option maxRecDepth 20000 in
theorem gL_law_X5_init : GoodIn wsL_law (wsX5_init) := ggL_law_X5_init
set_option maxRecDepth 20000 in
theorem ggL_law_X6_init : GoodIn wsL_law wsX6_init := goodIn_r _ [105, 106, 10, 11, 23, 107, 108, 17, 109, 110, 111, 112, 113, 114, 115, 116, 117, 118, 119, 120, 121, 122, 123, 124, 125, 126, 5, 127, 885, 886, 887, 888, 889, 890, 891, 892, 893, 894, 895, 896, 897, 898, 899, 900, 901, 902, 903, 904, 905, 906] (by decide +kernel) (by decide +kernel)
set_option maxRecDepth 20000 in
theorem gL_law_X6_init : GoodIn wsL_law (wsX6_init) := ggL_law_X6_init
set_option maxRecDepth 20000 in
theorem ggL_law_X5_begin : GoodIn wsL_law wsX5_begin := goodIn_r _ [131, 15, 132, 133, 25, 134, 135, 136, 14, 137, 42, 43, 44, 45, 46, 49, 50, 51, 52, 53, 873, 874, 875, 876, 877, 878, 879, 880, 881, 882, 883, 884, 907, 908, 909, 910, 911, 912, 913] (by decide +kernel) (by decide +kernel)
set_option maxRecDepth 20000 in
theorem gL_law_X5_begin : GoodIn wsL_law (wsV RL 13 RX5 yX5_begin wsX5_begin) := goodIn_app (goodIn_of _ (by decide +kernel)) ggL_law_X5_begin
set_option maxRecDepth 20000 in
theorem ggL_law_X6_begin : GoodIn wsL_law wsX6_begin := goodIn_r _ [141, 107, 142, 143, 144, 5, 145, 124, 125, 126, 127, 885, 886, 887, 888, 889, 890, 891, 892, 893, 894, 895, 896, 897, 898, 899, 900, 901, 902, 903, 904, 905, 906] (by decide +kernel) (by decide +kernel)
set_option maxRecDepth 20000 in
theorem gL_law_X6_begin : GoodIn wsL_law (wsV RL 17 RX6 yX6_begin wsX6_begin) := goodIn_app (goodIn_of _ (by decide +kernel)) ggL_law_X6_begin
set_option maxRecDepth 20000 in
theorem ggL_law_X5_setArrow : GoodIn wsL_law wsX5_setArrow := goodIn_r _ [149, 15, 150, 151, 152, 14, 153, 154, 155, 156, 157, 42, 158, 159, 160, 161, 43, 162, 163, 164, 2, 165, 166, 167, 168, 169, 170, 171, 172, 173, 174, 175, 176, 873, 874, 875, 876, 877, 878, 879, 880, 881, 882, 883, 884, 907, 908, 909, 910, 911, 912, 913] (by decide +kernel) (by decide +kernel)
set_option maxRecDepth 20000 in
theorem gL_law_X5_setArrow : GoodIn wsL_law (wsV RL 18 RX5 yX5_setArrow wsX5_setArrow) := goodIn_app (goodIn_of _ (by decide +kernel)) ggL_law_X5_setArrow
set_option maxRecDepth 20000 in
theorem ggL_law_X6_setArrow : GoodIn wsL_law wsX6_setArrow := goodIn_r _ [180, 181, 182, 183, 5, 184, 107, 143, 144, 145, 185, 186, 187, 188, 189, 190, 191, 192, 885, 886, 887, 888, 889, 890, 891, 892, 893, 894, 895, 896, 897, 898, 899, 900, 901, 902, 903, 904, 905, 906] (by decide +kernel) (by decide +kernel)
set_option maxRecDepth 20000 in
theorem gL_law_X6_setArrow : GoodIn wsL_law (wsV RL 22 RX6 yX6_setArrow wsX6_setArrow) := goodIn_app (goodIn_of _ (by decide +kernel)) ggL_law_X6_setArrow
set_option maxRecDepth 20000 in
theorem ggL_law_X5_removeArrow : GoodIn wsL_law wsX5_removeArrow := goodIn_r _ [196, 15, 150, 151, 152, 14, 153, 154, 155, 156, 157, 42, 158, 159, 160, 161, 43, 166, 167, 2, 168, 172, 173, 174, 175, 176, 873, 874, 875, 876, 877, 878, 879, 880, 881, 882, 883, 884, 907, 908, 909, 910, 911, 912, 913] (by decide +kernel) (by decide +kernel)
set_option maxRecDepth 20000 in
theorem gL_law_X5_removeArrow : GoodIn wsL_law (wsV RL 23 RX5 yX5_removeArrow wsX5_removeArrow) := goodIn_app (goodIn_of _ (by decide +kernel)) ggL_law_X5_removeArrow
set_option maxRecDepth 20000 in
theorem ggL_law_X6_removeArrow : GoodIn wsL_law wsX6_removeArrow := goodIn_r _ [200, 181, 182, 183, 5, 184, 107, 143, 144, 145, 185, 186, 187, 188, 189, 190, 191, 192, 885, 886, 887, 888, 889, 890, 891, 892, 893, 894, 895, 896, 897, 898, 899, 900, 901, 902, 903, 904, 905, 906] (by decide +kernel) (by decide +kernel)
set_option maxRecDepth 20000 in
theorem gL_law_X6_removeArrow : GoodIn wsL_law (wsV RL 26 RX6 yX6_removeArrow wsX6_removeArrow) := goodIn_app (goodIn_of _ (by decide +kernel)) ggL_law_X6_removeArrow
set_option maxRecDepth 20000 in
theorem ggL_law_X5_addFeature : GoodIn wsL_law wsX5_addFeature := goodIn_r _ [204, 15, 205, 206, 207, 208, 14, 209, 44, 48, 50, 51, 52, 53, 210, 211, 212, 213, 45, 873, 874, 875, 876, 877, 878, 879, 880, 881, 882, 883, 884, 907, 908, 909, 910, 911, 912, 913] (by decide +kernel) (by decide +kernel)
set_option maxRecDepth 20000 in
theorem gL_law_X5_addFeature : GoodIn wsL_law (wsV RL 27 RX5 yX5_addFeature wsX5_addFeature) := goodIn_app (goodIn_of _ (by decide +kernel)) ggL_law_X5_addFeature
set_option maxRecDepth 20000 in
theorem ggL_law_X6_addFeature : GoodIn wsL_law wsX6_addFeature := goodIn_r _ [217, 107, 218, 219, 5, 220, 221, 222, 223, 224, 885, 886, 887, 888, 889, 890, 891, 892, 893, 894, 895, 896, 897, 898, 899, 900, 901, 902, 903, 904, 905, 906] (by decide +kernel) (by decide +kernel)
set_option maxRecDepth 20000 in
theorem gL_law_X6_addFeature : GoodIn wsL_law (wsV RL 31 RX6 yX6_addFeature wsX6_addFeature) := goodIn_app (goodIn_of _ (by decide +kernel)) ggL_law_X6_addFeature
set_option maxRecDepth 20000 in
theorem ggL_law_X5_change : GoodIn wsL_law wsX5_change := goodIn_r _ [228, 15, 229, 230, 231, 232, 14, 233, 44, 150, 151, 152, 153, 154, 155, 156, 157, 42, 158, 159, 160, 161, 43, 162, 163, 164, 2, 165, 166, 167, 168, 169, 170, 171, 234, 235, 236, 237, 48, 873, 874, 875, 876, 877, 878, 879, 880, 881, 882, 883, 884, 907, 908, 909, 910, 911, 912, 913] (by decide +kernel) (by decide +kernel)
set_option maxRecDepth 20000 in
theorem gL_law_X5_change : GoodIn wsL_law (wsV RL 32 RX5 yX5_change wsX5_change) := goodIn_app (goodIn_of _ (by decide +kernel)) ggL_law_X5_change
set_option maxRecDepth 20000 in
theorem ggL_law_X6_change : GoodIn wsL_law wsX6_change := goodIn_r _ [241, 107, 242, 243, 244, 5, 245, 143, 144, 145, 181, 182, 183, 184, 185, 186, 187, 188, 218, 219, 220, 246, 247, 248, 249, 885, 886, 887, 888, 889, 890, 891, 892, 893, 894, 895, 896, 897, 898, 899, 900, 901, 902, 903, 904, 905, 906] (by decide +kernel) (by decide +kernel)
set_option maxRecDepth 20000 in
theorem gL_law_X6_change : GoodIn wsL_law (wsV RL 36 RX6 yX6_change wsX6_change) := goodIn_app (goodIn_of _ (by decide +kernel)) ggL_law_X6_change
set_option maxRecDepth 20000 in
theorem ggL_law_X5_changeToNone : GoodIn wsL_law wsX5_changeToNone := goodIn_r _ [253, 15, 229, 230, 231, 232, 14, 233, 44, 150, 151, 152, 153, 154, 155, 156, 157, 42, 158, 159, 160, 161, 43, 166, 167, 2, 168, 234, 235, 236, 237, 48, 873, 874, 875, 876, 877, 878, 879, 880, 881, 882, 883, 884, 907, 908, 909, 910, 911, 912, 913] (by decide +kernel) (by decide +kernel)
set_option maxRecDepth 20000 in
theorem gL_law_X5_changeToNone : GoodIn wsL_law (wsV RL 37 RX5 yX5_changeToNone wsX5_changeToNone) := goodIn_app (goodIn_of _ (by decide +kernel)) ggL_law_X5_changeToNone
set_option maxRecDepth 20000 in
theorem ggL_law_X6_changeToNone : GoodIn wsL_law wsX6_changeToNone := goodIn_r _ [257, 107, 242, 243, 244, 5, 245, 143, 144, 145, 181, 182, 183, 184, 185, 186, 187, 188, 218, 219, 220, 246, 247, 248, 249, 885, 886, 887, 888, 889, 890, 891, 892, 893, 894, 895, 896, 897, 898, 899, 900, 901, 902, 903, 904, 905, 906] (by decide +kernel) (by decide +kernel)
set_option maxRecDepth 20000 in
theorem gL_law_X6_changeToNone : GoodIn wsL_law (wsV RL 41 RX6 yX6_changeToNone wsX6_changeToNone) := goodIn_app (goodIn_of _ (by decide +kernel)) ggL_law_X6_changeToNone
set_option maxRecDepth 20000 in
theorem ggL_law_X5_unchange : GoodIn wsL_law wsX5_unchange := goodIn_r _ [261, 15, 229, 230, 231, 232, 14, 233, 44, 150, 151, 152, 153, 154, 155, 156, 157, 42, 158, 159, 160, 161, 43, 166, 167, 2, 168, 234, 235, 236, 237, 48, 873, 874, 875, 876, 877, 878, 879, 880, 881, 882, 883, 884, 907, 908, 909, 910, 911, 912, 913] (by decide +kernel) (by decide +kernel)
set_option maxRecDepth 20000 in
theorem gL_law_X5_unchange : GoodIn wsL_law (wsV RL 42 RX5 yX5_unchange wsX5_unchange) := goodIn_app (goodIn_of _ (by decide +kernel)) ggL_law_X5_unchange
set_option maxRecDepth 20000 in
theorem ggL_law_X6_unchange : GoodIn wsL_law wsX6_unchange := goodIn_r _ [265, 242, 243, 244, 5, 245, 107, 143, 144, 145, 181, 182, 183, 184, 185, 186, 187, 188, 218, 219, 220, 189, 190, 191, 192, 246, 247, 248, 249, 885, 886, 887, 888, 889, 890, 891, 892, 893, 894, 895, 896, 897, 898, 899, 900, 901, 902, 903, 904, 905, 906] (by decide +kernel) (by decide +kernel)
set_option maxRecDepth 20000 in
theorem gL_law_X6_unchange : GoodIn wsL_law (wsV RL 45 RX6 yX6_unchange wsX6_unchange) := goodIn_app (goodIn_of _ (by decide +kernel)) ggL_law_X6_unchange
set_option maxRecDepth 20000 in
theorem ggL_law_X5_setOn : GoodIn wsL_law wsX5_setOn := goodIn_r _ [269, 15, 230, 231, 232, 14, 233, 44, 270, 271, 272, 273, 45, 274, 2, 275, 276, 211, 212, 213, 873, 874, 875, 876, 877, 878, 879, 880, 881, 882, 883, 884, 907, 908, 909, 910, 911, 912, 913] (by decide +kernel) (by decide +kernel)
set_option maxRecDepth 20000 in
theorem gL_law_X5_setOn : GoodIn wsL_law (wsV RL 46 RX5 yX5_setOn wsX5_setOn) := goodIn_app (goodIn_of _ (by decide +kernel)) ggL_law_X5_setOn
set_option maxRecDepth 20000 in
theorem ggL_law_X6_setOn : GoodIn wsL_law wsX6_setOn := goodIn_r _ [280, 242, 243, 244, 5, 245, 107, 143, 144, 145, 218, 219, 220, 281, 282, 283, 284, 885, 886, 887, 888, 889, 890, 891, 892, 893, 894, 895, 896, 897, 898, 899, 900, 901, 902, 903, 904, 905, 906] (by decide +kernel) (by decide +kernel)
set_option maxRecDepth 20000 in
theorem gL_law_X6_setOn : GoodIn wsL_law (wsV RL 50 RX6 yX6_setOn wsX6_setOn) := goodIn_app (goodIn_of _ (by decide +kernel)) ggL_law_X6_setOn
set_option maxRecDepth 20000 in
theorem ggL_law_X5_features : GoodIn wsL_law wsX5_features := goodIn_r _ [288, 15, 205, 873, 874, 875, 876, 877, 878, 879, 880, 881, 882, 883, 884, 907, 908, 909, 910, 911, 912, 913] (by decide +kernel) (by decide +kernel)
set_option maxRecDepth 20000 in
theorem gL_law_X5_features : GoodIn wsL_law (wsV RL 51 RX5 yX5_features wsX5_features) := goodIn_app (goodIn_of _ (by decide +kernel)) ggL_law_X5_features
set_option maxRecDepth 20000 in
theorem ggL_law_X6_features : GoodIn wsL_law wsX6_features := goodIn_r _ [292, 107, 885, 886, 887, 888, 889, 890, 891, 892, 893, 894, 895, 896, 897, 898, 899, 900, 901, 902, 903, 904, 905, 906] (by decide +kernel) (by decide +kernel)
set_option maxRecDepth 20000 in
theorem gL_law_X6_features : GoodIn wsL_law (wsV RL 54 RX6 yX6_features wsX6_features) := goodIn_app (goodIn_of _ (by decide +kernel)) ggL_law_X6_features
set_option maxRecDepth 20000 in
theorem ggL_law_X5_changes : GoodIn wsL_law wsX5_changes := goodIn_r _ [296, 15, 230, 231, 232, 14, 233, 44, 234, 235, 236, 237, 48, 873, 874, 875, 876, 877, 878, 879, 880, 881, 882, 883, 884, 907, 908, 909, 910, 911, 912, 913] (by decide +kernel) (by decide +kernel)
set_option maxRecDepth 20000 in
theorem gL_law_X5_changes : GoodIn wsL_law (wsV RL 55 RX5 yX5_changes wsX5_changes) := goodIn_app (goodIn_of _ (by decide +kernel)) ggL_law_X5_changes
set_option maxRecDepth 20000 in
theorem ggL_law_X6_changes : GoodIn wsL_law wsX6_changes := goodIn_r _ [300, 242, 243, 244, 5, 245, 107, 143, 144, 145, 246, 247, 248, 249, 218, 219, 220, 885, 886, 887, 888, 889, 890, 891, 892, 893, 894, 895, 896, 897, 898, 899, 900, 901, 902, 903, 904, 905, 906] (by decide +kernel) (by decide +kernel)
set_option maxRecDepth 20000 in
theorem gL_law_X6_changes : GoodIn wsL_law (wsV RL 59 RX6 yX6_changes wsX6_changes) := goodIn_app (goodIn_of _ (by decide +kernel)) ggL_law_X6_changes
set_option maxRecDepth 20000 in
theorem ggL_law_X5_append : GoodIn wsL_law wsX5_append := goodIn_r _ [304, 22, 305, 306, 873, 874, 875, 876, 877, 878, 879, 880, 881, 882, 883, 884, 914, 915, 916, 917, 918, 919, 920, 921, 922, 923] (by decide +kernel) (by decide +kernel)
set_option maxRecDepth 20000 in
theorem gL_law_X5_append : GoodIn wsL_law (wsV RL 60 RX5 yX5_append wsX5_append) := goodIn_app (goodIn_of _ (by decide +kernel)) ggL_law_X5_append
set_option maxRecDepth 20000 in
theorem ggL_law_X6_append : GoodIn wsL_law wsX6_append := goodIn_r _ [310, 311, 111, 143, 144, 5, 145, 885, 886, 887, 888, 889, 890, 891, 892, 893, 894, 895, 896, 897, 898, 899, 900, 901, 902, 903, 904, 905, 906] (by decide +kernel) (by decide +kernel)
set_option maxRecDepth 20000 in
theorem gL_law_X6_append : GoodIn wsL_law (wsV RL 63 RX6 yX6_append wsX6_append) := goodIn_app (goodIn_of _ (by decide +kernel)) ggL_law_X6_append
set_option maxRecDepth 20000 in
theorem ggL_law_X5_clearText : GoodIn wsL_law wsX5_clearText := goodIn_r _ [315, 22, 305, 873, 874, 875, 876, 877, 878, 879, 880, 881, 882, 883, 884, 914, 915, 916, 917, 918, 919, 920, 921, 922, 923] (by decide +kernel) (by decide +kernel)
set_option maxRecDepth 20000 in
theorem gL_law_X5_clearText : GoodIn wsL_law (wsV RL 64 RX5 yX5_clearText wsX5_clearText) := goodIn_app (goodIn_of _ (by decide +kernel)) ggL_law_X5_clearText
set_option maxRecDepth 20000 in
theorem ggL_law_X6_clearText : GoodIn wsL_law wsX6_clearText := goodIn_r _ [319, 311, 885, 886, 887, 888, 889, 890, 891, 892, 893, 894, 895, 896, 897, 898, 899, 900, 901, 902, 903, 904, 905, 906] (by decide +kernel) (by decide +kernel)
set_option maxRecDepth 20000 in
theorem gL_law_X6_clearText : GoodIn wsL_law (wsV RL 67 RX6 yX6_clearText wsX6_clearText) := goodIn_app (goodIn_of _ (by decide +kernel)) ggL_law_X6_clearText
set_option maxRecDepth 20000 in
theorem ggL_law_X5_faultPosition : GoodIn wsL_law wsX5_faultPosition := goodIn_r _ [323, 22, 15, 132, 133, 324, 325, 326, 21, 327, 61, 62, 63, 60, 59, 58, 57, 328, 51, 52, 53, 329, 330, 331, 332, 333, 334, 335, 336, 64, 337, 338, 339, 340, 65, 167, 2, 168, 341, 342, 343, 344, 345, 346, 347, 348, 66, 349, 350, 351, 352, 164, 165, 170, 171, 873, 874, 875, 876, 877, 878, 879, 880, 881, 882, 883, 884, 907, 908, 909, 910, 911, 912, 913, 914, 915, 916, 917, 918, 919, 920, 921, 922, 923] (by decide +kernel) (by decide +kernel)
set_option maxRecDepth 20000 in
theorem gL_law_X5_faultPosition : GoodIn wsL_law (wsV RL 68 RX5 yX5_faultPosition wsX5_faultPosition) := goodIn_app (goodIn_of _ (by decide +kernel)) ggL_law_X5_faultPosition
set_option maxRecDepth 20000 in
theorem ggL_law_X6_faultPosition : GoodIn wsL_law wsX6_faultPosition := goodIn_r _ [356, 357, 358, 359, 360, 5, 361, 362, 112, 311, 363, 364, 365, 366, 107, 367, 368, 369, 370, 371, 372, 373, 374, 111, 143, 144, 145, 185, 186, 187, 188, 375, 376, 377, 378, 885, 886, 887, 888, 889, 890, 891, 892, 893, 894, 895, 896, 897, 898, 899, 900, 901, 902, 903, 904, 905, 906] (by decide +kernel) (by decide +kernel)
set_option maxRecDepth 20000 in
theorem gL_law_X6_faultPosition : GoodIn wsL_law (wsV RL 71 RX6 yX6_faultPosition wsX6_faultPosition) := goodIn_app (goodIn_of _ (by decide +kernel)) ggL_law_X6_faultPosition
set_option maxRecDepth 20000 in
theorem ggL_law_X5_read : GoodIn wsL_law wsX5_read := goodIn_r _ [382, 15, 22, 132, 133, 176, 383, 229, 384, 230, 231, 232, 14, 233, 44, 324, 325, 326, 21, 327, 61, 62, 63, 60, 59, 58, 57, 328, 51, 52, 53, 329, 330, 331, 332, 333, 334, 335, 336, 64, 337, 338, 339, 340, 65, 167, 2, 168, 341, 342, 343, 344, 345, 346, 347, 348, 66, 349, 350, 351, 352, 164, 165, 170, 171, 385, 386, 387, 388, 389, 390, 391, 392, 393, 394, 873, 874, 875, 876, 877, 878, 879, 880, 881, 882, 883, 884, 907, 908, 909, 910, 911, 912, 913, 914, 915, 916, 917, 918, 919, 920, 921, 922, 923] (by decide +kernel) (by decide +kernel)
set_option maxRecDepth 20000 in
theorem gL_law_X5_read : GoodIn wsL_law (wsV RL 72 RX5 yX5_read wsX5_read) := goodIn_app (goodIn_of _ (by decide +kernel)) ggL_law_X5_read
set_option maxRecDepth 20000 in
theorem ggL_law_X6_read : GoodIn wsL_law wsX6_read := goodIn_r _ [398, 107, 112, 362, 242, 243, 244, 5, 245, 143, 144, 145, 358, 359, 360, 361, 357, 311, 363, 364, 365, 366, 367, 368, 369, 370, 371, 372, 373, 374, 111, 185, 186, 187, 188, 375, 376, 377, 378, 218, 219, 220, 885, 886, 887, 888, 889, 890, 891, 892, 893, 894, 895, 896, 897, 898, 899, 900, 901, 902, 903, 904, 905, 906] (by decide +kernel) (by decide +kernel)
set_option maxRecDepth 20000 in
theorem gL_law_X6_read : GoodIn wsL_law (wsV RL 75 RX6 yX6_read wsX6_read) := goodIn_app (goodIn_of _ (by decide +kernel)) ggL_law_X6_read
set_option maxRecDepth 20000 in
theorem ggL_law_X5_clash : GoodIn wsL_law wsX5_clash := goodIn_r _ [402, 403, 404, 405, 2, 406, 15, 230, 231, 232, 14, 233, 44, 407, 408, 409, 410, 176, 229, 26, 27, 33, 133, 411, 385, 386, 387, 412, 413, 414, 32, 415, 70, 78, 77, 72, 73, 416, 417, 418, 419, 74, 75, 76, 167, 168, 420, 421, 422, 423, 424, 425, 426, 427, 428, 71, 429, 430, 873, 874, 875, 876, 877, 878, 879, 880, 881, 882, 883, 884, 907, 908, 909, 910, 911, 912, 913, 924, 925, 926, 927, 928, 929, 930, 931, 932] (by decide +kernel) (by decide +kernel)
set_option maxRecDepth 20000 in
theorem gL_law_X5_clash : GoodIn wsL_law (wsV RL 76 RX5 yX5_clash wsX5_clash) := goodIn_app (goodIn_of _ (by decide +kernel)) ggL_law_X5_clash
set_option maxRecDepth 20000 in
theorem ggL_law_X6_clash : GoodIn wsL_law wsX6_clash := goodIn_r _ [434, 435, 436, 437, 5, 438, 242, 243, 244, 245, 107, 143, 144, 145, 439, 440, 441, 442, 113, 114, 443, 444, 445, 446, 447, 448, 449, 450, 218, 219, 220, 451, 452, 453, 454, 118, 115, 116, 117, 455, 456, 457, 458, 459, 460, 461, 119, 462, 463, 464, 885, 886, 887, 888, 889, 890, 891, 892, 893, 894, 895, 896, 897, 898, 899, 900, 901, 902, 903, 904, 905, 906] (by decide +kernel) (by decide +kernel)
set_option maxRecDepth 20000 in
theorem gL_law_X6_clash : GoodIn wsL_law (wsV RL 79 RX6 yX6_clash wsX6_clash) := goodIn_app (goodIn_of _ (by decide +kernel)) ggL_law_X6_clash
set_option maxRecDepth 20000 in
theorem ggL_law_X5_witness : GoodIn wsL_law wsX5_witness := goodIn_r _ [468, 33, 403, 404, 405, 2, 406, 15, 230, 231, 232, 14, 233, 44, 407, 408, 409, 410, 176, 229, 26, 27, 133, 411, 385, 386, 387, 412, 413, 414, 32, 415, 70, 78, 77, 72, 73, 416, 417, 418, 419, 74, 75, 76, 167, 168, 420, 421, 422, 423, 424, 425, 426, 427, 428, 71, 429, 430, 469, 470, 471, 472, 873, 874, 875, 876, 877, 878, 879, 880, 881, 882, 883, 884, 907, 908, 909, 910, 911, 912, 913, 924, 925, 926, 927, 928, 929, 930, 931, 932] (by decide +kernel) (by decide +kernel)
set_option maxRecDepth 20000 in
theorem gL_law_X5_witness : GoodIn wsL_law (wsV RL 80 RX5 yX5_witness wsX5_witness) := goodIn_app (goodIn_of _ (by decide +kernel)) ggL_law_X5_witness
set_option maxRecDepth 20000 in
theorem ggL_law_X6_witness : GoodIn wsL_law wsX6_witness := goodIn_r _ [476, 119, 435, 436, 437, 5, 438, 242, 243, 244, 245, 107, 143, 144, 145, 439, 440, 441, 442, 113, 114, 443, 444, 445, 446, 447, 448, 449, 450, 218, 219, 220, 451, 452, 453, 454, 118, 115, 116, 117, 455, 456, 457, 458, 459, 460, 461, 462, 463, 464, 885, 886, 887, 888, 889, 890, 891, 892, 893, 894, 895, 896, 897, 898, 899, 900, 901, 902, 903, 904, 905, 906] (by decide +kernel) (by decide +kernel)
set_option maxRecDepth 20000 in
theorem gL_law_X6_witness : GoodIn wsL_law (wsV RL 83 RX6 yX6_witness wsX6_witness) := goodIn_app (goodIn_of _ (by decide +kernel)) ggL_law_X6_witness
set_option maxRecDepth 20000 in
theorem ggL_law_X5_clashes : GoodIn wsL_law wsX5_clashes := goodIn_r _ [480, 15, 205, 270, 271, 272, 14, 273, 45, 274, 2, 275, 407, 408, 409, 410, 176, 229, 26, 27, 33, 133, 411, 385, 386, 387, 412, 413, 414, 32, 415, 70, 78, 77, 72, 73, 416, 417, 418, 419, 74, 75, 76, 167, 168, 420, 421, 422, 423, 424, 425, 426, 427, 428, 71, 429, 430, 873, 874, 875, 876, 877, 878, 879, 880, 881, 882, 883, 884, 907, 908, 909, 910, 911, 912, 913, 924, 925, 926, 927, 928, 929, 930, 931, 932] (by decide +kernel) (by decide +kernel)
set_option maxRecDepth 20000 in
theorem gL_law_X5_clashes : GoodIn wsL_law (wsV RL 84 RX5 yX5_clashes wsX5_clashes) := goodIn_app (goodIn_of _ (by decide +kernel)) ggL_law_X5_clashes
set_option maxRecDepth 20000 in
theorem ggL_law_X6_clashes : GoodIn wsL_law wsX6_clashes := goodIn_r _ [484, 485, 486, 487, 5, 488, 107, 489, 490, 491, 492, 218, 219, 220, 439, 440, 441, 442, 113, 114, 443, 444, 445, 446, 447, 448, 449, 450, 451, 452, 453, 454, 118, 115, 116, 117, 455, 456, 457, 458, 459, 460, 461, 119, 462, 463, 464, 885, 886, 887, 888, 889, 890, 891, 892, 893, 894, 895, 896, 897, 898, 899, 900, 901, 902, 903, 904, 905, 906] (by decide +kernel) (by decide +kernel)
set_option maxRecDepth 20000 in
theorem gL_law_X6_clashes : GoodIn wsL_law (wsV RL 87 RX6 yX6_clashes wsX6_clashes) := goodIn_app (goodIn_of _ (by decide +kernel)) ggL_law_X6_clashes
set_option maxRecDepth 20000 in
theorem ggL_law_X5_results : GoodIn wsL_law wsX5_results := goodIn_r _ [496, 37, 15, 497, 498, 499, 36, 500, 92, 501, 502, 503, 504, 505, 89, 88, 506, 91, 507, 508, 509, 510, 511, 512, 93, 513, 514, 515, 516, 389, 2, 390, 391, 392, 393, 394, 517, 518, 519, 520, 85, 521, 522, 523, 524, 525, 84, 526, 97, 102, 101, 100, 527, 528, 529, 530, 98, 99, 531, 51, 52, 53, 532, 533, 534, 167, 168, 429, 430, 423, 424, 170, 171, 535, 536, 537, 538, 539, 540, 541, 542, 543, 544, 545, 546, 547, 548, 549, 550, 551, 552, 553, 554, 87, 555, 556, 557, 558, 559, 560, 561, 562, 563, 274, 275, 564, 565, 566, 567, 386, 387, 873, 874, 875, 876, 877, 878, 879, 880, 881, 882, 883, 884, 933, 934, 935, 936, 937, 938, 939, 907, 908, 909, 910, 911, 912, 913, 940, 941, 942, 943, 944, 945] (by decide +kernel) (by decide +kernel)
set_option maxRecDepth 20000 in
theorem gL_law_X5_results : GoodIn wsL_law (wsV RL 88 RX5 yX5_results wsX5_results) := goodIn_app (goodIn_of _ (by decide +kernel)) ggL_law_X5_results
set_option maxRecDepth 20000 in
theorem ggL_law_X6_results : GoodIn wsL_law wsX6_results := goodIn_r _ [571, 113, 114, 122, 572, 573, 574, 5, 575, 576, 107, 120, 489, 490, 491, 492, 218, 219, 220, 577, 578, 579, 580, 121, 581, 582, 583, 584, 443, 444, 445, 446, 447, 448, 449, 450, 451, 452, 453, 454, 118, 115, 116, 117, 455, 456, 457, 458, 459, 460, 461, 119, 462, 463, 464, 885, 886, 887, 888, 889, 890, 891, 892, 893, 894, 895, 896, 897, 898, 899, 900, 901, 902, 903, 904, 905, 906] (by decide +kernel) (by decide +kernel)
set_option maxRecDepth 20000 in
theorem gL_law_X6_results : GoodIn wsL_law (wsV RL 91 RX6 yX6_results wsX6_results) := goodIn_app (goodIn_of _ (by decide +kernel)) ggL_law_X6_results
set_option maxRecDepth 20000 in
theorem ggL_law_X5_reach : GoodIn wsL_law wsX5_reach := goodIn_r _ [588, 15, 229, 176, 26, 230, 231, 232, 14, 233, 44, 385, 386, 2, 387, 589, 590, 591, 592, 132, 593, 274, 275, 594, 429, 430, 873, 874, 875, 876, 877, 878, 879, 880, 881, 882, 883, 884, 907, 908, 909, 910, 911, 912, 913] (by decide +kernel) (by decide +kernel)
set_option maxRecDepth 20000 in
theorem gL_law_X5_reach : GoodIn wsL_law (wsV RL 92 RX5 yX5_reach wsX5_reach) := goodIn_app (goodIn_of _ (by decide +kernel)) ggL_law_X5_reach
set_option maxRecDepth 20000 in
theorem ggL_law_X6_reach : GoodIn wsL_law wsX6_reach := goodIn_r _ [598, 242, 243, 244, 5, 245, 107, 143, 144, 145, 599, 600, 601, 602, 113, 443, 444, 445, 446, 603, 604, 605, 606, 447, 448, 449, 450, 218, 219, 220, 885, 886, 887, 888, 889, 890, 891, 892, 893, 894, 895, 896, 897, 898, 899, 900, 901, 902, 903, 904, 905, 906] (by decide +kernel) (by decide +kernel)
set_option maxRecDepth 20000 in
theorem gL_law_X6_reach : GoodIn wsL_law (wsV RL 95 RX6 yX6_reach wsX6_reach) := goodIn_app (goodIn_of _ (by decide +kernel)) ggL_law_X6_reach
set_option maxRecDepth 20000 in
theorem ggL_law_X5_setBefore : GoodIn wsL_law wsX5_setBefore := goodIn_r _ [610, 15, 403, 404, 405, 2, 406, 230, 231, 232, 14, 233, 44, 611, 612, 613, 614, 49, 274, 275, 615, 616, 617, 618, 619, 620, 621, 622, 623, 624, 625, 626, 627, 628, 629, 630, 873, 874, 875, 876, 877, 878, 879, 880, 881, 882, 883, 884, 907, 908, 909, 910, 911, 912, 913] (by decide +kernel) (by decide +kernel)
set_option maxRecDepth 20000 in
theorem gL_law_X5_setBefore : GoodIn wsL_law (wsV RL 96 RX5 yX5_setBefore wsX5_setBefore) := goodIn_app (goodIn_of _ (by decide +kernel)) ggL_law_X5_setBefore
set_option maxRecDepth 20000 in
theorem ggL_law_X6_setBefore : GoodIn wsL_law wsX6_setBefore := goodIn_r _ [634, 107, 435, 436, 437, 5, 438, 242, 243, 244, 245, 143, 144, 145, 635, 636, 637, 638, 123, 218, 219, 220, 639, 640, 641, 642, 643, 644, 645, 646, 885, 886, 887, 888, 889, 890, 891, 892, 893, 894, 895, 896, 897, 898, 899, 900, 901, 902, 903, 904, 905, 906] (by decide +kernel) (by decide +kernel)
set_option maxRecDepth 20000 in
theorem gL_law_X6_setBefore : GoodIn wsL_law (wsV RL 99 RX6 yX6_setBefore wsX6_setBefore) := goodIn_app (goodIn_of _ (by decide +kernel)) ggL_law_X6_setBefore
set_option maxRecDepth 20000 in
theorem ggL_law_X5_clearPriorities : GoodIn wsL_law wsX5_clearPriorities := goodIn_r _ [650, 15, 651, 620, 621, 622, 14, 623, 49, 624, 625, 626, 627, 628, 629, 630, 652, 51, 52, 53, 873, 874, 875, 876, 877, 878, 879, 880, 881, 882, 883, 884, 907, 908, 909, 910, 911, 912, 913] (by decide +kernel) (by decide +kernel)
set_option maxRecDepth 20000 in
theorem gL_law_X5_clearPriorities : GoodIn wsL_law (wsV RL 100 RX5 yX5_clearPriorities wsX5_clearPriorities) := goodIn_app (goodIn_of _ (by decide +kernel)) ggL_law_X5_clearPriorities
set_option maxRecDepth 20000 in
theorem ggL_law_X6_clearPriorities : GoodIn wsL_law wsX6_clearPriorities := goodIn_r _ [656, 107, 643, 644, 645, 5, 646, 635, 636, 637, 638, 123, 218, 219, 220, 639, 640, 641, 642, 885, 886, 887, 888, 889, 890, 891, 892, 893, 894, 895, 896, 897, 898, 899, 900, 901, 902, 903, 904, 905, 906] (by decide +kernel) (by decide +kernel)
set_option maxRecDepth 20000 in
theorem gL_law_X6_clearPriorities : GoodIn wsL_law (wsV RL 103 RX6 yX6_clearPriorities wsX6_clearPriorities) := goodIn_app (goodIn_of _ (by decide +kernel)) ggL_law_X6_clearPriorities
set_option maxRecDepth 20000 in
theorem ggL_law_X5_isBefore : GoodIn wsL_law wsX5_isBefore := goodIn_r _ [660, 15, 230, 231, 232, 14, 233, 44, 611, 612, 613, 614, 49, 274, 2, 275, 873, 874, 875, 876, 877, 878, 879, 880, 881, 882, 883, 884, 907, 908, 909, 910, 911, 912, 913] (by decide +kernel) (by decide +kernel)
set_option maxRecDepth 20000 in
theorem gL_law_X5_isBefore : GoodIn wsL_law (wsV RL 104 RX5 yX5_isBefore wsX5_isBefore) := goodIn_app (goodIn_of _ (by decide +kernel)) ggL_law_X5_isBefore
set_option maxRecDepth 20000 in
theorem ggL_law_X6_isBefore : GoodIn wsL_law wsX6_isBefore := goodIn_r _ [664, 242, 243, 244, 5, 245, 107, 143, 144, 145, 635, 636, 637, 638, 123, 218, 219, 220, 639, 640, 641, 642, 885, 886, 887, 888, 889, 890, 891, 892, 893, 894, 895, 896, 897, 898, 899, 900, 901, 902, 903, 904, 905, 906] (by decide +kernel) (by decide +kernel)
set_option maxRecDepth 20000 in
theorem gL_law_X6_isBefore : GoodIn wsL_law (wsV RL 107 RX6 yX6_isBefore wsX6_isBefore) := goodIn_app (goodIn_of _ (by decide +kernel)) ggL_law_X6_isBefore
set_option maxRecDepth 20000 in
theorem ggL_law_X5_orders : GoodIn wsL_law wsX5_orders := goodIn_r _ [668, 29, 15, 669, 670, 671, 672, 2, 673, 205, 651, 873, 874, 875, 876, 877, 878, 879, 880, 881, 882, 883, 884, 907, 908, 909, 910, 911, 912, 913] (by decide +kernel) (by decide +kernel)
set_option maxRecDepth 20000 in
theorem gL_law_X5_orders : GoodIn wsL_law (wsV RL 108 RX5 yX5_orders wsX5_orders) := goodIn_app (goodIn_of _ (by decide +kernel)) ggL_law_X5_orders
set_option maxRecDepth 20000 in
theorem ggL_law_X6_orders : GoodIn wsL_law wsX6_orders := goodIn_r _ [677, 678, 679, 680, 5, 681, 635, 636, 637, 638, 123, 107, 218, 219, 220, 572, 573, 574, 575, 576, 120, 489, 490, 491, 492, 577, 578, 579, 580, 121, 682, 683, 684, 685, 639, 640, 641, 642, 885, 886, 887, 888, 889, 890, 891, 892, 893, 894, 895, 896, 897, 898, 899, 900, 901, 902, 903, 904, 905, 906] (by decide +kernel) (by decide +kernel)
set_option maxRecDepth 20000 in
theorem gL_law_X6_orders : GoodIn wsL_law (wsV RL 111 RX6 yX6_orders wsX6_orders) := goodIn_app (goodIn_of _ (by decide +kernel)) ggL_law_X6_orders
set_option maxRecDepth 20000 in
theorem ggL_law_X5_resolved : GoodIn wsL_law wsX5_resolved := goodIn_r _ [689, 28, 690, 691, 692, 2, 693, 15, 669, 694, 695, 696, 697, 651, 593, 274, 275, 873, 874, 875, 876, 877, 878, 879, 880, 881, 882, 883, 884, 907, 908, 909, 910, 911, 912, 913] (by decide +kernel) (by decide +kernel)
set_option maxRecDepth 20000 in
theorem gL_law_X5_resolved : GoodIn wsL_law (wsV RL 112 RX5 yX5_resolved wsX5_resolved) := goodIn_app (goodIn_of _ (by decide +kernel)) ggL_law_X5_resolved
set_option maxRecDepth 20000 in
theorem ggL_law_X6_resolved : GoodIn wsL_law wsX6_resolved := goodIn_r _ [701, 121, 702, 703, 704, 5, 705, 576, 635, 636, 637, 638, 123, 107, 218, 219, 220, 572, 573, 574, 575, 120, 489, 490, 491, 492, 577, 578, 579, 580, 682, 683, 684, 685, 639, 640, 641, 642, 885, 886, 887, 888, 889, 890, 891, 892, 893, 894, 895, 896, 897, 898, 899, 900, 901, 902, 903, 904, 905, 906] (by decide +kernel) (by decide +kernel)
set_option maxRecDepth 20000 in
theorem gL_law_X6_resolved : GoodIn wsL_law (wsV RL 115 RX6 yX6_resolved wsX6_resolved) := goodIn_app (goodIn_of _ (by decide +kernel)) ggL_law_X6_resolved
set_option maxRecDepth 20000 in
theorem ggL_law_X5_open : GoodIn wsL_law wsX5_open := goodIn_r _ [709, 15, 205, 710, 711, 712, 2, 713, 270, 271, 272, 14, 273, 45, 274, 275, 611, 612, 613, 614, 49, 407, 408, 409, 410, 176, 229, 26, 27, 33, 133, 411, 385, 386, 387, 412, 413, 414, 32, 415, 70, 78, 77, 72, 73, 416, 417, 418, 419, 74, 75, 76, 167, 168, 420, 421, 422, 423, 424, 425, 426, 427, 428, 71, 429, 430, 873, 874, 875, 876, 877, 878, 879, 880, 881, 882, 883, 884, 907, 908, 909, 910, 911, 912, 913, 924, 925, 926, 927, 928, 929, 930, 931, 932] (by decide +kernel) (by decide +kernel)
set_option maxRecDepth 20000 in
theorem gL_law_X5_open : GoodIn wsL_law (wsV RL 116 RX5 yX5_open wsX5_open) := goodIn_app (goodIn_of _ (by decide +kernel)) ggL_law_X5_open
set_option maxRecDepth 20000 in
theorem ggL_law_X6_open : GoodIn wsL_law wsX6_open := goodIn_r _ [717, 718, 719, 720, 5, 721, 107, 635, 636, 637, 638, 123, 218, 219, 220, 722, 723, 724, 725, 489, 490, 491, 492, 639, 640, 641, 642, 439, 440, 441, 442, 113, 114, 443, 444, 445, 446, 447, 448, 449, 450, 451, 452, 453, 454, 118, 115, 116, 117, 455, 456, 457, 458, 459, 460, 461, 119, 462, 463, 464, 885, 886, 887, 888, 889, 890, 891, 892, 893, 894, 895, 896, 897, 898, 899, 900, 901, 902, 903, 904, 905, 906] (by decide +kernel) (by decide +kernel)
set_option maxRecDepth 20000 in
theorem gL_law_X6_open : GoodIn wsL_law (wsV RL 119 RX6 yX6_open wsX6_open) := goodIn_app (goodIn_of _ (by decide +kernel)) ggL_law_X6_open
set_option maxRecDepth 20000 in
theorem ggL_law_X5_isResolved : GoodIn wsL_law wsX5_isResolved := goodIn_r _ [729, 37, 15, 497, 498, 499, 36, 500, 92, 501, 502, 503, 504, 505, 89, 88, 506, 91, 507, 508, 509, 510, 511, 512, 93, 513, 514, 515, 516, 389, 2, 390, 391, 392, 393, 394, 517, 518, 519, 520, 85, 521, 522, 523, 524, 525, 84, 526, 97, 102, 101, 100, 527, 528, 529, 530, 98, 99, 531, 51, 52, 53, 532, 533, 534, 167, 168, 429, 430, 423, 424, 170, 171, 535, 536, 537, 538, 539, 540, 541, 542, 543, 544, 545, 546, 547, 548, 549, 550, 551, 552, 553, 554, 87, 555, 556, 557, 558, 559, 560, 561, 562, 563, 274, 275, 564, 565, 566, 567, 386, 387, 873, 874, 875, 876, 877, 878, 879, 880, 881, 882, 883, 884, 933, 934, 935, 936, 937, 938, 939, 907, 908, 909, 910, 911, 912, 913, 940, 941, 942, 943, 944, 945] (by decide +kernel) (by decide +kernel)
set_option maxRecDepth 20000 in
theorem gL_law_X5_isResolved : GoodIn wsL_law (wsV RL 120 RX5 yX5_isResolved wsX5_isResolved) := goodIn_app (goodIn_of _ (by decide +kernel)) ggL_law_X5_isResolved
set_option maxRecDepth 20000 in
theorem ggL_law_X6_isResolved : GoodIn wsL_law wsX6_isResolved := goodIn_r _ [733, 734, 735, 736, 5, 737, 113, 114, 702, 703, 704, 705, 576, 635, 636, 637, 638, 123, 107, 218, 219, 220, 572, 573, 574, 575, 120, 489, 490, 491, 492, 577, 578, 579, 580, 121, 682, 683, 684, 685, 639, 640, 641, 642, 581, 582, 583, 584, 443, 444, 445, 446, 447, 448, 449, 450, 451, 452, 453, 454, 118, 115, 116, 117, 455, 456, 457, 458, 459, 460, 461, 119, 462, 463, 464, 885, 886, 887, 888, 889, 890, 891, 892, 893, 894, 895, 896, 897, 898, 899, 900, 901, 902, 903, 904, 905, 906] (by decide +kernel) (by decide +kernel)
set_option maxRecDepth 20000 in
theorem gL_law_X6_isResolved : GoodIn wsL_law (wsV RL 123 RX6 yX6_isResolved wsX6_isResolved) := goodIn_app (goodIn_of _ (by decide +kernel)) ggL_law_X6_isResolved
set_option maxRecDepth 20000 in
theorem ggL_law_X5_resolve : GoodIn wsL_law wsX5_resolve := goodIn_r _ [741, 15, 205, 710, 711, 712, 2, 713, 270, 271, 272, 14, 273, 45, 274, 275, 611, 612, 613, 614, 49, 407, 408, 409, 410, 176, 229, 26, 27, 33, 133, 411, 385, 386, 387, 412, 413, 414, 32, 415, 70, 78, 77, 72, 73, 416, 417, 418, 419, 74, 75, 76, 167, 168, 420, 421, 422, 423, 424, 425, 426, 427, 428, 71, 429, 430, 615, 616, 617, 618, 619, 873, 874, 875, 876, 877, 878, 879, 880, 881, 882, 883, 884, 907, 908, 909, 910, 911, 912, 913, 924, 925, 926, 927, 928, 929, 930, 931, 932] (by decide +kernel) (by decide +kernel)
set_option maxRecDepth 20000 in
theorem gL_law_X5_resolve : GoodIn wsL_law (wsV RL 124 RX5 yX5_resolve wsX5_resolve) := goodIn_app (goodIn_of _ (by decide +kernel)) ggL_law_X5_resolve
set_option maxRecDepth 20000 in
theorem ggL_law_X6_resolve : GoodIn wsL_law wsX6_resolve := goodIn_r _ [745, 107, 635, 636, 637, 5, 638, 123, 218, 219, 220, 722, 723, 724, 725, 489, 490, 491, 492, 639, 640, 641, 642, 439, 440, 441, 442, 113, 114, 443, 444, 445, 446, 447, 448, 449, 450, 451, 452, 453, 454, 118, 115, 116, 117, 455, 456, 457, 458, 459, 460, 461, 119, 462, 463, 464, 885, 886, 887, 888, 889, 890, 891, 892, 893, 894, 895, 896, 897, 898, 899, 900, 901, 902, 903, 904, 905, 906] (by decide +kernel) (by decide +kernel)
set_option maxRecDepth 20000 in
theorem gL_law_X6_resolve : GoodIn wsL_law (wsV RL 127 RX6 yX6_resolve wsX6_resolve) := goodIn_app (goodIn_of _ (by decide +kernel)) ggL_law_X6_resolve
set_option maxRecDepth 20000 in
theorem ggL_law_X5_add : GoodIn wsL_law wsX5_add := goodIn_r _ [749, 15, 25, 24, 750, 159, 160, 14, 161, 43, 873, 874, 875, 876, 877, 878, 879, 880, 881, 882, 883, 884, 907, 908, 909, 910, 911, 912, 913] (by decide +kernel) (by decide +kernel)
set_option maxRecDepth 20000 in
theorem gL_law_X5_add : GoodIn wsL_law (wsV RL 128 RX5 yX5_add wsX5_add) := goodIn_app (goodIn_of _ (by decide +kernel)) ggL_law_X5_add
set_option maxRecDepth 20000 in
theorem ggL_law_X6_add : GoodIn wsL_law wsX6_add := goodIn_r _ [754, 142, 110, 185, 186, 187, 5, 188, 107, 143, 144, 145, 885, 886, 887, 888, 889, 890, 891, 892, 893, 894, 895, 896, 897, 898, 899, 900, 901, 902, 903, 904, 905, 906] (by decide +kernel) (by decide +kernel)
set_option maxRecDepth 20000 in
theorem gL_law_X6_add : GoodIn wsL_law (wsV RL 131 RX6 yX6_add wsX6_add) := goodIn_app (goodIn_of _ (by decide +kernel)) ggL_law_X6_add
set_option maxRecDepth 20000 in
theorem ggL_law_X5_clearWord : GoodIn wsL_law wsX5_clearWord := goodIn_r _ [758, 25, 873, 874, 875, 876, 877, 878, 879, 880, 881, 882, 883, 884] (by decide +kernel) (by decide +kernel)
set_option maxRecDepth 20000 in
theorem gL_law_X5_clearWord : GoodIn wsL_law (wsV RL 132 RX5 yX5_clearWord wsX5_clearWord) := goodIn_app (goodIn_of _ (by decide +kernel)) ggL_law_X5_clearWord
set_option maxRecDepth 20000 in
theorem ggL_law_X6_clearWord : GoodIn wsL_law wsX6_clearWord := goodIn_r _ [762, 142, 885, 886, 887, 888, 889, 890, 891, 892, 893, 894, 895, 896, 897, 898, 899, 900, 901, 902, 903, 904, 905, 906] (by decide +kernel) (by decide +kernel)
set_option maxRecDepth 20000 in
theorem gL_law_X6_clearWord : GoodIn wsL_law (wsV RL 135 RX6 yX6_clearWord wsX6_clearWord) := goodIn_app (goodIn_of _ (by decide +kernel)) ggL_law_X6_clearWord
set_option maxRecDepth 20000 in
theorem ggL_law_X5_answer : GoodIn wsL_law wsX5_answer := goodIn_r _ [766, 15, 25, 26, 230, 231, 232, 14, 233, 44, 767, 768, 769, 2, 770, 176, 229, 771, 772, 773, 774, 28, 388, 389, 390, 391, 392, 393, 394, 690, 691, 692, 693, 669, 694, 695, 696, 697, 651, 593, 274, 275, 385, 386, 387, 775, 776, 777, 778, 24, 166, 167, 168, 594, 429, 430, 779, 423, 424, 873, 874, 875, 876, 877, 878, 879, 880, 881, 882, 883, 884, 907, 908, 909, 910, 911, 912, 913] (by decide +kernel) (by decide +kernel)
set_option maxRecDepth 20000 in
theorem gL_law_X5_answer : GoodIn wsL_law (wsV RL 136 RX5 yX5_answer wsX5_answer) := goodIn_app (goodIn_of _ (by decide +kernel)) ggL_law_X5_answer
set_option maxRecDepth 20000 in
theorem ggL_law_X6_answer : GoodIn wsL_law wsX6_answer := goodIn_r _ [783, 107, 142, 113, 143, 144, 5, 145, 784, 785, 786, 787, 702, 703, 704, 705, 576, 635, 636, 637, 638, 123, 218, 219, 220, 572, 573, 574, 575, 120, 489, 490, 491, 492, 577, 578, 579, 580, 121, 682, 683, 684, 685, 639, 640, 641, 642, 581, 582, 583, 584, 443, 444, 445, 446, 447, 448, 449, 450, 788, 789, 790, 791, 110, 462, 463, 464, 455, 456, 457, 885, 886, 887, 888, 889, 890, 891, 892, 893, 894, 895, 896, 897, 898, 899, 900, 901, 902, 903, 904, 905, 906] (by decide +kernel) (by decide +kernel)
set_option maxRecDepth 20000 in
theorem gL_law_X6_answer : GoodIn wsL_law (wsV RL 139 RX6 yX6_answer wsX6_answer) := goodIn_app (goodIn_of _ (by decide +kernel)) ggL_law_X6_answer
set_option maxRecDepth 20000 in
theorem ggL_law_X5_effect : GoodIn wsL_law wsX5_effect := goodIn_r _ [795, 33, 796, 797, 798, 2, 799, 26, 15, 176, 133, 771, 772, 773, 774, 229, 28, 388, 389, 390, 391, 392, 393, 394, 690, 691, 692, 693, 669, 694, 695, 696, 697, 651, 593, 274, 275, 385, 386, 387, 412, 413, 414, 32, 415, 70, 78, 77, 72, 73, 416, 417, 418, 419, 74, 75, 76, 167, 168, 420, 421, 422, 423, 424, 425, 426, 427, 428, 71, 429, 430, 469, 470, 471, 472, 873, 874, 875, 876, 877, 878, 879, 880, 881, 882, 883, 884, 907, 908, 909, 910, 911, 912, 913, 924, 925, 926, 927, 928, 929, 930, 931, 932] (by decide +kernel) (by decide +kernel)
set_option maxRecDepth 20000 in
theorem gL_law_X5_effect : GoodIn wsL_law (wsV RL 140 RX5 yX5_effect wsX5_effect) := goodIn_app (goodIn_of _ (by decide +kernel)) ggL_law_X5_effect
set_option maxRecDepth 20000 in
theorem ggL_law_X6_effect : GoodIn wsL_law wsX6_effect := goodIn_r _ [803, 119, 804, 805, 806, 5, 807, 114, 784, 785, 786, 787, 113, 702, 703, 704, 705, 576, 635, 636, 637, 638, 123, 107, 218, 219, 220, 572, 573, 574, 575, 120, 489, 490, 491, 492, 577, 578, 579, 580, 121, 682, 683, 684, 685, 639, 640, 641, 642, 581, 582, 583, 584, 443, 444, 445, 446, 447, 448, 449, 450, 451, 452, 453, 454, 118, 115, 116, 117, 455, 456, 457, 458, 459, 460, 461, 462, 463, 464, 885, 886, 887, 888, 889, 890, 891, 892, 893, 894, 895, 896, 897, 898, 899, 900, 901, 902, 903, 904, 905, 906] (by decide +kernel) (by decide +kernel)
set_option maxRecDepth 20000 in
theorem gL_law_X6_effect : GoodIn wsL_law (wsV RL 143 RX6 yX6_effect wsX6_effect) := goodIn_app (goodIn_of _ (by decide +kernel)) ggL_law_X6_effect
set_option maxRecDepth 20000 in
theorem ggL_law_X5_save : GoodIn wsL_law wsX5_save := goodIn_r _ [811, 16, 15, 18, 205, 812, 813, 2, 814, 815, 816, 817, 14, 818, 42, 43, 44, 45, 46, 48, 49, 389, 390, 391, 392, 393, 394, 873, 874, 875, 876, 877, 878, 879, 880, 881, 882, 883, 884, 907, 908, 909, 910, 911, 912, 913] (by decide +kernel) (by decide +kernel)
set_option maxRecDepth 20000 in
theorem gL_law_X5_save : GoodIn wsL_law (wsV RL 144 RX5 yX5_save wsX5_save) := goodIn_app (goodIn_of _ (by decide +kernel)) ggL_law_X5_save
set_option maxRecDepth 20000 in
theorem ggL_law_X6_save : GoodIn wsL_law wsX6_save := goodIn_r _ [822, 108, 107, 109, 143, 144, 5, 145, 885, 886, 887, 888, 889, 890, 891, 892, 893, 894, 895, 896, 897, 898, 899, 900, 901, 902, 903, 904, 905, 906] (by decide +kernel) (by decide +kernel)
set_option maxRecDepth 20000 in
theorem gL_law_X6_save : GoodIn wsL_law (wsV RL 147 RX6 yX6_save wsX6_save) := goodIn_app (goodIn_of _ (by decide +kernel)) ggL_law_X6_save
set_option maxRecDepth 20000 in
theorem ggL_law_X5_restore : GoodIn wsL_law wsX5_restore := goodIn_r _ [826, 18, 15, 16, 25, 205, 812, 813, 2, 814, 815, 816, 817, 14, 818, 42, 43, 44, 45, 46, 48, 49, 389, 390, 391, 392, 393, 394, 873, 874, 875, 876, 877, 878, 879, 880, 881, 882, 883, 884, 907, 908, 909, 910, 911, 912, 913] (by decide +kernel) (by decide +kernel)
set_option maxRecDepth 20000 in
theorem gL_law_X5_restore : GoodIn wsL_law (wsV RL 148 RX5 yX5_restore wsX5_restore) := goodIn_app (goodIn_of _ (by decide +kernel)) ggL_law_X5_restore
set_option maxRecDepth 20000 in
theorem ggL_law_X6_restore : GoodIn wsL_law wsX6_restore := goodIn_r _ [830, 109, 107, 108, 142, 143, 144, 5, 145, 885, 886, 887, 888, 889, 890, 891, 892, 893, 894, 895, 896, 897, 898, 899, 900, 901, 902, 903, 904, 905, 906] (by decide +kernel) (by decide +kernel)
set_option maxRecDepth 20000 in
theorem gL_law_X6_restore : GoodIn wsL_law (wsV RL 151 RX6 yX6_restore wsX6_restore) := goodIn_app (goodIn_of _ (by decide +kernel)) ggL_law_X6_restore
set_option maxRecDepth 20000 in
theorem ggL_law_X5_checksum : GoodIn wsL_law wsX5_checksum := goodIn_r _ [834, 835, 15, 205, 836, 286, 287, 2, 288, 837, 838, 839, 840, 841, 294, 295, 296, 230, 231, 232, 14, 233, 44, 234, 235, 236, 237, 48, 842, 586, 587, 588, 229, 176, 26, 385, 386, 387, 589, 590, 591, 592, 132, 593, 274, 275, 594, 429, 430, 843, 400, 401, 402, 403, 404, 405, 406, 407, 408, 409, 410, 27, 33, 133, 411, 412, 413, 414, 32, 415, 70, 78, 77, 72, 73, 416, 417, 418, 419, 74, 75, 76, 167, 168, 420, 421, 422, 423, 424, 425, 426, 427, 428, 71, 844, 845, 846, 847, 469, 470, 471, 472, 848, 478, 479, 480, 270, 271, 272, 273, 45, 849, 666, 667, 668, 29, 669, 670, 671, 672, 673, 651, 850, 707, 708, 709, 710, 711, 712, 713, 611, 612, 613, 614, 49, 851, 727, 728, 729, 37, 497, 498, 499, 36, 500, 92, 501, 502, 503, 504, 505, 89, 88, 506, 91, 507, 508, 509, 510, 511, 512, 93, 513, 514, 515, 516, 389, 390, 391, 392, 393, 394, 517, 518, 519, 520, 85, 521, 522, 523, 524, 525, 84, 526, 97, 102, 101, 100, 527, 528, 529, 530, 98, 99, 531, 51, 52, 53, 532, 533, 534, 170, 171, 535, 536, 537, 538, 539, 540, 541, 542, 543, 544, 545, 546, 547, 548, 549, 550, 551, 552, 553, 554, 87, 555, 556, 557, 558, 559, 560, 561, 562, 563, 564, 565, 566, 567, 852, 853, 854, 855, 28, 690, 691, 692, 693, 694, 695, 696, 697, 796, 797, 798, 799, 771, 772, 773, 774, 388, 856, 857, 858, 859, 25, 775, 776, 777, 778, 24, 166, 779, 873, 874, 875, 876, 877, 878, 879, 880, 881, 882, 883, 884, 907, 908, 909, 910, 911, 912, 913, 924, 925, 926, 927, 928, 929, 930, 931, 932, 933, 934, 935, 936, 937, 938, 939, 940, 941, 942, 943, 944, 945] (by decide +kernel) (by decide +kernel)
set_option maxRecDepth 20000 in
theorem gL_law_X5_checksum : GoodIn wsL_law (wsV RL 152 RX5 yX5_checksum wsX5_checksum) := goodIn_app (goodIn_of _ (by decide +kernel)) ggL_law_X5_checksum
set_option maxRecDepth 20000 in
theorem ggL_law_X6_checksum : GoodIn wsL_law wsX6_checksum := goodIn_r _ [863, 864, 107, 121, 142, 865, 866, 5, 867, 868, 246, 247, 248, 249, 218, 219, 220, 599, 600, 601, 602, 113, 443, 444, 445, 446, 603, 604, 605, 606, 447, 448, 449, 450, 439, 440, 441, 442, 114, 451, 452, 453, 454, 118, 115, 116, 117, 455, 456, 457, 458, 459, 460, 461, 119, 462, 463, 464, 869, 870, 871, 872, 485, 486, 487, 488, 489, 490, 491, 492, 678, 679, 680, 681, 635, 636, 637, 638, 123, 572, 573, 574, 575, 576, 120, 577, 578, 579, 580, 682, 683, 684, 685, 639, 640, 641, 642, 718, 719, 720, 721, 722, 723, 724, 725, 734, 735, 736, 737, 702, 703, 704, 705, 581, 582, 583, 584, 804, 805, 806, 807, 784, 785, 786, 787, 788, 789, 790, 791, 110, 885, 886, 887, 888, 889, 890, 891, 892, 893, 894, 895, 896, 897, 898, 899, 900, 901, 902, 903, 904, 905, 906] (by decide +kernel) (by decide +kernel)
set_option maxRecDepth 20000 in
theorem gL_law_X6_checksum : GoodIn wsL_law (wsV RL 156 RX6 yX6_checksum wsX6_checksum) := goodIn_app (goodIn_of _ (by decide +kernel)) ggL_law_X6_checksum
