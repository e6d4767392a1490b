/-! Words of the methods that the law calls -/
set_option maxRecDepth 20000 in
theorem ggL_law_X3_couldGive : GoodIn wsL_law wsX3_couldGive := goodIn_r _ [535, 536, 537, 538, 2, 539, 16, 483, 404, 125, 126, 540, 127, 128, 541, 129, 130, 131, 132, 133, 542, 135, 136, 15, 137, 34, 32, 35, 36, 37, 138, 139, 102, 140, 38, 141, 101, 103, 142, 143, 144, 145, 146, 147, 872, 873, 874, 875, 876, 893, 894, 895, 896, 897, 898, 899, 900, 901, 902, 903, 904, 905, 906, 907, 908] rfl (by decide +kernel)
set_option maxRecDepth 20000 in
theorem gL_law_X3_couldGive : GoodIn wsL_law (wsV RL 69 RX3 yX3_couldGive wsX3_couldGive) := goodIn_app (goodIn_of _ (by decide +kernel)) ggL_law_X3_couldGive
set_option maxRecDepth 20000 in
theorem ggL_law_X4_couldGive : GoodIn wsL_law wsX4_couldGive := goodIn_r _ [546, 59, 547, 548, 5, 549, 208, 209, 210, 108, 109, 110, 211, 212, 213, 218, 219, 220, 221, 222, 223, 224, 225, 226, 227, 228, 229, 230, 231, 232, 233, 234, 235, 236, 214, 215, 216, 217, 877, 878, 879, 880, 881, 882, 883, 884, 885, 886, 887, 888, 889, 890, 891, 892] rfl (by decide +kernel)
set_option maxRecDepth 20000 in
theorem gL_law_X4_couldGive : GoodIn wsL_law (wsV RL 73 RX4 yX4_couldGive wsX4_couldGive) := goodIn_app (goodIn_of _ (by decide +kernel)) ggL_law_X4_couldGive
set_option maxRecDepth 20000 in
theorem ggL_law_X3_inTheWay : GoodIn wsL_law wsX3_inTheWay := goodIn_r _ [539, 16, 483, 404, 125, 2, 126, 540, 127, 128, 541, 129, 130, 131, 132, 133, 542, 135, 136, 15, 137, 34, 32, 35, 36, 37, 138, 139, 102, 140, 38, 141, 101, 103, 142, 143, 144, 145, 146, 147, 872, 873, 874, 875, 876, 893, 894, 895, 896, 897, 898, 899, 900, 901, 902, 903, 904, 905, 906, 907, 908] rfl (by decide +kernel)
set_option maxRecDepth 20000 in
theorem gL_law_X3_inTheWay : GoodIn wsL_law (wsV RL 74 RX3 yX3_inTheWay wsX3_inTheWay) := goodIn_app (goodIn_of _ (by decide +kernel)) ggL_law_X3_inTheWay
set_option maxRecDepth 20000 in
theorem ggL_law_X4_inTheWay : GoodIn wsL_law wsX4_inTheWay := goodIn_r _ [554, 59, 547, 548, 5, 549, 208, 209, 210, 108, 109, 110, 211, 212, 213, 218, 219, 220, 221, 222, 223, 224, 225, 226, 227, 228, 229, 230, 231, 232, 233, 234, 235, 236, 214, 215, 216, 217, 877, 878, 879, 880, 881, 882, 883, 884, 885, 886, 887, 888, 889, 890, 891, 892] rfl (by decide +kernel)
set_option maxRecDepth 20000 in
theorem gL_law_X4_inTheWay : GoodIn wsL_law (wsV RL 77 RX4 yX4_inTheWay wsX4_inTheWay) := goodIn_app (goodIn_of _ (by decide +kernel)) ggL_law_X4_inTheWay
set_option maxRecDepth 20000 in
theorem ggL_law_X3_ring : GoodIn wsL_law wsX3_ring := goodIn_r _ [558, 17, 16, 404, 125, 2, 126, 540, 127, 128, 541, 129, 130, 131, 132, 133, 559, 80, 81, 15, 82, 83, 84, 85, 86, 32, 87, 88, 89, 90, 34, 35, 36, 37, 38, 39, 40, 41, 42, 43, 560, 165, 166, 167, 168, 169, 170, 171, 561, 173, 174, 175, 562, 177, 178, 179, 44, 160, 161, 162, 163, 134, 135, 136, 137, 138, 139, 102, 140, 141, 101, 103, 142, 143, 144, 145, 146, 147, 872, 873, 874, 875, 876, 893, 894, 895, 896, 897, 898, 899, 900, 901, 902, 903, 904, 905, 906, 907, 908] rfl (by decide +kernel)
set_option maxRecDepth 20000 in
theorem gL_law_X3_ring : GoodIn wsL_law (wsV RL 78 RX3 yX3_ring wsX3_ring) := goodIn_app (goodIn_of _ (by decide +kernel)) ggL_law_X3_ring
set_option maxRecDepth 20000 in
theorem ggL_law_X4_ring : GoodIn wsL_law wsX4_ring := goodIn_r _ [566, 547, 548, 5, 549, 208, 209, 210, 108, 109, 110, 211, 212, 213, 567, 568, 569, 570, 64, 59, 214, 215, 216, 217, 273, 274, 275, 276, 265, 266, 267, 268, 269, 270, 271, 272, 277, 278, 279, 280, 281, 282, 283, 284, 285, 286, 287, 288, 66, 261, 262, 263, 264, 218, 219, 220, 221, 222, 223, 224, 225, 226, 227, 228, 229, 230, 231, 232, 233, 234, 235, 236, 289, 290, 291, 292, 67, 293, 294, 295, 296, 297, 298, 299, 571, 572, 573, 574, 877, 878, 879, 880, 881, 882, 883, 884, 885, 886, 887, 888, 889, 890, 891, 892] rfl (by decide +kernel)
set_option maxRecDepth 20000 in
theorem gL_law_X4_ring : GoodIn wsL_law (wsV RL 81 RX4 yX4_ring wsX4_ring) := goodIn_app (goodIn_of _ (by decide +kernel)) ggL_law_X4_ring
set_option maxRecDepth 20000 in
theorem ggL_law_X3_firstFor : GoodIn wsL_law wsX3_firstFor := goodIn_r _ [578, 404, 125, 2, 126, 540, 127, 128, 131, 132, 133, 579, 580, 581, 582, 16, 483, 542, 135, 136, 15, 137, 34, 32, 35, 36, 37, 138, 139, 102, 140, 38, 141, 101, 103, 142, 143, 144, 145, 146, 147, 872, 873, 874, 875, 876, 893, 894, 895, 896, 897, 898, 899, 900, 901, 902, 903, 904, 905, 906, 907, 908] rfl (by decide +kernel)
set_option maxRecDepth 20000 in
theorem gL_law_X3_firstFor : GoodIn wsL_law (wsV RL 82 RX3 yX3_firstFor wsX3_firstFor) := goodIn_app (goodIn_of _ (by decide +kernel)) ggL_law_X3_firstFor
set_option maxRecDepth 20000 in
theorem ggL_law_X4_firstFor : GoodIn wsL_law wsX4_firstFor := goodIn_r _ [586, 59, 208, 209, 5, 210, 108, 109, 110, 222, 223, 224, 225, 226, 227, 228, 229, 230, 231, 232, 233, 234, 235, 236, 214, 215, 216, 217, 877, 878, 879, 880, 881, 882, 883, 884, 885, 886, 887, 888, 889, 890, 891, 892] rfl (by decide +kernel)
set_option maxRecDepth 20000 in
theorem gL_law_X4_firstFor : GoodIn wsL_law (wsV RL 85 RX4 yX4_firstFor wsX4_firstFor) := goodIn_app (goodIn_of _ (by decide +kernel)) ggL_law_X4_firstFor
set_option maxRecDepth 20000 in
theorem ggL_law_X3_longestFor : GoodIn wsL_law wsX3_longestFor := goodIn_r _ [590, 404, 125, 2, 126, 540, 127, 128, 579, 580, 581, 582, 16, 483, 542, 135, 136, 15, 137, 34, 32, 35, 36, 37, 138, 139, 102, 140, 38, 141, 101, 103, 142, 143, 144, 145, 146, 147, 872, 873, 874, 875, 876, 893, 894, 895, 896, 897, 898, 899, 900, 901, 902, 903, 904, 905, 906, 907, 908] rfl (by decide +kernel)
set_option maxRecDepth 20000 in
theorem gL_law_X3_longestFor : GoodIn wsL_law (wsV RL 86 RX3 yX3_longestFor wsX3_longestFor) := goodIn_app (goodIn_of _ (by decide +kernel)) ggL_law_X3_longestFor
set_option maxRecDepth 20000 in
theorem ggL_law_X4_longestFor : GoodIn wsL_law wsX4_longestFor := goodIn_r _ [594, 59, 208, 209, 5, 210, 108, 109, 110, 222, 223, 224, 225, 226, 227, 228, 229, 230, 231, 232, 233, 234, 235, 236, 214, 215, 216, 217, 877, 878, 879, 880, 881, 882, 883, 884, 885, 886, 887, 888, 889, 890, 891, 892] rfl (by decide +kernel)
set_option maxRecDepth 20000 in
theorem gL_law_X4_longestFor : GoodIn wsL_law (wsV RL 89 RX4 yX4_longestFor wsX4_longestFor) := goodIn_app (goodIn_of _ (by decide +kernel)) ggL_law_X4_longestFor
set_option maxRecDepth 20000 in
theorem ggL_law_X3_givenIf : GoodIn wsL_law wsX3_givenIf := goodIn_r _ [598, 17, 16, 404, 125, 2, 126, 559, 80, 81, 15, 82, 83, 84, 85, 86, 32, 87, 88, 89, 90, 34, 35, 36, 37, 38, 39, 40, 41, 42, 43, 599, 361, 362, 363, 164, 165, 166, 167, 168, 169, 170, 171, 320, 321, 322, 323, 192, 193, 194, 195, 152, 153, 154, 155, 600, 157, 158, 159, 138, 139, 102, 140, 160, 161, 162, 163, 134, 135, 136, 137, 141, 101, 103, 142, 143, 144, 145, 146, 147, 148, 149, 150, 151, 872, 873, 874, 875, 876, 893, 894, 895, 896, 897, 898, 899, 900, 901, 902, 903, 904, 905, 906, 907, 908] rfl (by decide +kernel)
set_option maxRecDepth 20000 in
theorem gL_law_X3_givenIf : GoodIn wsL_law (wsV RL 90 RX3 yX3_givenIf wsX3_givenIf) := goodIn_app (goodIn_of _ (by decide +kernel)) ggL_law_X3_givenIf
set_option maxRecDepth 20000 in
theorem ggL_law_X4_givenIf : GoodIn wsL_law wsX4_givenIf := goodIn_r _ [604, 208, 209, 5, 210, 108, 109, 110, 605, 606, 607, 608, 567, 568, 569, 570, 64, 59, 609, 610, 611, 612, 214, 215, 216, 217, 372, 373, 374, 375, 273, 274, 275, 276, 265, 266, 267, 268, 269, 270, 271, 272, 332, 333, 334, 335, 226, 227, 228, 229, 245, 246, 247, 248, 253, 254, 255, 256, 257, 258, 259, 260, 261, 262, 263, 264, 218, 219, 220, 221, 222, 223, 224, 225, 230, 231, 232, 233, 234, 235, 236, 241, 242, 243, 244, 249, 250, 251, 252, 571, 572, 573, 574, 877, 878, 879, 880, 881, 882, 883, 884, 885, 886, 887, 888, 889, 890, 891, 892] rfl (by decide +kernel)
set_option maxRecDepth 20000 in
theorem gL_law_X4_givenIf : GoodIn wsL_law (wsV RL 93 RX4 yX4_givenIf wsX4_givenIf) := goodIn_app (goodIn_of _ (by decide +kernel)) ggL_law_X4_givenIf
set_option maxRecDepth 20000 in
theorem ggL_law_X3_greatestBar : GoodIn wsL_law wsX3_greatestBar := goodIn_r _ [616, 617, 596, 597, 2, 598, 17, 16, 404, 125, 126, 559, 80, 81, 15, 82, 83, 84, 85, 86, 32, 87, 88, 89, 90, 34, 35, 36, 37, 38, 39, 40, 41, 42, 43, 599, 361, 362, 363, 164, 165, 166, 167, 168, 169, 170, 171, 320, 321, 322, 323, 192, 193, 194, 195, 152, 153, 154, 155, 600, 157, 158, 159, 138, 139, 102, 140, 160, 161, 162, 163, 134, 135, 136, 137, 141, 101, 103, 142, 143, 144, 145, 146, 147, 148, 149, 150, 151, 618, 619, 620, 621, 622, 623, 624, 872, 873, 874, 875, 876, 893, 894, 895, 896, 897, 898, 899, 900, 901, 902, 903, 904, 905, 906, 907, 908] rfl (by decide +kernel)
set_option maxRecDepth 20000 in
theorem gL_law_X3_greatestBar : GoodIn wsL_law (wsV RL 94 RX3 yX3_greatestBar wsX3_greatestBar) := goodIn_app (goodIn_of _ (by decide +kernel)) ggL_law_X3_greatestBar
set_option maxRecDepth 20000 in
theorem ggL_law_X4_greatestBar : GoodIn wsL_law wsX4_greatestBar := goodIn_r _ [628, 108, 109, 5, 110, 605, 606, 607, 608, 567, 568, 569, 570, 64, 59, 609, 610, 611, 612, 214, 215, 216, 217, 372, 373, 374, 375, 273, 274, 275, 276, 265, 266, 267, 268, 269, 270, 271, 272, 332, 333, 334, 335, 226, 227, 228, 229, 245, 246, 247, 248, 253, 254, 255, 256, 257, 258, 259, 260, 261, 262, 263, 264, 218, 219, 220, 221, 222, 223, 224, 225, 230, 231, 232, 233, 234, 235, 236, 241, 242, 243, 244, 249, 250, 251, 252, 571, 572, 573, 574, 629, 630, 631, 293, 294, 295, 877, 878, 879, 880, 881, 882, 883, 884, 885, 886, 887, 888, 889, 890, 891, 892] rfl (by decide +kernel)
set_option maxRecDepth 20000 in
theorem gL_law_X4_greatestBar : GoodIn wsL_law (wsV RL 97 RX4 yX4_greatestBar wsX4_greatestBar) := goodIn_app (goodIn_of _ (by decide +kernel)) ggL_law_X4_greatestBar
