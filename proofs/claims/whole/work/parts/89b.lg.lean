/-! Words of the methods that the law calls -/
set_option maxRecDepth 20000 in
theorem ggL_law_X3_at : GoodIn wsL_law wsX3_at := goodIn_r _ [403, 16, 404, 125, 2, 126, 131, 132, 133, 405, 193, 194, 15, 195, 34, 872, 873, 874, 875, 876, 893, 894, 895, 896, 897, 898, 899, 900, 901, 902, 903, 904, 905, 906, 907, 908] rfl (by decide +kernel)
set_option maxRecDepth 20000 in
theorem gL_law_X3_at : GoodIn wsL_law (wsV RL 41 RX3 yX3_at wsX3_at) := goodIn_app (goodIn_of _ (by decide +kernel)) ggL_law_X3_at
set_option maxRecDepth 20000 in
theorem ggL_law_X4_at : GoodIn wsL_law wsX4_at := goodIn_r _ [409, 208, 209, 5, 210, 108, 109, 110, 226, 227, 228, 229, 59, 877, 878, 879, 880, 881, 882, 883, 884, 885, 886, 887, 888, 889, 890, 891, 892] rfl (by decide +kernel)
set_option maxRecDepth 20000 in
theorem gL_law_X4_at : GoodIn wsL_law (wsV RL 44 RX4 yX4_at wsX4_at) := goodIn_app (goodIn_of _ (by decide +kernel)) ggL_law_X4_at
set_option maxRecDepth 20000 in
theorem ggL_law_X3_owners : GoodIn wsL_law wsX3_owners := goodIn_r _ [413, 16, 131, 132, 2, 133, 405, 193, 194, 15, 195, 34, 872, 873, 874, 875, 876, 893, 894, 895, 896, 897, 898, 899, 900, 901, 902, 903, 904, 905, 906, 907, 908] rfl (by decide +kernel)
set_option maxRecDepth 20000 in
theorem gL_law_X3_owners : GoodIn wsL_law (wsV RL 45 RX3 yX3_owners wsX3_owners) := goodIn_app (goodIn_of _ (by decide +kernel)) ggL_law_X3_owners
set_option maxRecDepth 20000 in
theorem ggL_law_X4_owners : GoodIn wsL_law wsX4_owners := goodIn_r _ [417, 108, 109, 5, 110, 226, 227, 228, 229, 59, 877, 878, 879, 880, 881, 882, 883, 884, 885, 886, 887, 888, 889, 890, 891, 892] rfl (by decide +kernel)
set_option maxRecDepth 20000 in
theorem gL_law_X4_owners : GoodIn wsL_law (wsV RL 48 RX4 yX4_owners wsX4_owners) := goodIn_app (goodIn_of _ (by decide +kernel)) ggL_law_X4_owners
set_option maxRecDepth 20000 in
theorem ggL_law_X3_ofOwner : GoodIn wsL_law wsX3_ofOwner := goodIn_r _ [421, 16, 422, 423, 424, 425, 404, 125, 2, 126, 426, 427, 428, 15, 429, 192, 193, 194, 195, 34, 430, 431, 432, 433, 434, 435, 436, 437, 438, 439, 440, 441, 442, 443, 444, 445, 446, 169, 170, 171, 84, 35, 872, 873, 874, 875, 876, 893, 894, 895, 896, 897, 898, 899, 900, 901, 902, 903, 904, 905, 906, 907, 908] rfl (by decide +kernel)
set_option maxRecDepth 20000 in
theorem gL_law_X3_ofOwner : GoodIn wsL_law (wsV RL 49 RX3 yX3_ofOwner wsX3_ofOwner) := goodIn_app (goodIn_of _ (by decide +kernel)) ggL_law_X3_ofOwner
set_option maxRecDepth 20000 in
theorem ggL_law_X4_ofOwner : GoodIn wsL_law wsX4_ofOwner := goodIn_r _ [450, 208, 209, 5, 210, 108, 109, 110, 451, 452, 453, 454, 226, 227, 228, 229, 59, 455, 456, 457, 458, 459, 460, 461, 462, 265, 266, 267, 268, 214, 215, 216, 217, 877, 878, 879, 880, 881, 882, 883, 884, 885, 886, 887, 888, 889, 890, 891, 892] rfl (by decide +kernel)
set_option maxRecDepth 20000 in
theorem gL_law_X4_ofOwner : GoodIn wsL_law (wsV RL 52 RX4 yX4_ofOwner wsX4_ofOwner) := goodIn_app (goodIn_of _ (by decide +kernel)) ggL_law_X4_ofOwner
set_option maxRecDepth 20000 in
theorem ggL_law_X3_stretch : GoodIn wsL_law wsX3_stretch := goodIn_r _ [466, 16, 404, 125, 2, 126, 467, 468, 469, 15, 470, 434, 435, 436, 437, 192, 193, 194, 195, 34, 405, 471, 472, 473, 474, 872, 873, 874, 875, 876, 893, 894, 895, 896, 897, 898, 899, 900, 901, 902, 903, 904, 905, 906, 907, 908] rfl (by decide +kernel)
set_option maxRecDepth 20000 in
theorem gL_law_X3_stretch : GoodIn wsL_law (wsV RL 53 RX3 yX3_stretch wsX3_stretch) := goodIn_app (goodIn_of _ (by decide +kernel)) ggL_law_X3_stretch
set_option maxRecDepth 20000 in
theorem ggL_law_X4_stretch : GoodIn wsL_law wsX4_stretch := goodIn_r _ [478, 208, 209, 5, 210, 108, 109, 110, 455, 456, 457, 458, 459, 460, 461, 462, 226, 227, 228, 229, 59, 877, 878, 879, 880, 881, 882, 883, 884, 885, 886, 887, 888, 889, 890, 891, 892] rfl (by decide +kernel)
set_option maxRecDepth 20000 in
theorem gL_law_X4_stretch : GoodIn wsL_law (wsV RL 56 RX4 yX4_stretch wsX4_stretch) := goodIn_app (goodIn_of _ (by decide +kernel)) ggL_law_X4_stretch
set_option maxRecDepth 20000 in
theorem ggL_law_X3_inRow : GoodIn wsL_law wsX3_inRow := goodIn_r _ [482, 16, 483, 484, 872, 873, 874, 875, 876, 893, 894, 895, 896, 897, 898, 899, 900, 901, 902, 903, 904, 905, 906, 907, 908] rfl (by decide +kernel)
set_option maxRecDepth 20000 in
theorem gL_law_X3_inRow : GoodIn wsL_law (wsV RL 57 RX3 yX3_inRow wsX3_inRow) := goodIn_app (goodIn_of _ (by decide +kernel)) ggL_law_X3_inRow
set_option maxRecDepth 20000 in
theorem ggL_law_X4_inRow : GoodIn wsL_law wsX4_inRow := goodIn_r _ [488, 59, 108, 109, 5, 110, 877, 878, 879, 880, 881, 882, 883, 884, 885, 886, 887, 888, 889, 890, 891, 892] rfl (by decide +kernel)
set_option maxRecDepth 20000 in
theorem gL_law_X4_inRow : GoodIn wsL_law (wsV RL 60 RX4 yX4_inRow wsX4_inRow) := goodIn_app (goodIn_of _ (by decide +kernel)) ggL_law_X4_inRow
set_option maxRecDepth 20000 in
theorem ggL_law_X3_waitsFor : GoodIn wsL_law wsX3_waitsFor := goodIn_r _ [492, 16, 404, 125, 2, 126, 493, 494, 495, 15, 496, 168, 169, 170, 171, 84, 35, 160, 161, 162, 163, 36, 37, 38, 134, 135, 136, 137, 34, 32, 138, 139, 102, 140, 141, 101, 103, 142, 143, 144, 145, 146, 147, 872, 873, 874, 875, 876, 893, 894, 895, 896, 897, 898, 899, 900, 901, 902, 903, 904, 905, 906, 907, 908] rfl (by decide +kernel)
set_option maxRecDepth 20000 in
theorem gL_law_X3_waitsFor : GoodIn wsL_law (wsV RL 61 RX3 yX3_waitsFor wsX3_waitsFor) := goodIn_app (goodIn_of _ (by decide +kernel)) ggL_law_X3_waitsFor
set_option maxRecDepth 20000 in
theorem ggL_law_X4_waitsFor : GoodIn wsL_law wsX4_waitsFor := goodIn_r _ [500, 208, 209, 5, 210, 108, 109, 110, 261, 262, 263, 264, 265, 266, 267, 268, 59, 214, 215, 216, 217, 218, 219, 220, 221, 222, 223, 224, 225, 226, 227, 228, 229, 230, 231, 232, 233, 234, 235, 236, 877, 878, 879, 880, 881, 882, 883, 884, 885, 886, 887, 888, 889, 890, 891, 892] rfl (by decide +kernel)
set_option maxRecDepth 20000 in
theorem gL_law_X4_waitsFor : GoodIn wsL_law (wsV RL 64 RX4 yX4_waitsFor wsX4_waitsFor) := goodIn_app (goodIn_of _ (by decide +kernel)) ggL_law_X4_waitsFor
set_option maxRecDepth 20000 in
theorem ggL_law_X3_count : GoodIn wsL_law wsX3_count := goodIn_r _ [504, 16, 505, 483, 27, 506, 507, 26, 508, 21, 509, 510, 511, 512, 15, 513, 34, 514, 515, 516, 517, 40, 872, 873, 874, 875, 876, 893, 894, 895, 896, 897, 898, 899, 900, 901, 902, 903, 904, 905, 906, 907, 908, 912, 913, 914, 915, 916, 917, 918, 919, 909, 910, 911] rfl (by decide +kernel)
set_option maxRecDepth 20000 in
theorem gL_law_X3_count : GoodIn wsL_law (wsV RL 65 RX3 yX3_count wsX3_count) := goodIn_app (goodIn_of _ (by decide +kernel)) ggL_law_X3_count
set_option maxRecDepth 20000 in
theorem ggL_law_X4_count : GoodIn wsL_law wsX4_count := goodIn_r _ [521, 59, 522, 115, 523, 524, 525, 5, 526, 527, 415, 416, 417, 108, 109, 110, 226, 227, 228, 229, 528, 529, 530, 531, 214, 215, 216, 217, 877, 878, 879, 880, 881, 882, 883, 884, 885, 886, 887, 888, 889, 890, 891, 892] rfl (by decide +kernel)
set_option maxRecDepth 20000 in
theorem gL_law_X4_count : GoodIn wsL_law (wsV RL 68 RX4 yX4_count wsX4_count) := goodIn_app (goodIn_of _ (by decide +kernel)) ggL_law_X4_count
