set_option maxRecDepth 20000 in
theorem ggL_law_X6_init : GoodIn wsL_law wsX6_init := goodIn_r _ [8, 9, 10, 11, 12, 13, 14, 15, 16, 17, 18, 19, 20, 21, 22, 23, 24, 25, 26, 27, 28, 29, 30, 31, 32, 33, 34, 35, 36, 37, 38, 39, 40, 41, 42, 43, 44, 45, 46, 47, 48, 49, 50, 51, 52, 53, 54, 55, 56, 57, 58, 59, 60, 61, 62, 63, 64, 65, 66, 67, 68, 69, 70, 888, 889, 890, 891, 892, 893, 894, 895, 896, 897, 920, 921, 922, 923, 924, 925, 926, 927, 928, 929, 930, 931, 932, 933, 934, 935, 936, 937, 938, 939, 940, 941, 942, 943, 944, 945, 946] (by decide +kernel) (by decide +kernel)
set_option maxRecDepth 20000 in
theorem gL_law_X6_init : GoodIn wsL_law (wsX6_init) := ggL_law_X6_init
set_option maxRecDepth 20000 in
theorem ggL_law_X7_init : GoodIn wsL_law wsX7_init := goodIn_r _ [73, 74, 10, 11, 41, 75, 76, 77, 78, 79, 80, 81, 82, 83, 84, 85, 86, 87, 88, 898, 899, 900, 901, 902, 903, 904, 905, 906, 907, 908, 909, 910, 911, 912, 913, 914, 915, 916, 917, 918, 919] (by decide +kernel) (by decide +kernel)
set_option maxRecDepth 20000 in
theorem gL_law_X7_init : GoodIn wsL_law (wsX7_init) := ggL_law_X7_init
set_option maxRecDepth 20000 in
theorem ggL_law_X6_row : GoodIn wsL_law wsX6_row := goodIn_r _ [92, 93, 13, 94, 95, 2, 96, 97, 98, 99, 100, 101, 102, 103, 104, 105, 106, 107, 108, 37, 109, 110, 111, 112, 70, 113, 114, 115, 116, 117, 118, 119, 120, 888, 889, 890, 891, 892, 893, 894, 895, 896, 897, 943, 944, 945, 946] (by decide +kernel) (by decide +kernel)
set_option maxRecDepth 20000 in
theorem gL_law_X6_row : GoodIn wsL_law (wsV RL 13 RX6 yX6_row wsX6_row) := goodIn_app (goodIn_of _ (by decide +kernel)) ggL_law_X6_row
set_option maxRecDepth 20000 in
theorem ggL_law_X7_row : GoodIn wsL_law wsX7_row := goodIn_r _ [124, 125, 75, 76, 77, 126, 127, 5, 128, 129, 130, 131, 132, 133, 134, 135, 136, 137, 138, 139, 140, 141, 898, 899, 900, 901, 902, 903, 904, 905, 906, 907, 908, 909, 910, 911, 912, 913, 914, 915, 916, 917, 918, 919] (by decide +kernel) (by decide +kernel)
set_option maxRecDepth 20000 in
theorem gL_law_X7_row : GoodIn wsL_law (wsV RL 17 RX7 yX7_row wsX7_row) := goodIn_app (goodIn_of _ (by decide +kernel)) ggL_law_X7_row
set_option maxRecDepth 20000 in
theorem ggL_law_X6_set : GoodIn wsL_law wsX6_set := goodIn_r _ [145, 93, 13, 146, 94, 95, 2, 96, 97, 98, 99, 147, 148, 149, 150, 151, 152, 153, 37, 154, 112, 100, 101, 102, 103, 104, 105, 155, 156, 157, 158, 111, 117, 118, 119, 120, 888, 889, 890, 891, 892, 893, 894, 895, 896, 897, 943, 944, 945, 946] (by decide +kernel) (by decide +kernel)
set_option maxRecDepth 20000 in
theorem gL_law_X6_set : GoodIn wsL_law (wsV RL 18 RX6 yX6_set wsX6_set) := goodIn_app (goodIn_of _ (by decide +kernel)) ggL_law_X6_set
set_option maxRecDepth 20000 in
theorem ggL_law_X7_set : GoodIn wsL_law wsX7_set := goodIn_r _ [162, 125, 76, 77, 75, 126, 127, 5, 128, 129, 130, 131, 163, 164, 165, 166, 88, 132, 133, 134, 135, 136, 137, 167, 168, 169, 138, 139, 140, 141, 898, 899, 900, 901, 902, 903, 904, 905, 906, 907, 908, 909, 910, 911, 912, 913, 914, 915, 916, 917, 918, 919] (by decide +kernel) (by decide +kernel)
set_option maxRecDepth 20000 in
theorem gL_law_X7_set : GoodIn wsL_law (wsV RL 21 RX7 yX7_set wsX7_set) := goodIn_app (goodIn_of _ (by decide +kernel)) ggL_law_X7_set
set_option maxRecDepth 20000 in
theorem ggL_law_X6_copy : GoodIn wsL_law wsX6_copy := goodIn_r _ [173, 93, 13, 150, 174, 146, 175, 176, 177, 178, 94, 95, 2, 96, 97, 98, 99, 100, 101, 102, 103, 104, 105, 151, 152, 153, 37, 154, 112, 117, 118, 119, 120, 888, 889, 890, 891, 892, 893, 894, 895, 896, 897, 943, 944, 945, 946] (by decide +kernel) (by decide +kernel)
set_option maxRecDepth 20000 in
theorem gL_law_X6_copy : GoodIn wsL_law (wsV RL 22 RX6 yX6_copy wsX6_copy) := goodIn_app (goodIn_of _ (by decide +kernel)) ggL_law_X6_copy
set_option maxRecDepth 20000 in
theorem ggL_law_X7_copy : GoodIn wsL_law wsX7_copy := goodIn_r _ [182, 125, 75, 78, 77, 126, 127, 5, 128, 129, 130, 131, 163, 164, 165, 166, 88, 132, 133, 134, 135, 136, 137, 183, 184, 185, 186, 76, 138, 139, 140, 141, 898, 899, 900, 901, 902, 903, 904, 905, 906, 907, 908, 909, 910, 911, 912, 913, 914, 915, 916, 917, 918, 919] (by decide +kernel) (by decide +kernel)
set_option maxRecDepth 20000 in
theorem gL_law_X7_copy : GoodIn wsL_law (wsV RL 26 RX7 yX7_copy wsX7_copy) := goodIn_app (goodIn_of _ (by decide +kernel)) ggL_law_X7_copy
set_option maxRecDepth 20000 in
theorem ggL_law_X6_drop : GoodIn wsL_law wsX6_drop := goodIn_r _ [190, 93, 13, 150, 191, 94, 95, 2, 96, 97, 98, 99, 100, 101, 102, 103, 104, 105, 117, 118, 119, 120, 888, 889, 890, 891, 892, 893, 894, 895, 896, 897, 943, 944, 945, 946] (by decide +kernel) (by decide +kernel)
set_option maxRecDepth 20000 in
theorem gL_law_X6_drop : GoodIn wsL_law (wsV RL 27 RX6 yX6_drop wsX6_drop) := goodIn_app (goodIn_of _ (by decide +kernel)) ggL_law_X6_drop
set_option maxRecDepth 20000 in
theorem ggL_law_X7_drop : GoodIn wsL_law wsX7_drop := goodIn_r _ [195, 125, 75, 88, 76, 126, 127, 5, 128, 129, 130, 131, 163, 164, 165, 166, 132, 133, 134, 135, 136, 137, 138, 139, 140, 141, 898, 899, 900, 901, 902, 903, 904, 905, 906, 907, 908, 909, 910, 911, 912, 913, 914, 915, 916, 917, 918, 919] (by decide +kernel) (by decide +kernel)
set_option maxRecDepth 20000 in
theorem gL_law_X7_drop : GoodIn wsL_law (wsV RL 31 RX7 yX7_drop wsX7_drop) := goodIn_app (goodIn_of _ (by decide +kernel)) ggL_law_X7_drop
set_option maxRecDepth 20000 in
theorem ggL_law_X6_feed : GoodIn wsL_law wsX6_feed := goodIn_r _ [199, 93, 17, 200, 201, 202, 203, 204, 16, 205, 206, 42, 888, 889, 890, 891, 892, 893, 894, 895, 896, 897, 920, 921, 922, 923, 924] (by decide +kernel) (by decide +kernel)
set_option maxRecDepth 20000 in
theorem gL_law_X6_feed : GoodIn wsL_law (wsV RL 32 RX6 yX6_feed wsX6_feed) := goodIn_app (goodIn_of _ (by decide +kernel)) ggL_law_X6_feed
set_option maxRecDepth 20000 in
theorem ggL_law_X7_feed : GoodIn wsL_law wsX7_feed := goodIn_r _ [210, 125, 211, 212, 79, 129, 130, 5, 131, 898, 899, 900, 901, 902, 903, 904, 905, 906, 907, 908, 909, 910, 911, 912, 913, 914, 915, 916, 917, 918, 919] (by decide +kernel) (by decide +kernel)
set_option maxRecDepth 20000 in
theorem gL_law_X7_feed : GoodIn wsL_law (wsV RL 35 RX7 yX7_feed wsX7_feed) := goodIn_app (goodIn_of _ (by decide +kernel)) ggL_law_X7_feed
set_option maxRecDepth 20000 in
theorem ggL_law_X6_wood : GoodIn wsL_law wsX6_wood := goodIn_r _ [216, 17, 22, 200, 217, 218, 219, 220, 21, 27, 221, 222, 223, 224, 16, 225, 226, 206, 227, 228, 229, 230, 231, 232, 233, 234, 235, 236, 237, 238, 42, 239, 240, 241, 242, 243, 244, 245, 246, 247, 248, 249, 250, 251, 252, 253, 254, 20, 255, 256, 257, 258, 259, 260, 261, 262, 263, 264, 265, 266, 267, 268, 269, 270, 271, 272, 273, 46, 47, 48, 274, 275, 276, 277, 278, 279, 280, 281, 282, 49, 51, 283, 284, 285, 286, 50, 52, 287, 288, 289, 290, 291, 176, 177, 178, 292, 293, 294, 26, 295, 296, 888, 889, 890, 891, 892, 893, 894, 895, 896, 897, 920, 921, 922, 923, 924, 925, 926, 927, 928, 929, 930, 931, 932, 933, 934, 935, 936, 937, 938, 939] (by decide +kernel) (by decide +kernel)
set_option maxRecDepth 20000 in
theorem gL_law_X6_wood : GoodIn wsL_law (wsV RL 36 RX6 yX6_wood wsX6_wood) := goodIn_app (goodIn_of _ (by decide +kernel)) ggL_law_X6_wood
set_option maxRecDepth 20000 in
theorem ggL_law_X7_wood : GoodIn wsL_law wsX7_wood := goodIn_r _ [300, 81, 301, 302, 303, 304, 211, 305, 80, 306, 307, 308, 309, 5, 310, 311, 312, 313, 314, 315, 79, 129, 130, 131, 316, 317, 318, 319, 320, 321, 322, 323, 324, 325, 326, 327, 328, 329, 330, 331, 332, 333, 334, 335, 336, 337, 338, 339, 340, 341, 342, 343, 344, 345, 346, 347, 348, 349, 898, 899, 900, 901, 902, 903, 904, 905, 906, 907, 908, 909, 910, 911, 912, 913, 914, 915, 916, 917, 918, 919] (by decide +kernel) (by decide +kernel)
set_option maxRecDepth 20000 in
theorem gL_law_X7_wood : GoodIn wsL_law (wsV RL 40 RX7 yX7_wood wsX7_wood) := goodIn_app (goodIn_of _ (by decide +kernel)) ggL_law_X7_wood
set_option maxRecDepth 20000 in
theorem ggL_law_X6_fault : GoodIn wsL_law wsX6_fault := goodIn_r _ [353, 218, 888, 889, 890, 891, 892, 893, 894, 895, 896, 897] (by decide +kernel) (by decide +kernel)
set_option maxRecDepth 20000 in
theorem gL_law_X6_fault : GoodIn wsL_law (wsV RL 41 RX6 yX6_fault wsX6_fault) := goodIn_app (goodIn_of _ (by decide +kernel)) ggL_law_X6_fault
set_option maxRecDepth 20000 in
theorem ggL_law_X7_fault : GoodIn wsL_law wsX7_fault := goodIn_r _ [357, 320, 898, 899, 900, 901, 902, 903, 904, 905, 906, 907, 908, 909, 910, 911, 912, 913, 914, 915, 916, 917, 918, 919] (by decide +kernel) (by decide +kernel)
set_option maxRecDepth 20000 in
theorem gL_law_X7_fault : GoodIn wsL_law (wsV RL 44 RX7 yX7_fault wsX7_fault) := goodIn_app (goodIn_of _ (by decide +kernel)) ggL_law_X7_fault
set_option maxRecDepth 20000 in
theorem ggL_law_X6_years : GoodIn wsL_law wsX6_years := goodIn_r _ [361, 21, 362, 363, 93, 364, 201, 27, 365, 366, 367, 26, 368, 58, 369, 296, 370, 371, 372, 373, 374, 288, 289, 20, 290, 256, 257, 258, 259, 260, 46, 291, 176, 177, 178, 47, 48, 49, 50, 51, 52, 375, 376, 377, 378, 379, 380, 381, 382, 383, 384, 385, 386, 387, 388, 389, 390, 391, 392, 393, 394, 395, 396, 397, 398, 399, 400, 401, 402, 403, 404, 405, 406, 888, 889, 890, 891, 892, 893, 894, 895, 896, 897, 925, 926, 927, 928, 929, 930, 931, 932, 933, 934, 935, 936, 937, 938, 939] (by decide +kernel) (by decide +kernel)
set_option maxRecDepth 20000 in
theorem gL_law_X6_years : GoodIn wsL_law (wsV RL 45 RX6 yX6_years wsX6_years) := goodIn_app (goodIn_of _ (by decide +kernel)) ggL_law_X6_years
set_option maxRecDepth 20000 in
theorem ggL_law_X7_years : GoodIn wsL_law wsX7_years := goodIn_r _ [410, 411, 125, 80, 212, 88, 412, 413, 414, 5, 415, 129, 130, 131, 416, 417, 418, 419, 306, 82, 347, 348, 349, 420, 421, 422, 423, 424, 425, 426, 427, 428, 429, 430, 431, 432, 433, 434, 435, 436, 437, 898, 899, 900, 901, 902, 903, 904, 905, 906, 907, 908, 909, 910, 911, 912, 913, 914, 915, 916, 917, 918, 919] (by decide +kernel) (by decide +kernel)
set_option maxRecDepth 20000 in
theorem gL_law_X7_years : GoodIn wsL_law (wsV RL 48 RX7 yX7_years wsX7_years) := goodIn_app (goodIn_of _ (by decide +kernel)) ggL_law_X7_years
set_option maxRecDepth 20000 in
theorem ggL_law_X6_cut : GoodIn wsL_law wsX6_cut := goodIn_r _ [441, 21, 93, 363, 221, 201, 27, 442, 443, 444, 20, 445, 259, 98, 2, 99, 97, 446, 447, 448, 449, 280, 281, 282, 260, 49, 51, 365, 366, 367, 26, 368, 58, 369, 296, 370, 371, 372, 373, 374, 288, 289, 290, 256, 257, 258, 46, 291, 176, 177, 178, 47, 48, 50, 52, 450, 284, 285, 286, 888, 889, 890, 891, 892, 893, 894, 895, 896, 897, 925, 926, 927, 928, 929, 930, 931, 932, 933, 934, 935, 936, 937, 938, 939] (by decide +kernel) (by decide +kernel)
set_option maxRecDepth 20000 in
theorem gL_law_X6_cut : GoodIn wsL_law (wsV RL 49 RX6 yX6_cut wsX6_cut) := goodIn_app (goodIn_of _ (by decide +kernel)) ggL_law_X6_cut
set_option maxRecDepth 20000 in
theorem ggL_law_X7_cut_ : GoodIn wsL_law wsX7_cut_ := goodIn_r _ [454, 125, 80, 411, 212, 455, 456, 457, 5, 458, 129, 130, 131, 344, 345, 346, 416, 417, 418, 419, 306, 82, 347, 348, 349, 898, 899, 900, 901, 902, 903, 904, 905, 906, 907, 908, 909, 910, 911, 912, 913, 914, 915, 916, 917, 918, 919] (by decide +kernel) (by decide +kernel)
set_option maxRecDepth 20000 in
theorem gL_law_X7_cut_ : GoodIn wsL_law (wsV RL 53 RX7 yX7_cut_ wsX7_cut_) := goodIn_app (goodIn_of _ (by decide +kernel)) ggL_law_X7_cut_
set_option maxRecDepth 20000 in
theorem ggL_law_X6_anew : GoodIn wsL_law wsX6_anew := goodIn_r _ [462, 21, 93, 463, 363, 27, 464, 465, 466, 20, 467, 260, 98, 2, 99, 446, 447, 448, 365, 366, 367, 26, 368, 58, 369, 296, 370, 371, 372, 373, 374, 288, 289, 290, 256, 257, 258, 259, 46, 291, 176, 177, 178, 47, 48, 49, 50, 51, 52, 888, 889, 890, 891, 892, 893, 894, 895, 896, 897, 925, 926, 927, 928, 929, 930, 931, 932, 933, 934, 935, 936, 937, 938, 939] (by decide +kernel) (by decide +kernel)
set_option maxRecDepth 20000 in
theorem gL_law_X6_anew : GoodIn wsL_law (wsV RL 54 RX6 yX6_anew wsX6_anew) := goodIn_app (goodIn_of _ (by decide +kernel)) ggL_law_X6_anew
set_option maxRecDepth 20000 in
theorem ggL_law_X7_anew : GoodIn wsL_law wsX7_anew := goodIn_r _ [471, 125, 80, 411, 472, 473, 474, 5, 475, 129, 130, 131, 416, 417, 418, 419, 306, 82, 347, 348, 349, 898, 899, 900, 901, 902, 903, 904, 905, 906, 907, 908, 909, 910, 911, 912, 913, 914, 915, 916, 917, 918, 919] (by decide +kernel) (by decide +kernel)
set_option maxRecDepth 20000 in
theorem gL_law_X7_anew : GoodIn wsL_law (wsV RL 58 RX7 yX7_anew wsX7_anew) := goodIn_app (goodIn_of _ (by decide +kernel)) ggL_law_X7_anew
set_option maxRecDepth 20000 in
theorem ggL_law_X6_scrape : GoodIn wsL_law wsX6_scrape := goodIn_r _ [479, 21, 93, 27, 221, 464, 465, 466, 20, 467, 260, 98, 2, 99, 365, 366, 367, 26, 368, 58, 369, 296, 370, 371, 372, 373, 374, 288, 289, 290, 256, 257, 258, 259, 46, 291, 176, 177, 178, 47, 48, 49, 50, 51, 52, 480, 481, 482, 483, 888, 889, 890, 891, 892, 893, 894, 895, 896, 897, 925, 926, 927, 928, 929, 930, 931, 932, 933, 934, 935, 936, 937, 938, 939] (by decide +kernel) (by decide +kernel)
set_option maxRecDepth 20000 in
theorem gL_law_X6_scrape : GoodIn wsL_law (wsV RL 59 RX6 yX6_scrape wsX6_scrape) := goodIn_app (goodIn_of _ (by decide +kernel)) ggL_law_X6_scrape
set_option maxRecDepth 20000 in
theorem ggL_law_X7_scrape : GoodIn wsL_law wsX7_scrape := goodIn_r _ [487, 125, 80, 472, 473, 474, 5, 475, 129, 130, 131, 416, 417, 418, 419, 306, 82, 347, 348, 349, 898, 899, 900, 901, 902, 903, 904, 905, 906, 907, 908, 909, 910, 911, 912, 913, 914, 915, 916, 917, 918, 919] (by decide +kernel) (by decide +kernel)
set_option maxRecDepth 20000 in
theorem gL_law_X7_scrape : GoodIn wsL_law (wsV RL 62 RX7 yX7_scrape wsX7_scrape) := goodIn_app (goodIn_of _ (by decide +kernel)) ggL_law_X7_scrape
set_option maxRecDepth 20000 in
theorem ggL_law_X6_undo : GoodIn wsL_law wsX6_undo := goodIn_r _ [491, 27, 492, 363, 21, 493, 494, 495, 26, 496, 296, 369, 58, 374, 288, 289, 20, 290, 256, 257, 258, 259, 260, 46, 291, 176, 177, 178, 47, 48, 49, 50, 51, 52, 888, 889, 890, 891, 892, 893, 894, 895, 896, 897, 937, 938, 939, 925, 926, 927, 928, 929, 930, 931, 932, 933, 934, 935, 936] (by decide +kernel) (by decide +kernel)
set_option maxRecDepth 20000 in
theorem gL_law_X6_undo : GoodIn wsL_law (wsV RL 63 RX6 yX6_undo wsX6_undo) := goodIn_app (goodIn_of _ (by decide +kernel)) ggL_law_X6_undo
set_option maxRecDepth 20000 in
theorem ggL_law_X7_undo : GoodIn wsL_law wsX7_undo := goodIn_r _ [500, 306, 411, 82, 80, 347, 348, 5, 349, 898, 899, 900, 901, 902, 903, 904, 905, 906, 907, 908, 909, 910, 911, 912, 913, 914, 915, 916, 917, 918, 919] (by decide +kernel) (by decide +kernel)
set_option maxRecDepth 20000 in
theorem gL_law_X7_undo : GoodIn wsL_law (wsV RL 66 RX7 yX7_undo wsX7_undo) := goodIn_app (goodIn_of _ (by decide +kernel)) ggL_law_X7_undo
set_option maxRecDepth 20000 in
theorem ggL_law_X6_tree : GoodIn wsL_law wsX6_tree := goodIn_r _ [504, 21, 93, 505, 506, 442, 443, 444, 20, 445, 259, 98, 2, 99, 507, 508, 509, 510, 260, 49, 511, 397, 398, 399, 52, 512, 380, 381, 382, 47, 383, 371, 372, 373, 384, 385, 386, 387, 48, 46, 258, 888, 889, 890, 891, 892, 893, 894, 895, 896, 897, 925, 926, 927, 928, 929, 930, 931, 932, 933, 934, 935, 936] (by decide +kernel) (by decide +kernel)
set_option maxRecDepth 20000 in
theorem gL_law_X6_tree : GoodIn wsL_law (wsV RL 67 RX6 yX6_tree wsX6_tree) := goodIn_app (goodIn_of _ (by decide +kernel)) ggL_law_X6_tree
set_option maxRecDepth 20000 in
theorem ggL_law_X7_tree : GoodIn wsL_law wsX7_tree := goodIn_r _ [516, 125, 80, 455, 456, 457, 5, 458, 129, 130, 131, 432, 433, 434, 88, 423, 424, 425, 426, 427, 428, 898, 899, 900, 901, 902, 903, 904, 905, 906, 907, 908, 909, 910, 911, 912, 913, 914, 915, 916, 917, 918, 919] (by decide +kernel) (by decide +kernel)
set_option maxRecDepth 20000 in
theorem gL_law_X7_tree : GoodIn wsL_law (wsV RL 70 RX7 yX7_tree wsX7_tree) := goodIn_app (goodIn_of _ (by decide +kernel)) ggL_law_X7_tree
set_option maxRecDepth 20000 in
theorem ggL_law_X6_cutHas : GoodIn wsL_law wsX6_cutHas := goodIn_r _ [520, 21, 93, 521, 522, 523, 463, 464, 465, 466, 20, 467, 260, 98, 2, 99, 888, 889, 890, 891, 892, 893, 894, 895, 896, 897, 925, 926, 927, 928, 929, 930, 931, 932, 933, 934, 935, 936] (by decide +kernel) (by decide +kernel)
set_option maxRecDepth 20000 in
theorem gL_law_X6_cutHas : GoodIn wsL_law (wsV RL 71 RX6 yX6_cutHas wsX6_cutHas) := goodIn_app (goodIn_of _ (by decide +kernel)) ggL_law_X6_cutHas
set_option maxRecDepth 20000 in
theorem ggL_law_X7_cutHas : GoodIn wsL_law wsX7_cutHas := goodIn_r _ [527, 80, 125, 472, 473, 474, 5, 475, 129, 130, 131, 898, 899, 900, 901, 902, 903, 904, 905, 906, 907, 908, 909, 910, 911, 912, 913, 914, 915, 916, 917, 918, 919] (by decide +kernel) (by decide +kernel)
set_option maxRecDepth 20000 in
theorem gL_law_X7_cutHas : GoodIn wsL_law (wsV RL 74 RX7 yX7_cutHas wsX7_cutHas) := goodIn_app (goodIn_of _ (by decide +kernel)) ggL_law_X7_cutHas
set_option maxRecDepth 20000 in
theorem ggL_law_X6_apart : GoodIn wsL_law wsX6_apart := goodIn_r _ [531, 21, 93, 532, 464, 465, 466, 20, 467, 260, 98, 2, 99, 533, 534, 535, 536, 49, 52, 537, 538, 539, 540, 47, 541, 542, 543, 544, 51, 545, 546, 372, 547, 383, 371, 373, 888, 889, 890, 891, 892, 893, 894, 895, 896, 897, 925, 926, 927, 928, 929, 930, 931, 932, 933, 934, 935, 936] (by decide +kernel) (by decide +kernel)
set_option maxRecDepth 20000 in
theorem gL_law_X6_apart : GoodIn wsL_law (wsV RL 75 RX6 yX6_apart wsX6_apart) := goodIn_app (goodIn_of _ (by decide +kernel)) ggL_law_X6_apart
set_option maxRecDepth 20000 in
theorem ggL_law_X7_apart : GoodIn wsL_law wsX7_apart := goodIn_r _ [551, 125, 80, 88, 472, 473, 474, 5, 475, 129, 130, 131, 552, 553, 554, 555, 556, 557, 558, 559, 560, 561, 898, 899, 900, 901, 902, 903, 904, 905, 906, 907, 908, 909, 910, 911, 912, 913, 914, 915, 916, 917, 918, 919] (by decide +kernel) (by decide +kernel)
set_option maxRecDepth 20000 in
theorem gL_law_X7_apart : GoodIn wsL_law (wsV RL 78 RX7 yX7_apart wsX7_apart) := goodIn_app (goodIn_of _ (by decide +kernel)) ggL_law_X7_apart
set_option maxRecDepth 20000 in
theorem ggL_law_X6_together : GoodIn wsL_law wsX6_together := goodIn_r _ [565, 93, 21, 566, 567, 568, 2, 569, 521, 464, 465, 466, 20, 467, 260, 98, 99, 570, 571, 572, 573, 31, 574, 575, 576, 30, 577, 62, 578, 579, 114, 115, 116, 580, 581, 582, 583, 257, 584, 534, 535, 536, 49, 52, 585, 538, 539, 540, 47, 541, 542, 543, 544, 51, 545, 546, 372, 547, 383, 371, 373, 586, 587, 588, 589, 590, 591, 592, 593, 594, 595, 596, 888, 889, 890, 891, 892, 893, 894, 895, 896, 897, 925, 926, 927, 928, 929, 930, 931, 932, 933, 934, 935, 936, 940] (by decide +kernel) (by decide +kernel)
set_option maxRecDepth 20000 in
theorem gL_law_X6_together : GoodIn wsL_law (wsV RL 79 RX6 yX6_together wsX6_together) := goodIn_app (goodIn_of _ (by decide +kernel)) ggL_law_X6_together
set_option maxRecDepth 20000 in
theorem ggL_law_X7_together : GoodIn wsL_law wsX7_together := goodIn_r _ [600, 125, 80, 552, 553, 554, 5, 555, 472, 473, 474, 475, 129, 130, 131, 601, 602, 603, 432, 433, 434, 88, 604, 605, 606, 607, 608, 609, 556, 557, 558, 559, 560, 561, 898, 899, 900, 901, 902, 903, 904, 905, 906, 907, 908, 909, 910, 911, 912, 913, 914, 915, 916, 917, 918, 919] (by decide +kernel) (by decide +kernel)
set_option maxRecDepth 20000 in
theorem gL_law_X7_together : GoodIn wsL_law (wsV RL 82 RX7 yX7_together wsX7_together) := goodIn_app (goodIn_of _ (by decide +kernel)) ggL_law_X7_together
set_option maxRecDepth 20000 in
theorem ggL_law_X6_girth : GoodIn wsL_law wsX6_girth := goodIn_r _ [613, 21, 93, 22, 505, 442, 443, 444, 20, 445, 259, 98, 2, 99, 614, 615, 616, 97, 617, 618, 619, 620, 287, 288, 289, 290, 256, 257, 258, 260, 46, 291, 176, 177, 178, 47, 48, 49, 50, 51, 52, 621, 622, 623, 624, 625, 376, 377, 378, 379, 380, 381, 382, 383, 371, 372, 373, 384, 385, 386, 387, 388, 389, 390, 391, 392, 393, 394, 395, 888, 889, 890, 891, 892, 893, 894, 895, 896, 897, 925, 926, 927, 928, 929, 930, 931, 932, 933, 934, 935, 936] (by decide +kernel) (by decide +kernel)
set_option maxRecDepth 20000 in
theorem gL_law_X6_girth : GoodIn wsL_law (wsV RL 83 RX6 yX6_girth wsX6_girth) := goodIn_app (goodIn_of _ (by decide +kernel)) ggL_law_X6_girth
set_option maxRecDepth 20000 in
theorem ggL_law_X7_girth : GoodIn wsL_law wsX7_girth := goodIn_r _ [629, 125, 86, 455, 456, 457, 5, 458, 80, 129, 130, 131, 630, 631, 632, 633, 634, 635, 636, 347, 348, 349, 420, 421, 422, 423, 424, 425, 426, 427, 428, 429, 430, 431, 898, 899, 900, 901, 902, 903, 904, 905, 906, 907, 908, 909, 910, 911, 912, 913, 914, 915, 916, 917, 918, 919] (by decide +kernel) (by decide +kernel)
set_option maxRecDepth 20000 in
theorem gL_law_X7_girth : GoodIn wsL_law (wsV RL 86 RX7 yX7_girth wsX7_girth) := goodIn_app (goodIn_of _ (by decide +kernel)) ggL_law_X7_girth
set_option maxRecDepth 20000 in
theorem ggL_law_X6_left : GoodIn wsL_law wsX6_left := goodIn_r _ [640, 21, 362, 363, 93, 22, 614, 615, 2, 616, 97, 98, 99, 617, 618, 619, 620, 287, 288, 289, 20, 290, 256, 257, 258, 259, 260, 46, 291, 176, 177, 178, 47, 48, 49, 50, 51, 52, 621, 622, 623, 624, 625, 376, 377, 378, 379, 380, 381, 382, 383, 371, 372, 373, 384, 385, 386, 387, 388, 389, 390, 391, 392, 393, 394, 395, 396, 397, 398, 399, 888, 889, 890, 891, 892, 893, 894, 895, 896, 897, 925, 926, 927, 928, 929, 930, 931, 932, 933, 934, 935, 936] (by decide +kernel) (by decide +kernel)
set_option maxRecDepth 20000 in
theorem gL_law_X6_left : GoodIn wsL_law (wsV RL 87 RX6 yX6_left wsX6_left) := goodIn_app (goodIn_of _ (by decide +kernel)) ggL_law_X6_left
set_option maxRecDepth 20000 in
theorem ggL_law_X7_left : GoodIn wsL_law wsX7_left := goodIn_r _ [644, 411, 125, 86, 88, 412, 413, 414, 5, 415, 80, 630, 631, 632, 129, 130, 131, 633, 634, 635, 636, 347, 348, 349, 420, 421, 422, 423, 424, 425, 426, 427, 428, 429, 430, 431, 432, 433, 434, 898, 899, 900, 901, 902, 903, 904, 905, 906, 907, 908, 909, 910, 911, 912, 913, 914, 915, 916, 917, 918, 919] (by decide +kernel) (by decide +kernel)
set_option maxRecDepth 20000 in
theorem gL_law_X7_left : GoodIn wsL_law (wsV RL 90 RX7 yX7_left wsX7_left) := goodIn_app (goodIn_of _ (by decide +kernel)) ggL_law_X7_left
set_option maxRecDepth 20000 in
theorem ggL_law_X6_free : GoodIn wsL_law wsX6_free := goodIn_r _ [648, 93, 22, 21, 532, 566, 567, 568, 2, 569, 521, 464, 465, 466, 20, 467, 260, 98, 99, 287, 288, 289, 290, 256, 257, 258, 259, 46, 291, 176, 177, 178, 47, 48, 49, 50, 51, 52, 570, 571, 572, 573, 31, 574, 575, 576, 30, 577, 62, 578, 579, 114, 115, 116, 580, 581, 582, 583, 584, 534, 535, 536, 585, 538, 539, 540, 541, 542, 543, 544, 545, 546, 372, 547, 383, 371, 373, 586, 587, 588, 589, 590, 591, 592, 593, 594, 595, 596, 375, 376, 377, 378, 379, 380, 381, 382, 384, 385, 386, 387, 388, 389, 390, 391, 392, 393, 394, 395, 888, 889, 890, 891, 892, 893, 894, 895, 896, 897, 925, 926, 927, 928, 929, 930, 931, 932, 933, 934, 935, 936, 940] (by decide +kernel) (by decide +kernel)
set_option maxRecDepth 20000 in
theorem gL_law_X6_free : GoodIn wsL_law (wsV RL 91 RX6 yX6_free wsX6_free) := goodIn_app (goodIn_of _ (by decide +kernel)) ggL_law_X6_free
set_option maxRecDepth 20000 in
theorem ggL_law_X7_free : GoodIn wsL_law wsX7_free := goodIn_r _ [652, 125, 86, 88, 552, 553, 554, 5, 555, 80, 472, 473, 474, 475, 129, 130, 131, 633, 634, 635, 636, 347, 348, 349, 420, 421, 422, 423, 424, 425, 426, 427, 428, 429, 430, 431, 601, 602, 603, 432, 433, 434, 604, 605, 606, 607, 608, 609, 556, 557, 558, 559, 560, 561, 898, 899, 900, 901, 902, 903, 904, 905, 906, 907, 908, 909, 910, 911, 912, 913, 914, 915, 916, 917, 918, 919] (by decide +kernel) (by decide +kernel)
set_option maxRecDepth 20000 in
theorem gL_law_X7_free : GoodIn wsL_law (wsV RL 94 RX7 yX7_free wsX7_free) := goodIn_app (goodIn_of _ (by decide +kernel)) ggL_law_X7_free
set_option maxRecDepth 20000 in
theorem ggL_law_X6_holds : GoodIn wsL_law wsX6_holds := goodIn_r _ [656, 21, 362, 363, 93, 22, 221, 657, 446, 447, 2, 448, 614, 615, 616, 97, 98, 99, 287, 288, 289, 20, 290, 256, 257, 258, 259, 260, 46, 291, 176, 177, 178, 47, 48, 49, 50, 51, 52, 450, 284, 285, 286, 658, 659, 660, 661, 662, 581, 582, 583, 584, 534, 535, 536, 585, 538, 539, 540, 541, 542, 543, 544, 545, 546, 372, 547, 383, 371, 373, 375, 376, 377, 378, 379, 380, 381, 382, 384, 385, 386, 387, 388, 389, 390, 391, 392, 393, 394, 395, 888, 889, 890, 891, 892, 893, 894, 895, 896, 897, 925, 926, 927, 928, 929, 930, 931, 932, 933, 934, 935, 936] (by decide +kernel) (by decide +kernel)
set_option maxRecDepth 20000 in
theorem gL_law_X6_holds : GoodIn wsL_law (wsV RL 95 RX6 yX6_holds wsX6_holds) := goodIn_app (goodIn_of _ (by decide +kernel)) ggL_law_X6_holds
set_option maxRecDepth 20000 in
theorem ggL_law_X7_holds : GoodIn wsL_law wsX7_holds := goodIn_r _ [666, 411, 125, 80, 86, 412, 413, 414, 5, 415, 129, 130, 131, 630, 631, 632, 633, 634, 635, 636, 347, 348, 349, 420, 421, 422, 423, 424, 425, 426, 427, 428, 429, 430, 431, 667, 668, 669, 670, 898, 899, 900, 901, 902, 903, 904, 905, 906, 907, 908, 909, 910, 911, 912, 913, 914, 915, 916, 917, 918, 919] (by decide +kernel) (by decide +kernel)
set_option maxRecDepth 20000 in
theorem gL_law_X7_holds : GoodIn wsL_law (wsV RL 98 RX7 yX7_holds wsX7_holds) := goodIn_app (goodIn_of _ (by decide +kernel)) ggL_law_X7_holds
set_option maxRecDepth 20000 in
theorem ggL_law_X6_deep : GoodIn wsL_law wsX6_deep := goodIn_r _ [674, 21, 93, 22, 221, 463, 532, 442, 443, 444, 20, 445, 259, 98, 2, 99, 614, 615, 616, 97, 287, 288, 289, 290, 256, 257, 258, 260, 46, 291, 176, 177, 178, 47, 48, 49, 50, 51, 52, 450, 284, 285, 286, 621, 622, 623, 624, 625, 376, 377, 378, 379, 380, 381, 382, 383, 371, 372, 373, 384, 385, 386, 387, 388, 389, 390, 391, 392, 393, 394, 395, 888, 889, 890, 891, 892, 893, 894, 895, 896, 897, 925, 926, 927, 928, 929, 930, 931, 932, 933, 934, 935, 936] (by decide +kernel) (by decide +kernel)
set_option maxRecDepth 20000 in
theorem gL_law_X6_deep : GoodIn wsL_law (wsV RL 99 RX6 yX6_deep wsX6_deep) := goodIn_app (goodIn_of _ (by decide +kernel)) ggL_law_X6_deep
set_option maxRecDepth 20000 in
theorem ggL_law_X7_deep : GoodIn wsL_law wsX7_deep := goodIn_r _ [678, 125, 88, 455, 456, 457, 5, 458, 80, 129, 130, 131, 630, 631, 632, 667, 668, 669, 670, 423, 424, 425, 426, 427, 428, 429, 430, 431, 898, 899, 900, 901, 902, 903, 904, 905, 906, 907, 908, 909, 910, 911, 912, 913, 914, 915, 916, 917, 918, 919] (by decide +kernel) (by decide +kernel)
set_option maxRecDepth 20000 in
theorem gL_law_X7_deep : GoodIn wsL_law (wsV RL 102 RX7 yX7_deep wsX7_deep) := goodIn_app (goodIn_of _ (by decide +kernel)) ggL_law_X7_deep
set_option maxRecDepth 20000 in
theorem ggL_law_X6_meet : GoodIn wsL_law wsX6_meet := goodIn_r _ [682, 21, 93, 532, 221, 521, 442, 443, 444, 20, 445, 259, 98, 2, 99, 683, 684, 685, 97, 686, 687, 688, 689, 584, 534, 535, 536, 49, 52, 541, 542, 543, 544, 51, 545, 546, 372, 547, 383, 371, 373, 888, 889, 890, 891, 892, 893, 894, 895, 896, 897, 925, 926, 927, 928, 929, 930, 931, 932, 933, 934, 935, 936] (by decide +kernel) (by decide +kernel)
set_option maxRecDepth 20000 in
theorem gL_law_X6_meet : GoodIn wsL_law (wsV RL 103 RX6 yX6_meet wsX6_meet) := goodIn_app (goodIn_of _ (by decide +kernel)) ggL_law_X6_meet
set_option maxRecDepth 20000 in
theorem ggL_law_X7_meet : GoodIn wsL_law wsX7_meet := goodIn_r _ [693, 125, 80, 88, 455, 456, 457, 5, 458, 129, 130, 131, 432, 433, 434, 607, 608, 609, 559, 560, 561, 898, 899, 900, 901, 902, 903, 904, 905, 906, 907, 908, 909, 910, 911, 912, 913, 914, 915, 916, 917, 918, 919] (by decide +kernel) (by decide +kernel)
set_option maxRecDepth 20000 in
theorem gL_law_X7_meet : GoodIn wsL_law (wsV RL 106 RX7 yX7_meet wsX7_meet) := goodIn_app (goodIn_of _ (by decide +kernel)) ggL_law_X7_meet
set_option maxRecDepth 20000 in
theorem ggL_law_X6_rings : GoodIn wsL_law wsX6_rings := goodIn_r _ [697, 21, 93, 31, 221, 698, 699, 372, 700, 442, 443, 444, 20, 445, 259, 98, 2, 99, 683, 684, 685, 97, 574, 575, 576, 30, 577, 62, 578, 579, 114, 115, 116, 580, 581, 582, 583, 257, 584, 534, 535, 536, 49, 52, 585, 538, 539, 540, 47, 541, 542, 543, 544, 51, 545, 546, 547, 383, 371, 373, 507, 508, 509, 510, 260, 511, 397, 398, 399, 596, 594, 595, 586, 587, 588, 589, 590, 591, 592, 593, 400, 401, 402, 403, 404, 405, 406, 888, 889, 890, 891, 892, 893, 894, 895, 896, 897, 925, 926, 927, 928, 929, 930, 931, 932, 933, 934, 935, 936, 940] (by decide +kernel) (by decide +kernel)
set_option maxRecDepth 20000 in
theorem gL_law_X6_rings : GoodIn wsL_law (wsV RL 107 RX6 yX6_rings wsX6_rings) := goodIn_app (goodIn_of _ (by decide +kernel)) ggL_law_X6_rings
set_option maxRecDepth 20000 in
theorem ggL_law_X7_rings : GoodIn wsL_law wsX7_rings := goodIn_r _ [704, 125, 80, 455, 456, 457, 5, 458, 129, 130, 131, 432, 433, 434, 88, 607, 608, 609, 604, 605, 606, 556, 557, 558, 559, 560, 561, 435, 436, 437, 898, 899, 900, 901, 902, 903, 904, 905, 906, 907, 908, 909, 910, 911, 912, 913, 914, 915, 916, 917, 918, 919] (by decide +kernel) (by decide +kernel)
set_option maxRecDepth 20000 in
theorem gL_law_X7_rings : GoodIn wsL_law (wsV RL 110 RX7 yX7_rings wsX7_rings) := goodIn_app (goodIn_of _ (by decide +kernel)) ggL_law_X7_rings
set_option maxRecDepth 20000 in
theorem ggL_law_X6_gaps : GoodIn wsL_law wsX6_gaps := goodIn_r _ [708, 21, 93, 13, 22, 463, 464, 465, 466, 20, 467, 260, 98, 2, 99, 94, 95, 96, 97, 709, 710, 711, 147, 148, 149, 150, 151, 152, 153, 37, 154, 112, 100, 101, 102, 103, 104, 105, 287, 288, 289, 290, 256, 257, 258, 259, 46, 291, 176, 177, 178, 47, 48, 49, 50, 51, 52, 712, 713, 714, 715, 146, 375, 376, 377, 378, 379, 380, 381, 382, 383, 371, 372, 373, 384, 385, 386, 387, 388, 389, 390, 391, 392, 393, 394, 395, 117, 118, 119, 120, 888, 889, 890, 891, 892, 893, 894, 895, 896, 897, 925, 926, 927, 928, 929, 930, 931, 932, 933, 934, 935, 936, 943, 944, 945, 946] (by decide +kernel) (by decide +kernel)
set_option maxRecDepth 20000 in
theorem gL_law_X6_gaps : GoodIn wsL_law (wsV RL 111 RX6 yX6_gaps wsX6_gaps) := goodIn_app (goodIn_of _ (by decide +kernel)) ggL_law_X6_gaps
set_option maxRecDepth 20000 in
theorem ggL_law_X7_gaps : GoodIn wsL_law wsX7_gaps := goodIn_r _ [719, 125, 80, 77, 472, 473, 474, 5, 475, 129, 130, 131, 126, 127, 128, 163, 164, 165, 166, 75, 88, 132, 133, 134, 135, 136, 137, 183, 184, 185, 186, 76, 667, 668, 669, 670, 423, 424, 425, 426, 427, 428, 429, 430, 431, 138, 139, 140, 141, 898, 899, 900, 901, 902, 903, 904, 905, 906, 907, 908, 909, 910, 911, 912, 913, 914, 915, 916, 917, 918, 919] (by decide +kernel) (by decide +kernel)
set_option maxRecDepth 20000 in
theorem gL_law_X7_gaps : GoodIn wsL_law (wsV RL 114 RX7 yX7_gaps wsX7_gaps) := goodIn_app (goodIn_of _ (by decide +kernel)) ggL_law_X7_gaps
set_option maxRecDepth 20000 in
theorem ggL_law_X6_which : GoodIn wsL_law wsX6_which := goodIn_r _ [723, 21, 93, 13, 442, 443, 444, 20, 445, 259, 98, 2, 99, 94, 95, 96, 97, 709, 710, 711, 683, 684, 685, 147, 148, 149, 150, 151, 152, 153, 37, 154, 112, 100, 101, 102, 103, 104, 105, 724, 725, 726, 727, 22, 728, 505, 287, 288, 289, 290, 256, 257, 258, 260, 46, 291, 176, 177, 178, 47, 48, 49, 50, 51, 52, 712, 713, 714, 715, 146, 375, 376, 377, 378, 379, 380, 381, 382, 383, 371, 372, 373, 384, 385, 386, 387, 388, 389, 390, 391, 392, 393, 394, 395, 729, 730, 731, 732, 506, 117, 118, 119, 120, 888, 889, 890, 891, 892, 893, 894, 895, 896, 897, 925, 926, 927, 928, 929, 930, 931, 932, 933, 934, 935, 936, 943, 944, 945, 946] (by decide +kernel) (by decide +kernel)
set_option maxRecDepth 20000 in
theorem gL_law_X6_which : GoodIn wsL_law (wsV RL 115 RX6 yX6_which wsX6_which) := goodIn_app (goodIn_of _ (by decide +kernel)) ggL_law_X6_which
set_option maxRecDepth 20000 in
theorem ggL_law_X7_which : GoodIn wsL_law wsX7_which := goodIn_r _ [736, 125, 80, 455, 456, 457, 5, 458, 129, 130, 131, 126, 127, 128, 163, 164, 165, 166, 75, 88, 132, 133, 134, 135, 136, 137, 183, 184, 185, 186, 76, 737, 738, 739, 740, 77, 423, 424, 425, 426, 427, 428, 138, 139, 140, 141, 898, 899, 900, 901, 902, 903, 904, 905, 906, 907, 908, 909, 910, 911, 912, 913, 914, 915, 916, 917, 918, 919] (by decide +kernel) (by decide +kernel)
set_option maxRecDepth 20000 in
theorem gL_law_X7_which : GoodIn wsL_law (wsV RL 118 RX7 yX7_which wsX7_which) := goodIn_app (goodIn_of _ (by decide +kernel)) ggL_law_X7_which
set_option maxRecDepth 20000 in
theorem ggL_law_X6_storm : GoodIn wsL_law wsX6_storm := goodIn_r _ [744, 93, 21, 521, 566, 567, 568, 2, 569, 464, 465, 466, 20, 467, 260, 98, 99, 683, 684, 685, 97, 745, 746, 747, 748, 31, 574, 575, 576, 30, 577, 62, 578, 579, 114, 115, 116, 580, 581, 582, 583, 257, 584, 534, 535, 536, 49, 52, 585, 538, 539, 540, 47, 541, 542, 543, 544, 51, 545, 546, 372, 547, 383, 371, 373, 507, 508, 509, 510, 511, 397, 398, 399, 596, 594, 595, 586, 587, 588, 589, 590, 591, 592, 593, 400, 401, 402, 403, 404, 405, 406, 749, 750, 751, 752, 753, 754, 698, 699, 700, 755, 888, 889, 890, 891, 892, 893, 894, 895, 896, 897, 925, 926, 927, 928, 929, 930, 931, 932, 933, 934, 935, 936, 940] (by decide +kernel) (by decide +kernel)
set_option maxRecDepth 20000 in
theorem gL_law_X6_storm : GoodIn wsL_law (wsV RL 119 RX6 yX6_storm wsX6_storm) := goodIn_app (goodIn_of _ (by decide +kernel)) ggL_law_X6_storm
set_option maxRecDepth 20000 in
theorem ggL_law_X7_storm : GoodIn wsL_law wsX7_storm := goodIn_r _ [759, 125, 80, 552, 553, 554, 5, 555, 472, 473, 474, 475, 129, 130, 131, 432, 433, 434, 88, 607, 608, 609, 601, 602, 603, 604, 605, 606, 556, 557, 558, 559, 560, 561, 898, 899, 900, 901, 902, 903, 904, 905, 906, 907, 908, 909, 910, 911, 912, 913, 914, 915, 916, 917, 918, 919] (by decide +kernel) (by decide +kernel)
set_option maxRecDepth 20000 in
theorem gL_law_X7_storm : GoodIn wsL_law (wsV RL 122 RX7 yX7_storm wsX7_storm) := goodIn_app (goodIn_of _ (by decide +kernel)) ggL_law_X7_storm
set_option maxRecDepth 20000 in
theorem ggL_law_X6_image : GoodIn wsL_law wsX6_image := goodIn_r _ [763, 93, 21, 362, 363, 23, 97, 98, 2, 99, 287, 288, 289, 20, 290, 256, 257, 258, 259, 260, 46, 291, 176, 177, 178, 47, 48, 49, 50, 51, 52, 888, 889, 890, 891, 892, 893, 894, 895, 896, 897, 925, 926, 927, 928, 929, 930, 931, 932, 933, 934, 935, 936] (by decide +kernel) (by decide +kernel)
set_option maxRecDepth 20000 in
theorem gL_law_X6_image : GoodIn wsL_law (wsV RL 123 RX6 yX6_image wsX6_image) := goodIn_app (goodIn_of _ (by decide +kernel)) ggL_law_X6_image
set_option maxRecDepth 20000 in
theorem ggL_law_X7_image : GoodIn wsL_law wsX7_image := goodIn_r _ [767, 125, 411, 80, 83, 85, 129, 130, 5, 131, 412, 413, 414, 415, 347, 348, 349, 898, 899, 900, 901, 902, 903, 904, 905, 906, 907, 908, 909, 910, 911, 912, 913, 914, 915, 916, 917, 918, 919] (by decide +kernel) (by decide +kernel)
set_option maxRecDepth 20000 in
theorem gL_law_X7_image : GoodIn wsL_law (wsV RL 126 RX7 yX7_image wsX7_image) := goodIn_app (goodIn_of _ (by decide +kernel)) ggL_law_X7_image
set_option maxRecDepth 20000 in
theorem ggL_law_X6_restore : GoodIn wsL_law wsX6_restore := goodIn_r _ [771, 93, 23, 362, 363, 21, 27, 97, 98, 2, 99, 287, 288, 289, 20, 290, 256, 257, 258, 259, 260, 46, 291, 176, 177, 178, 47, 48, 49, 50, 51, 52, 292, 293, 294, 26, 295, 296, 888, 889, 890, 891, 892, 893, 894, 895, 896, 897, 925, 926, 927, 928, 929, 930, 931, 932, 933, 934, 935, 936, 937, 938, 939] (by decide +kernel) (by decide +kernel)
set_option maxRecDepth 20000 in
theorem gL_law_X6_restore : GoodIn wsL_law (wsV RL 127 RX6 yX6_restore wsX6_restore) := goodIn_app (goodIn_of _ (by decide +kernel)) ggL_law_X6_restore
set_option maxRecDepth 20000 in
theorem ggL_law_X7_restore : GoodIn wsL_law wsX7_restore := goodIn_r _ [775, 125, 85, 411, 83, 80, 306, 129, 130, 5, 131, 347, 348, 349, 898, 899, 900, 901, 902, 903, 904, 905, 906, 907, 908, 909, 910, 911, 912, 913, 914, 915, 916, 917, 918, 919] (by decide +kernel) (by decide +kernel)
set_option maxRecDepth 20000 in
theorem gL_law_X7_restore : GoodIn wsL_law (wsV RL 130 RX7 yX7_restore wsX7_restore) := goodIn_app (goodIn_of _ (by decide +kernel)) ggL_law_X7_restore
set_option maxRecDepth 20000 in
theorem ggL_law_X6_kind : GoodIn wsL_law wsX6_kind := goodIn_r _ [779, 21, 728, 93, 442, 443, 444, 20, 445, 259, 98, 2, 99, 888, 889, 890, 891, 892, 893, 894, 895, 896, 897, 925, 926, 927, 928, 929, 930, 931, 932, 933, 934, 935, 936] (by decide +kernel) (by decide +kernel)
set_option maxRecDepth 20000 in
theorem gL_law_X6_kind : GoodIn wsL_law (wsV RL 131 RX6 yX6_kind wsX6_kind) := goodIn_app (goodIn_of _ (by decide +kernel)) ggL_law_X6_kind
set_option maxRecDepth 20000 in
theorem ggL_law_X7_kind : GoodIn wsL_law wsX7_kind := goodIn_r _ [783, 125, 455, 456, 457, 5, 458, 80, 129, 130, 131, 784, 785, 786, 787, 898, 899, 900, 901, 902, 903, 904, 905, 906, 907, 908, 909, 910, 911, 912, 913, 914, 915, 916, 917, 918, 919] (by decide +kernel) (by decide +kernel)
set_option maxRecDepth 20000 in
theorem gL_law_X7_kind : GoodIn wsL_law (wsV RL 134 RX7 yX7_kind wsX7_kind) := goodIn_app (goodIn_of _ (by decide +kernel)) ggL_law_X7_kind
set_option maxRecDepth 20000 in
theorem ggL_law_X6_as : GoodIn wsL_law wsX6_as := goodIn_r _ [791, 21, 792, 93, 728, 442, 443, 444, 20, 445, 259, 98, 2, 99, 97, 793, 794, 795, 117, 118, 119, 120, 104, 100, 101, 102, 103, 105, 888, 889, 890, 891, 892, 893, 894, 895, 896, 897, 925, 926, 927, 928, 929, 930, 931, 932, 933, 934, 935, 936] (by decide +kernel) (by decide +kernel)
set_option maxRecDepth 20000 in
theorem gL_law_X6_as : GoodIn wsL_law (wsV RL 135 RX6 yX6_as wsX6_as) := goodIn_app (goodIn_of _ (by decide +kernel)) ggL_law_X6_as
set_option maxRecDepth 20000 in
theorem ggL_law_X7_as : GoodIn wsL_law wsX7_as := goodIn_r _ [799, 125, 455, 456, 457, 5, 458, 80, 129, 130, 131, 784, 785, 786, 787, 138, 139, 140, 141, 136, 132, 133, 134, 135, 137, 898, 899, 900, 901, 902, 903, 904, 905, 906, 907, 908, 909, 910, 911, 912, 913, 914, 915, 916, 917, 918, 919] (by decide +kernel) (by decide +kernel)
set_option maxRecDepth 20000 in
theorem gL_law_X7_as : GoodIn wsL_law (wsV RL 138 RX7 yX7_as wsX7_as) := goodIn_app (goodIn_of _ (by decide +kernel)) ggL_law_X7_as
set_option maxRecDepth 20000 in
theorem ggL_law_X6_ask : GoodIn wsL_law wsX6_ask := goodIn_r _ [803, 21, 93, 35, 804, 442, 443, 444, 20, 445, 259, 98, 2, 99, 683, 684, 685, 97, 805, 806, 807, 34, 808, 809, 794, 795, 792, 810, 811, 812, 813, 814, 815, 816, 817, 818, 819, 66, 820, 821, 822, 823, 824, 825, 826, 827, 828, 829, 830, 831, 832, 888, 889, 890, 891, 892, 893, 894, 895, 896, 897, 941, 942, 925, 926, 927, 928, 929, 930, 931, 932, 933, 934, 935, 936] (by decide +kernel) (by decide +kernel)
set_option maxRecDepth 20000 in
theorem gL_law_X6_ask : GoodIn wsL_law (wsV RL 139 RX6 yX6_ask wsX6_ask) := goodIn_app (goodIn_of _ (by decide +kernel)) ggL_law_X6_ask
set_option maxRecDepth 20000 in
theorem ggL_law_X7_ask : GoodIn wsL_law wsX7_ask := goodIn_r _ [836, 125, 837, 455, 456, 457, 5, 458, 80, 129, 130, 131, 784, 785, 786, 787, 838, 839, 840, 841, 842, 843, 844, 845, 87, 846, 847, 848, 849, 850, 851, 852, 853, 854, 855, 856, 857, 898, 899, 900, 901, 902, 903, 904, 905, 906, 907, 908, 909, 910, 911, 912, 913, 914, 915, 916, 917, 918, 919] (by decide +kernel) (by decide +kernel)
set_option maxRecDepth 20000 in
theorem gL_law_X7_ask : GoodIn wsL_law (wsV RL 142 RX7 yX7_ask wsX7_ask) := goodIn_app (goodIn_of _ (by decide +kernel)) ggL_law_X7_ask
set_option maxRecDepth 20000 in
theorem ggL_law_X6_trace : GoodIn wsL_law wsX6_trace := goodIn_r _ [861, 35, 804, 862, 532, 97, 98, 2, 99, 888, 889, 890, 891, 892, 893, 894, 895, 896, 897, 941, 942] (by decide +kernel) (by decide +kernel)
set_option maxRecDepth 20000 in
theorem gL_law_X6_trace : GoodIn wsL_law (wsV RL 143 RX6 yX6_trace wsX6_trace) := goodIn_app (goodIn_of _ (by decide +kernel)) ggL_law_X6_trace
set_option maxRecDepth 20000 in
theorem ggL_law_X7_trace : GoodIn wsL_law wsX7_trace := goodIn_r _ [866, 837, 87, 88, 129, 130, 5, 131, 898, 899, 900, 901, 902, 903, 904, 905, 906, 907, 908, 909, 910, 911, 912, 913, 914, 915, 916, 917, 918, 919] (by decide +kernel) (by decide +kernel)
set_option maxRecDepth 20000 in
theorem gL_law_X7_trace : GoodIn wsL_law (wsV RL 146 RX7 yX7_trace wsX7_trace) := goodIn_app (goodIn_of _ (by decide +kernel)) ggL_law_X7_trace
set_option maxRecDepth 20000 in
theorem ggL_law_X6_count : GoodIn wsL_law wsX6_count := goodIn_r _ [870, 21, 657, 221, 364, 871, 27, 492, 17, 200, 93, 872, 873, 874, 2, 875, 13, 150, 396, 397, 398, 20, 399, 260, 52, 400, 401, 402, 403, 404, 405, 406, 888, 889, 890, 891, 892, 893, 894, 895, 896, 897, 925, 926, 927, 928, 929, 930, 931, 932, 933, 934, 935, 936, 937, 938, 939, 920, 921, 922, 923, 924, 943, 944, 945, 946] (by decide +kernel) (by decide +kernel)
set_option maxRecDepth 20000 in
theorem gL_law_X6_count : GoodIn wsL_law (wsV RL 147 RX6 yX6_count wsX6_count) := goodIn_app (goodIn_of _ (by decide +kernel)) ggL_law_X6_count
set_option maxRecDepth 20000 in
theorem ggL_law_X7_count : GoodIn wsL_law wsX7_count := goodIn_r _ [879, 80, 88, 306, 211, 125, 163, 164, 165, 5, 166, 75, 432, 433, 434, 435, 436, 437, 898, 899, 900, 901, 902, 903, 904, 905, 906, 907, 908, 909, 910, 911, 912, 913, 914, 915, 916, 917, 918, 919] (by decide +kernel) (by decide +kernel)
set_option maxRecDepth 20000 in
theorem gL_law_X7_count : GoodIn wsL_law (wsV RL 150 RX7 yX7_count wsX7_count) := goodIn_app (goodIn_of _ (by decide +kernel)) ggL_law_X7_count
set_option maxRecDepth 20000 in
theorem ggL_law_X6_status : GoodIn wsL_law wsX6_status := goodIn_r _ [883, 104, 888, 889, 890, 891, 892, 893, 894, 895, 896, 897] (by decide +kernel) (by decide +kernel)
set_option maxRecDepth 20000 in
theorem gL_law_X6_status : GoodIn wsL_law (wsV RL 151 RX6 yX6_status wsX6_status) := goodIn_app (goodIn_of _ (by decide +kernel)) ggL_law_X6_status
set_option maxRecDepth 20000 in
theorem ggL_law_X7_status : GoodIn wsL_law wsX7_status := goodIn_r _ [887, 136, 898, 899, 900, 901, 902, 903, 904, 905, 906, 907, 908, 909, 910, 911, 912, 913, 914, 915, 916, 917, 918, 919] (by decide +kernel) (by decide +kernel)
set_option maxRecDepth 20000 in
theorem gL_law_X7_status : GoodIn wsL_law (wsV RL 154 RX7 yX7_status wsX7_status) := goodIn_app (goodIn_of _ (by decide +kernel)) ggL_law_X7_status
