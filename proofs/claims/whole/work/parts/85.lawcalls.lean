set_option maxRecDepth 20000 in
theorem ggL_law_X9_init : GoodIn wsL_law wsX9_init := goodIn_r _ [8, 9, 10, 11, 12, 13, 14, 15, 16, 17, 18, 19, 20, 21, 22, 23, 24, 25, 26, 27, 28, 29, 30, 31, 32, 33, 34, 35, 36, 37, 38, 39, 40, 41, 42, 43, 44, 45, 46, 47, 48, 49, 50, 51, 52, 53, 54, 55, 56, 57, 58, 59, 60, 61, 62, 63, 64, 65, 66, 67, 68, 69, 70, 71, 72, 73, 74, 75, 76, 77, 78, 79, 80, 81, 82, 83, 84, 85, 86, 87, 88, 89, 90, 91, 813, 814, 815, 784, 785, 786, 787, 788, 816, 817, 818, 819, 820, 821, 822, 823, 824, 825, 826, 827, 828, 829, 830, 831, 832, 833, 834] (by decide +kernel) (by decide +kernel)
set_option maxRecDepth 20000 in
theorem gL_law_X9_init : GoodIn wsL_law (wsX9_init) := ggL_law_X9_init
set_option maxRecDepth 20000 in
theorem ggL_law_X10_init : GoodIn wsL_law wsX10_init := goodIn_r _ [94, 95, 10, 11, 77, 96, 97, 98, 99, 100, 101, 102, 103, 104, 105, 106, 107, 108, 109, 110, 111, 112, 113, 789, 790, 791, 792, 793, 794, 795, 796, 797, 798, 799, 800, 801, 802, 803, 804, 805, 806, 807, 808, 809, 810, 811, 812] (by decide +kernel) (by decide +kernel)
set_option maxRecDepth 20000 in
theorem gL_law_X10_init : GoodIn wsL_law (wsX10_init) := ggL_law_X10_init
set_option maxRecDepth 20000 in
theorem ggL_law_X9_many : GoodIn wsL_law wsX9_many := goodIn_r _ [117, 15, 118, 119, 2, 120, 121, 122, 123, 14, 124, 37, 34, 125, 126, 127, 128, 36, 129, 130, 131, 26, 132, 43, 44, 133, 134, 135, 39, 136, 137, 138, 51, 139, 140, 141, 142, 143, 144, 145, 146, 147, 148, 149, 50, 150, 151, 152, 153, 154, 155, 156, 157, 158, 159, 160, 161, 162, 163, 164, 165, 166, 167, 56, 168, 169, 170, 171, 172, 173, 174, 175, 176, 177, 178, 179, 180, 181, 182, 183, 184, 185, 186, 187, 188, 189, 190, 191, 192, 193, 194, 195, 10, 11, 196, 197, 198, 199, 200, 201, 202, 203, 204, 205, 206, 207, 208, 209, 210, 211, 212, 213, 214, 215, 216, 217, 218, 219, 220, 221, 222, 223, 55, 224, 225, 226, 227, 228, 229, 230, 231, 232, 233, 234, 235, 236, 237, 238, 239, 240, 241, 242, 243, 244, 245, 246, 247, 248, 249, 250, 251, 252, 253, 254, 255, 256, 257, 258, 259, 260, 261, 262, 263, 264, 265, 266, 267, 268, 269, 270, 271, 272, 784, 785, 786, 787, 788, 813, 814, 815, 829, 830, 831, 835, 836, 837, 838, 839, 840, 832, 833, 834] (by decide +kernel) (by decide +kernel)
set_option maxRecDepth 20000 in
theorem gL_law_X9_many : GoodIn wsL_law (wsV RL 13 RX9 yX9_many wsX9_many) := goodIn_app (goodIn_of _ (by decide +kernel)) ggL_law_X9_many
set_option maxRecDepth 20000 in
theorem ggL_law_X10_many : GoodIn wsL_law wsX10_many := goodIn_r _ [276, 113, 277, 278, 5, 279, 280, 281, 282, 283, 284, 285, 286, 98, 287, 288, 289, 290, 291, 292, 96, 97, 293, 294, 295, 296, 297, 298, 299, 300, 301, 302, 303, 304, 305, 789, 790, 791, 792, 793, 794, 795, 796, 797, 798, 799, 800, 801, 802, 803, 804, 805, 806, 807, 808, 809, 810, 811, 812] (by decide +kernel) (by decide +kernel)
set_option maxRecDepth 20000 in
theorem gL_law_X10_many : GoodIn wsL_law (wsV RL 17 RX10 yX10_many wsX10_many) := goodIn_app (goodIn_of _ (by decide +kernel)) ggL_law_X10_many
set_option maxRecDepth 20000 in
theorem ggL_law_X9_share : GoodIn wsL_law wsX9_share := goodIn_r _ [309, 310, 311, 312, 313, 314, 2, 315, 15, 118, 119, 120, 121, 122, 123, 14, 124, 37, 34, 125, 126, 127, 128, 36, 129, 130, 131, 26, 132, 43, 44, 133, 134, 135, 39, 136, 137, 138, 51, 139, 140, 141, 142, 143, 144, 145, 146, 147, 148, 149, 50, 150, 151, 152, 153, 154, 155, 156, 157, 158, 159, 160, 161, 162, 163, 164, 165, 166, 167, 56, 168, 169, 170, 171, 172, 173, 174, 175, 176, 177, 178, 179, 180, 181, 182, 183, 184, 185, 186, 187, 188, 189, 190, 191, 192, 193, 194, 195, 10, 11, 196, 197, 198, 199, 200, 201, 202, 203, 204, 205, 206, 207, 208, 209, 210, 211, 212, 213, 214, 215, 216, 217, 218, 219, 220, 221, 222, 223, 55, 224, 225, 226, 227, 228, 229, 230, 231, 232, 233, 234, 235, 236, 237, 238, 239, 240, 241, 242, 243, 244, 245, 246, 247, 248, 249, 250, 251, 252, 253, 254, 255, 256, 257, 258, 259, 260, 261, 262, 263, 264, 265, 266, 267, 268, 269, 270, 271, 316, 835, 836, 837, 838, 839, 840, 784, 785, 786, 787, 788, 813, 814, 815, 829, 830, 831, 832, 833, 834] (by decide +kernel) (by decide +kernel)
set_option maxRecDepth 20000 in
theorem gL_law_X9_share : GoodIn wsL_law (wsV RL 18 RX9 yX9_share wsX9_share) := goodIn_app (goodIn_of _ (by decide +kernel)) ggL_law_X9_share
set_option maxRecDepth 20000 in
theorem ggL_law_X10_share : GoodIn wsL_law wsX10_share := goodIn_r _ [320, 113, 96, 98, 97, 321, 322, 323, 5, 324, 277, 278, 279, 280, 281, 282, 283, 284, 285, 286, 287, 288, 289, 290, 291, 292, 293, 294, 295, 296, 297, 298, 299, 300, 301, 302, 303, 304, 305, 789, 790, 791, 792, 793, 794, 795, 796, 797, 798, 799, 800, 801, 802, 803, 804, 805, 806, 807, 808, 809, 810, 811, 812] (by decide +kernel) (by decide +kernel)
set_option maxRecDepth 20000 in
theorem gL_law_X10_share : GoodIn wsL_law (wsV RL 22 RX10 yX10_share wsX10_share) := goodIn_app (goodIn_of _ (by decide +kernel)) ggL_law_X10_share
set_option maxRecDepth 20000 in
theorem ggL_law_X9_rank : GoodIn wsL_law wsX9_rank := goodIn_r _ [328, 329, 15, 118, 119, 2, 120, 330, 331, 332, 121, 122, 123, 14, 124, 37, 34, 125, 126, 127, 128, 36, 129, 130, 131, 26, 132, 43, 44, 133, 134, 135, 39, 136, 137, 138, 51, 139, 140, 141, 142, 143, 144, 145, 146, 147, 148, 149, 50, 150, 151, 152, 153, 154, 155, 156, 157, 158, 159, 160, 161, 162, 163, 164, 165, 166, 167, 56, 168, 169, 170, 171, 172, 173, 174, 175, 176, 177, 178, 179, 180, 181, 182, 183, 184, 185, 186, 187, 188, 189, 190, 191, 192, 193, 194, 195, 10, 11, 196, 197, 198, 199, 200, 201, 202, 203, 204, 205, 206, 207, 208, 209, 210, 211, 212, 213, 214, 215, 216, 217, 218, 219, 220, 221, 222, 223, 55, 224, 225, 226, 227, 228, 229, 230, 231, 232, 233, 234, 235, 236, 237, 238, 239, 240, 241, 242, 243, 244, 245, 246, 247, 248, 249, 250, 251, 252, 253, 254, 255, 256, 257, 258, 259, 260, 261, 262, 263, 264, 265, 266, 267, 268, 269, 270, 271, 333, 334, 335, 336, 784, 785, 786, 787, 788, 813, 814, 815, 829, 830, 831, 835, 836, 837, 838, 839, 840, 832, 833, 834] (by decide +kernel) (by decide +kernel)
set_option maxRecDepth 20000 in
theorem gL_law_X9_rank : GoodIn wsL_law (wsV RL 23 RX9 yX9_rank wsX9_rank) := goodIn_app (goodIn_of _ (by decide +kernel)) ggL_law_X9_rank
set_option maxRecDepth 20000 in
theorem ggL_law_X10_rank : GoodIn wsL_law wsX10_rank := goodIn_r _ [340, 113, 277, 278, 5, 279, 280, 281, 282, 341, 342, 343, 344, 345, 346, 347, 348, 98, 97, 96, 287, 288, 289, 290, 291, 292, 293, 294, 295, 296, 297, 298, 299, 300, 301, 302, 303, 304, 305, 789, 790, 791, 792, 793, 794, 795, 796, 797, 798, 799, 800, 801, 802, 803, 804, 805, 806, 807, 808, 809, 810, 811, 812] (by decide +kernel) (by decide +kernel)
set_option maxRecDepth 20000 in
theorem gL_law_X10_rank : GoodIn wsL_law (wsV RL 26 RX10 yX10_rank wsX10_rank) := goodIn_app (goodIn_of _ (by decide +kernel)) ggL_law_X10_rank
set_option maxRecDepth 20000 in
theorem ggL_law_X9_fewest : GoodIn wsL_law wsX9_fewest := goodIn_r _ [352, 329, 15, 330, 331, 2, 332, 118, 119, 120, 121, 122, 123, 14, 124, 37, 34, 125, 126, 127, 128, 36, 129, 130, 131, 26, 132, 43, 44, 133, 134, 135, 39, 136, 137, 138, 51, 139, 140, 141, 142, 143, 144, 145, 146, 147, 148, 149, 50, 150, 151, 152, 153, 154, 155, 156, 157, 158, 159, 160, 161, 162, 163, 164, 165, 166, 167, 56, 168, 169, 170, 171, 172, 173, 174, 175, 176, 177, 178, 179, 180, 181, 182, 183, 184, 185, 186, 187, 188, 189, 190, 191, 192, 193, 194, 195, 10, 11, 196, 197, 198, 199, 200, 201, 202, 203, 204, 205, 206, 207, 208, 209, 210, 211, 212, 213, 214, 215, 216, 217, 218, 219, 220, 221, 222, 223, 55, 224, 225, 226, 227, 228, 229, 230, 231, 232, 233, 234, 235, 236, 237, 238, 239, 240, 241, 242, 243, 244, 245, 246, 247, 248, 249, 250, 251, 252, 253, 254, 255, 256, 257, 258, 259, 260, 261, 262, 263, 264, 265, 266, 267, 268, 269, 270, 271, 333, 334, 335, 336, 784, 785, 786, 787, 788, 813, 814, 815, 829, 830, 831, 835, 836, 837, 838, 839, 840, 832, 833, 834] (by decide +kernel) (by decide +kernel)
set_option maxRecDepth 20000 in
theorem gL_law_X9_fewest : GoodIn wsL_law (wsV RL 27 RX9 yX9_fewest wsX9_fewest) := goodIn_app (goodIn_of _ (by decide +kernel)) ggL_law_X9_fewest
set_option maxRecDepth 20000 in
theorem ggL_law_X10_fewest : GoodIn wsL_law wsX10_fewest := goodIn_r _ [356, 113, 341, 342, 5, 343, 344, 280, 281, 282, 345, 346, 347, 348, 98, 97, 96, 287, 288, 289, 290, 291, 292, 293, 294, 295, 296, 297, 298, 299, 300, 301, 302, 303, 304, 305, 789, 790, 791, 792, 793, 794, 795, 796, 797, 798, 799, 800, 801, 802, 803, 804, 805, 806, 807, 808, 809, 810, 811, 812] (by decide +kernel) (by decide +kernel)
set_option maxRecDepth 20000 in
theorem gL_law_X10_fewest : GoodIn wsL_law (wsV RL 31 RX10 yX10_fewest wsX10_fewest) := goodIn_app (goodIn_of _ (by decide +kernel)) ggL_law_X10_fewest
set_option maxRecDepth 20000 in
theorem ggL_law_X9_made : GoodIn wsL_law wsX9_made := goodIn_r _ [360, 361, 362, 363, 364, 312, 313, 314, 2, 315, 15, 118, 119, 120, 121, 122, 123, 14, 124, 37, 34, 125, 126, 127, 128, 36, 129, 130, 131, 26, 132, 43, 44, 133, 134, 135, 39, 136, 137, 138, 51, 139, 140, 141, 142, 143, 144, 145, 146, 147, 148, 149, 50, 150, 151, 152, 153, 154, 155, 156, 157, 158, 159, 160, 161, 162, 163, 164, 165, 166, 167, 56, 168, 169, 170, 171, 172, 173, 174, 175, 176, 177, 178, 179, 180, 181, 182, 183, 184, 185, 186, 187, 188, 189, 190, 191, 192, 193, 194, 195, 10, 11, 196, 197, 198, 199, 200, 201, 202, 203, 204, 205, 206, 207, 208, 209, 210, 211, 212, 213, 214, 215, 216, 217, 218, 219, 220, 221, 222, 223, 55, 224, 225, 226, 227, 228, 229, 230, 231, 232, 233, 234, 235, 236, 237, 238, 239, 240, 241, 242, 243, 244, 245, 246, 247, 248, 249, 250, 251, 252, 253, 254, 255, 256, 257, 258, 259, 260, 261, 262, 263, 264, 265, 266, 267, 268, 269, 270, 271, 316, 835, 836, 837, 838, 839, 840, 784, 785, 786, 787, 788, 813, 814, 815, 829, 830, 831, 832, 833, 834] (by decide +kernel) (by decide +kernel)
set_option maxRecDepth 20000 in
theorem gL_law_X9_made : GoodIn wsL_law (wsV RL 32 RX9 yX9_made wsX9_made) := goodIn_app (goodIn_of _ (by decide +kernel)) ggL_law_X9_made
set_option maxRecDepth 20000 in
theorem ggL_law_X10_made : GoodIn wsL_law wsX10_made := goodIn_r _ [368, 113, 98, 96, 97, 321, 322, 323, 5, 324, 277, 278, 279, 280, 281, 282, 283, 284, 285, 286, 287, 288, 289, 290, 291, 292, 293, 294, 295, 296, 297, 298, 299, 300, 301, 302, 303, 304, 305, 345, 346, 347, 348, 789, 790, 791, 792, 793, 794, 795, 796, 797, 798, 799, 800, 801, 802, 803, 804, 805, 806, 807, 808, 809, 810, 811, 812] (by decide +kernel) (by decide +kernel)
set_option maxRecDepth 20000 in
theorem gL_law_X10_made : GoodIn wsL_law (wsV RL 35 RX10 yX10_made wsX10_made) := goodIn_app (goodIn_of _ (by decide +kernel)) ggL_law_X10_made
set_option maxRecDepth 20000 in
theorem ggL_law_X9_turned : GoodIn wsL_law wsX9_turned := goodIn_r _ [372, 15, 312, 313, 314, 2, 315, 118, 119, 120, 121, 122, 123, 14, 124, 37, 34, 125, 126, 127, 128, 36, 129, 130, 131, 26, 132, 43, 44, 133, 134, 135, 39, 136, 137, 138, 51, 139, 140, 141, 142, 143, 144, 145, 146, 147, 148, 149, 50, 150, 151, 152, 153, 154, 155, 156, 157, 158, 159, 160, 161, 162, 163, 164, 165, 166, 167, 56, 168, 169, 170, 171, 172, 173, 174, 175, 176, 177, 178, 179, 180, 181, 182, 183, 184, 185, 186, 187, 188, 189, 190, 191, 192, 193, 194, 195, 10, 11, 196, 197, 198, 199, 200, 201, 202, 203, 204, 205, 206, 207, 208, 209, 210, 211, 212, 213, 214, 215, 216, 217, 218, 219, 220, 221, 222, 223, 55, 224, 225, 226, 227, 228, 229, 230, 231, 232, 233, 234, 235, 236, 237, 238, 239, 240, 241, 242, 243, 244, 245, 246, 247, 248, 249, 250, 251, 252, 253, 254, 255, 256, 257, 258, 259, 260, 261, 262, 263, 264, 265, 266, 267, 268, 269, 270, 271, 316, 272, 784, 785, 786, 787, 788, 813, 814, 815, 829, 830, 831, 835, 836, 837, 838, 839, 840, 832, 833, 834] (by decide +kernel) (by decide +kernel)
set_option maxRecDepth 20000 in
theorem gL_law_X9_turned : GoodIn wsL_law (wsV RL 36 RX9 yX9_turned wsX9_turned) := goodIn_app (goodIn_of _ (by decide +kernel)) ggL_law_X9_turned
set_option maxRecDepth 20000 in
theorem ggL_law_X10_turned : GoodIn wsL_law wsX10_turned := goodIn_r _ [376, 113, 97, 98, 96, 321, 322, 323, 5, 324, 277, 278, 279, 280, 281, 282, 283, 284, 285, 286, 287, 288, 289, 290, 291, 292, 293, 294, 295, 296, 297, 298, 299, 300, 301, 302, 303, 304, 305, 345, 346, 347, 348, 789, 790, 791, 792, 793, 794, 795, 796, 797, 798, 799, 800, 801, 802, 803, 804, 805, 806, 807, 808, 809, 810, 811, 812] (by decide +kernel) (by decide +kernel)
set_option maxRecDepth 20000 in
theorem gL_law_X10_turned : GoodIn wsL_law (wsV RL 39 RX10 yX10_turned wsX10_turned) := goodIn_app (goodIn_of _ (by decide +kernel)) ggL_law_X10_turned
set_option maxRecDepth 20000 in
theorem ggL_law_X9_wire : GoodIn wsL_law wsX9_wire := goodIn_r _ [380, 19, 118, 119, 2, 120, 381, 382, 383, 384, 385, 386, 387, 388, 389, 18, 390, 74, 391, 392, 393, 394, 395, 396, 397, 398, 399, 400, 401, 402, 403, 404, 405, 406, 407, 408, 409, 410, 411, 412, 413, 414, 10, 11, 415, 416, 417, 418, 419, 420, 421, 422, 423, 71, 73, 424, 425, 426, 427, 76, 428, 429, 430, 431, 432, 433, 434, 435, 436, 437, 438, 439, 440, 441, 442, 130, 131, 26, 132, 43, 44, 443, 444, 445, 446, 447, 448, 449, 450, 451, 784, 785, 786, 787, 788, 816, 817, 818, 819, 820, 821, 822, 823, 841, 842, 843, 844, 845, 846, 847, 848, 849, 850, 851, 852, 829, 830] (by decide +kernel) (by decide +kernel)
set_option maxRecDepth 20000 in
theorem gL_law_X9_wire : GoodIn wsL_law (wsV RL 40 RX9 yX9_wire wsX9_wire) := goodIn_app (goodIn_of _ (by decide +kernel)) ggL_law_X9_wire
set_option maxRecDepth 20000 in
theorem ggL_law_X10_wire : GoodIn wsL_law wsX10_wire := goodIn_r _ [455, 113, 456, 99, 100, 101, 102, 103, 280, 281, 5, 282, 457, 458, 459, 789, 790, 791, 792, 793, 794, 795, 796, 797, 798, 799, 800, 801, 802, 803, 804, 805, 806, 807, 808, 809, 810, 811, 812] (by decide +kernel) (by decide +kernel)
set_option maxRecDepth 20000 in
theorem gL_law_X10_wire : GoodIn wsL_law (wsV RL 44 RX10 yX10_wire wsX10_wire) := goodIn_app (goodIn_of _ (by decide +kernel)) ggL_law_X10_wire
set_option maxRecDepth 20000 in
theorem ggL_law_X9_cut : GoodIn wsL_law wsX9_cut := goodIn_r _ [463, 19, 387, 388, 389, 18, 390, 74, 464, 465, 466, 467, 71, 784, 785, 786, 787, 788, 816, 817, 818, 819, 820, 821, 822, 823] (by decide +kernel) (by decide +kernel)
set_option maxRecDepth 20000 in
theorem gL_law_X9_cut : GoodIn wsL_law (wsV RL 45 RX9 yX9_cut wsX9_cut) := goodIn_app (goodIn_of _ (by decide +kernel)) ggL_law_X9_cut
set_option maxRecDepth 20000 in
theorem ggL_law_X10_cut : GoodIn wsL_law wsX10_cut := goodIn_r _ [471, 113, 456, 789, 790, 791, 792, 793, 794, 795, 796, 797, 798, 799, 800, 801, 802, 803, 804, 805, 806, 807, 808, 809, 810, 811, 812] (by decide +kernel) (by decide +kernel)
set_option maxRecDepth 20000 in
theorem gL_law_X10_cut : GoodIn wsL_law (wsV RL 49 RX10 yX10_cut wsX10_cut) := goodIn_app (goodIn_of _ (by decide +kernel)) ggL_law_X10_cut
set_option maxRecDepth 20000 in
theorem ggL_law_X9_ohms : GoodIn wsL_law wsX9_ohms := goodIn_r _ [475, 19, 28, 27, 476, 477, 478, 18, 479, 74, 71, 118, 119, 2, 120, 480, 432, 433, 434, 435, 399, 436, 437, 410, 438, 439, 440, 402, 441, 442, 130, 131, 26, 132, 43, 44, 481, 444, 445, 446, 396, 447, 448, 406, 449, 450, 451, 482, 182, 183, 184, 185, 186, 187, 188, 189, 190, 191, 483, 484, 485, 486, 784, 785, 786, 787, 788, 816, 817, 818, 819, 820, 821, 822, 823, 829, 830, 846, 847, 848, 849, 841, 842, 843, 844, 845] (by decide +kernel) (by decide +kernel)
set_option maxRecDepth 20000 in
theorem gL_law_X9_ohms : GoodIn wsL_law (wsV RL 50 RX9 yX9_ohms wsX9_ohms) := goodIn_app (goodIn_of _ (by decide +kernel)) ggL_law_X9_ohms
set_option maxRecDepth 20000 in
theorem ggL_law_X10_ohms : GoodIn wsL_law wsX10_ohms := goodIn_r _ [490, 113, 491, 99, 492, 493, 102, 103, 297, 298, 494, 495, 496, 5, 497, 456, 280, 281, 282, 299, 300, 301, 302, 303, 304, 305, 789, 790, 791, 792, 793, 794, 795, 796, 797, 798, 799, 800, 801, 802, 803, 804, 805, 806, 807, 808, 809, 810, 811, 812] (by decide +kernel) (by decide +kernel)
set_option maxRecDepth 20000 in
theorem gL_law_X10_ohms : GoodIn wsL_law (wsV RL 53 RX10 yX10_ohms wsX10_ohms) := goodIn_app (goodIn_of _ (by decide +kernel)) ggL_law_X10_ohms
set_option maxRecDepth 20000 in
theorem ggL_law_X9_about : GoodIn wsL_law wsX9_about := goodIn_r _ [501, 19, 502, 503, 504, 476, 477, 478, 18, 479, 74, 71, 784, 785, 786, 787, 788, 846, 847, 848, 849, 850, 851, 852, 841, 842, 843, 844, 845, 816, 817, 818, 819, 820, 821, 822, 823] (by decide +kernel) (by decide +kernel)
set_option maxRecDepth 20000 in
theorem gL_law_X9_about : GoodIn wsL_law (wsV RL 54 RX9 yX9_about wsX9_about) := goodIn_app (goodIn_of _ (by decide +kernel)) ggL_law_X9_about
set_option maxRecDepth 20000 in
theorem ggL_law_X10_about : GoodIn wsL_law wsX10_about := goodIn_r _ [508, 113, 99, 100, 101, 494, 495, 496, 5, 497, 456, 280, 281, 282, 789, 790, 791, 792, 793, 794, 795, 796, 797, 798, 799, 800, 801, 802, 803, 804, 805, 806, 807, 808, 809, 810, 811, 812] (by decide +kernel) (by decide +kernel)
set_option maxRecDepth 20000 in
theorem gL_law_X10_about : GoodIn wsL_law (wsV RL 57 RX10 yX10_about wsX10_about) := goodIn_app (goodIn_of _ (by decide +kernel)) ggL_law_X10_about
set_option maxRecDepth 20000 in
theorem ggL_law_X9_between : GoodIn wsL_law wsX9_between := goodIn_r _ [512, 513, 19, 514, 27, 384, 385, 2, 386, 118, 119, 120, 515, 516, 517, 18, 518, 519, 520, 521, 522, 74, 71, 523, 524, 525, 526, 527, 528, 402, 529, 416, 417, 530, 531, 532, 533, 534, 535, 536, 429, 537, 130, 131, 26, 132, 43, 44, 538, 539, 540, 541, 81, 80, 82, 542, 543, 544, 545, 73, 546, 547, 548, 549, 550, 551, 552, 553, 554, 555, 556, 557, 558, 559, 560, 561, 562, 563, 564, 565, 566, 182, 183, 184, 185, 186, 187, 188, 189, 190, 191, 483, 484, 485, 486, 784, 785, 786, 787, 788, 816, 817, 818, 819, 820, 821, 822, 823, 846, 847, 848, 849, 850, 851, 852, 841, 842, 843, 844, 845, 829, 830] (by decide +kernel) (by decide +kernel)
set_option maxRecDepth 20000 in
theorem gL_law_X9_between : GoodIn wsL_law (wsV RL 58 RX9 yX9_between wsX9_between) := goodIn_app (goodIn_of _ (by decide +kernel)) ggL_law_X9_between
set_option maxRecDepth 20000 in
theorem ggL_law_X10_between : GoodIn wsL_law wsX10_between := goodIn_r _ [570, 113, 571, 572, 456, 104, 573, 297, 298, 457, 458, 5, 459, 280, 281, 282, 574, 575, 576, 577, 105, 578, 579, 580, 581, 100, 101, 582, 583, 584, 585, 586, 587, 588, 589, 590, 591, 592, 593, 594, 595, 596, 103, 102, 299, 300, 301, 302, 303, 304, 305, 789, 790, 791, 792, 793, 794, 795, 796, 797, 798, 799, 800, 801, 802, 803, 804, 805, 806, 807, 808, 809, 810, 811, 812] (by decide +kernel) (by decide +kernel)
set_option maxRecDepth 20000 in
theorem gL_law_X10_between : GoodIn wsL_law (wsV RL 62 RX10 yX10_between wsX10_between) := goodIn_app (goodIn_of _ (by decide +kernel)) ggL_law_X10_between
set_option maxRecDepth 20000 in
theorem ggL_law_X9_through : GoodIn wsL_law wsX9_through := goodIn_r _ [600, 19, 601, 27, 476, 477, 478, 18, 479, 74, 71, 381, 382, 2, 383, 384, 385, 386, 118, 119, 120, 515, 516, 517, 518, 519, 520, 521, 522, 523, 524, 525, 526, 527, 528, 402, 529, 416, 417, 530, 531, 532, 602, 603, 604, 605, 73, 538, 539, 540, 541, 81, 80, 82, 542, 543, 544, 545, 546, 547, 548, 549, 550, 551, 552, 553, 554, 555, 556, 557, 558, 559, 560, 561, 562, 563, 564, 565, 537, 130, 131, 26, 132, 43, 44, 566, 182, 183, 184, 185, 186, 187, 188, 189, 190, 191, 483, 484, 485, 486, 784, 785, 786, 787, 788, 816, 817, 818, 819, 820, 821, 822, 823, 846, 847, 848, 849, 850, 851, 852, 841, 842, 843, 844, 845, 829, 830] (by decide +kernel) (by decide +kernel)
set_option maxRecDepth 20000 in
theorem gL_law_X9_through : GoodIn wsL_law (wsV RL 63 RX9 yX9_through wsX9_through) := goodIn_app (goodIn_of _ (by decide +kernel)) ggL_law_X9_through
set_option maxRecDepth 20000 in
theorem ggL_law_X10_through : GoodIn wsL_law wsX10_through := goodIn_r _ [609, 113, 610, 456, 297, 298, 494, 495, 496, 5, 497, 280, 281, 282, 457, 458, 459, 574, 575, 576, 577, 105, 104, 578, 579, 580, 581, 100, 101, 582, 583, 584, 585, 586, 587, 588, 589, 590, 591, 592, 593, 594, 595, 596, 103, 102, 611, 612, 613, 614, 299, 300, 301, 302, 303, 304, 305, 789, 790, 791, 792, 793, 794, 795, 796, 797, 798, 799, 800, 801, 802, 803, 804, 805, 806, 807, 808, 809, 810, 811, 812] (by decide +kernel) (by decide +kernel)
set_option maxRecDepth 20000 in
theorem gL_law_X10_through : GoodIn wsL_law (wsV RL 67 RX10 yX10_through wsX10_through) := goodIn_app (goodIn_of _ (by decide +kernel)) ggL_law_X10_through
set_option maxRecDepth 20000 in
theorem ggL_law_X9_trees : GoodIn wsL_law wsX9_trees := goodIn_r _ [618, 19, 619, 620, 621, 18, 622, 623, 624, 625, 626, 74, 71, 523, 524, 627, 628, 629, 630, 631, 542, 543, 544, 545, 82, 80, 81, 73, 546, 547, 548, 549, 550, 551, 552, 553, 554, 555, 556, 557, 558, 559, 560, 561, 784, 785, 786, 787, 788, 816, 817, 818, 819, 820, 821, 822, 823, 846, 847, 848, 849, 850, 851, 852, 841, 842, 843, 844, 845] (by decide +kernel) (by decide +kernel)
set_option maxRecDepth 20000 in
theorem gL_law_X9_trees : GoodIn wsL_law (wsV RL 68 RX9 yX9_trees wsX9_trees) := goodIn_app (goodIn_of _ (by decide +kernel)) ggL_law_X9_trees
set_option maxRecDepth 20000 in
theorem ggL_law_X10_trees : GoodIn wsL_law wsX10_trees := goodIn_r _ [635, 113, 456, 636, 637, 638, 5, 639, 640, 641, 642, 643, 100, 101, 586, 587, 588, 578, 579, 580, 581, 104, 789, 790, 791, 792, 793, 794, 795, 796, 797, 798, 799, 800, 801, 802, 803, 804, 805, 806, 807, 808, 809, 810, 811, 812] (by decide +kernel) (by decide +kernel)
set_option maxRecDepth 20000 in
theorem gL_law_X10_trees : GoodIn wsL_law (wsV RL 71 RX10 yX10_trees wsX10_trees) := goodIn_app (goodIn_of _ (by decide +kernel)) ggL_law_X10_trees
set_option maxRecDepth 20000 in
theorem ggL_law_X9_falls : GoodIn wsL_law wsX9_falls := goodIn_r _ [647, 19, 381, 382, 2, 383, 384, 385, 386, 118, 119, 120, 515, 516, 517, 18, 518, 519, 520, 521, 522, 74, 71, 523, 524, 525, 526, 527, 528, 402, 529, 416, 417, 530, 531, 532, 648, 649, 650, 651, 78, 652, 653, 654, 655, 656, 657, 658, 659, 660, 661, 629, 662, 663, 664, 665, 666, 667, 668, 669, 627, 628, 630, 631, 784, 785, 786, 787, 788, 816, 817, 818, 819, 820, 821, 822, 823, 846, 847, 848, 849, 850, 851, 852, 841, 842, 843, 844, 845] (by decide +kernel) (by decide +kernel)
set_option maxRecDepth 20000 in
theorem gL_law_X9_falls : GoodIn wsL_law (wsV RL 72 RX9 yX9_falls wsX9_falls) := goodIn_app (goodIn_of _ (by decide +kernel)) ggL_law_X9_falls
set_option maxRecDepth 20000 in
theorem ggL_law_X10_falls : GoodIn wsL_law wsX10_falls := goodIn_r _ [673, 113, 456, 106, 100, 107, 101, 109, 105, 457, 458, 5, 459, 280, 281, 282, 574, 575, 576, 577, 104, 578, 579, 580, 581, 674, 675, 676, 677, 678, 679, 680, 681, 682, 683, 684, 685, 789, 790, 791, 792, 793, 794, 795, 796, 797, 798, 799, 800, 801, 802, 803, 804, 805, 806, 807, 808, 809, 810, 811, 812] (by decide +kernel) (by decide +kernel)
set_option maxRecDepth 20000 in
theorem gL_law_X10_falls : GoodIn wsL_law (wsV RL 75 RX10 yX10_falls wsX10_falls) := goodIn_app (goodIn_of _ (by decide +kernel)) ggL_law_X10_falls
set_option maxRecDepth 20000 in
theorem ggL_law_X9_sort : GoodIn wsL_law wsX9_sort := goodIn_r _ [689, 23, 118, 119, 2, 120, 690, 691, 692, 22, 693, 88, 694, 695, 696, 697, 86, 87, 784, 785, 786, 787, 788, 824, 825, 826, 827, 828] (by decide +kernel) (by decide +kernel)
set_option maxRecDepth 20000 in
theorem gL_law_X9_sort : GoodIn wsL_law (wsV RL 76 RX9 yX9_sort wsX9_sort) := goodIn_app (goodIn_of _ (by decide +kernel)) ggL_law_X9_sort
set_option maxRecDepth 20000 in
theorem ggL_law_X10_sort : GoodIn wsL_law wsX10_sort := goodIn_r _ [701, 113, 702, 111, 112, 280, 281, 5, 282, 789, 790, 791, 792, 793, 794, 795, 796, 797, 798, 799, 800, 801, 802, 803, 804, 805, 806, 807, 808, 809, 810, 811, 812] (by decide +kernel) (by decide +kernel)
set_option maxRecDepth 20000 in
theorem gL_law_X10_sort : GoodIn wsL_law (wsV RL 79 RX10 yX10_sort wsX10_sort) := goodIn_app (goodIn_of _ (by decide +kernel)) ggL_law_X10_sort
set_option maxRecDepth 20000 in
theorem ggL_law_X9_nearest : GoodIn wsL_law wsX9_nearest := goodIn_r _ [706, 23, 330, 331, 2, 332, 118, 119, 120, 690, 691, 692, 22, 693, 88, 707, 708, 709, 710, 90, 91, 711, 712, 713, 714, 715, 716, 717, 718, 719, 720, 721, 722, 723, 724, 725, 726, 727, 728, 729, 86, 730, 130, 131, 26, 132, 43, 44, 731, 732, 733, 734, 735, 736, 737, 738, 186, 187, 188, 739, 740, 741, 742, 87, 784, 785, 786, 787, 788, 824, 825, 826, 827, 828, 829, 830] (by decide +kernel) (by decide +kernel)
set_option maxRecDepth 20000 in
theorem gL_law_X9_nearest : GoodIn wsL_law (wsV RL 80 RX9 yX9_nearest wsX9_nearest) := goodIn_app (goodIn_of _ (by decide +kernel)) ggL_law_X9_nearest
set_option maxRecDepth 20000 in
theorem ggL_law_X10_nearest : GoodIn wsL_law wsX10_nearest := goodIn_r _ [746, 113, 702, 297, 298, 280, 281, 5, 282, 747, 748, 749, 750, 751, 752, 753, 754, 111, 112, 299, 300, 301, 302, 303, 304, 305, 789, 790, 791, 792, 793, 794, 795, 796, 797, 798, 799, 800, 801, 802, 803, 804, 805, 806, 807, 808, 809, 810, 811, 812] (by decide +kernel) (by decide +kernel)
set_option maxRecDepth 20000 in
theorem gL_law_X10_nearest : GoodIn wsL_law (wsV RL 83 RX10 yX10_nearest wsX10_nearest) := goodIn_app (goodIn_of _ (by decide +kernel)) ggL_law_X10_nearest
set_option maxRecDepth 20000 in
theorem ggL_law_X9_choice : GoodIn wsL_law wsX9_choice := goodIn_r _ [758, 23, 27, 759, 714, 715, 22, 716, 88, 717, 718, 719, 720, 721, 722, 723, 724, 725, 118, 119, 2, 120, 760, 740, 741, 742, 87, 761, 727, 728, 729, 86, 730, 130, 131, 26, 132, 43, 44, 482, 182, 183, 184, 185, 186, 187, 188, 189, 190, 191, 483, 484, 485, 486, 784, 785, 786, 787, 788, 824, 825, 826, 827, 828, 829, 830] (by decide +kernel) (by decide +kernel)
set_option maxRecDepth 20000 in
theorem gL_law_X9_choice : GoodIn wsL_law (wsV RL 84 RX9 yX9_choice wsX9_choice) := goodIn_app (goodIn_of _ (by decide +kernel)) ggL_law_X9_choice
set_option maxRecDepth 20000 in
theorem ggL_law_X10_choice : GoodIn wsL_law wsX10_choice := goodIn_r _ [765, 113, 297, 298, 747, 748, 749, 5, 750, 702, 280, 281, 282, 751, 752, 753, 754, 111, 112, 299, 300, 301, 302, 303, 304, 305, 789, 790, 791, 792, 793, 794, 795, 796, 797, 798, 799, 800, 801, 802, 803, 804, 805, 806, 807, 808, 809, 810, 811, 812] (by decide +kernel) (by decide +kernel)
set_option maxRecDepth 20000 in
theorem gL_law_X10_choice : GoodIn wsL_law (wsV RL 87 RX10 yX10_choice wsX10_choice) := goodIn_app (goodIn_of _ (by decide +kernel)) ggL_law_X10_choice
set_option maxRecDepth 20000 in
theorem ggL_law_X9_count : GoodIn wsL_law wsX9_count := goodIn_r _ [769, 19, 23, 387, 388, 389, 18, 390, 74, 690, 691, 692, 22, 693, 88, 770, 624, 625, 626, 71, 523, 524, 771, 661, 629, 662, 663, 664, 665, 784, 785, 786, 787, 788, 816, 817, 818, 819, 820, 821, 822, 823, 824, 825, 826, 827, 828, 846, 847, 848, 849, 850, 851, 852, 841, 842, 843, 844, 845] (by decide +kernel) (by decide +kernel)
set_option maxRecDepth 20000 in
theorem gL_law_X9_count : GoodIn wsL_law (wsV RL 88 RX9 yX9_count wsX9_count) := goodIn_app (goodIn_of _ (by decide +kernel)) ggL_law_X9_count
set_option maxRecDepth 20000 in
theorem ggL_law_X10_count : GoodIn wsL_law wsX10_count := goodIn_r _ [775, 113, 456, 702, 636, 637, 638, 5, 639, 640, 641, 642, 643, 100, 101, 789, 790, 791, 792, 793, 794, 795, 796, 797, 798, 799, 800, 801, 802, 803, 804, 805, 806, 807, 808, 809, 810, 811, 812] (by decide +kernel) (by decide +kernel)
set_option maxRecDepth 20000 in
theorem gL_law_X10_count : GoodIn wsL_law (wsV RL 91 RX10 yX10_count wsX10_count) := goodIn_app (goodIn_of _ (by decide +kernel)) ggL_law_X10_count
set_option maxRecDepth 20000 in
theorem ggL_law_X9_trace : GoodIn wsL_law wsX9_trace := goodIn_r _ [779, 28, 784, 785, 786, 787, 788] (by decide +kernel) (by decide +kernel)
set_option maxRecDepth 20000 in
theorem gL_law_X9_trace : GoodIn wsL_law (wsV RL 92 RX9 yX9_trace wsX9_trace) := goodIn_app (goodIn_of _ (by decide +kernel)) ggL_law_X9_trace
set_option maxRecDepth 20000 in
theorem ggL_law_X10_trace : GoodIn wsL_law wsX10_trace := goodIn_r _ [783, 113, 491, 789, 790, 791, 792, 793, 794, 795, 796, 797, 798, 799, 800, 801, 802, 803, 804, 805, 806, 807, 808, 809, 810, 811, 812] (by decide +kernel) (by decide +kernel)
set_option maxRecDepth 20000 in
theorem gL_law_X10_trace : GoodIn wsL_law (wsV RL 96 RX10 yX10_trace wsX10_trace) := goodIn_app (goodIn_of _ (by decide +kernel)) ggL_law_X10_trace
