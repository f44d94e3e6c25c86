set_option maxRecDepth 20000 in
theorem ggL_law_X9_init : GoodIn wsL_law wsX9_init := goodIn_r _ [8, 9, 10, 11, 12, 13, 14, 15, 16, 17, 18, 19, 20, 21, 22, 23, 24, 25, 26, 27, 28, 29, 30, 31, 32, 33, 34, 35, 36, 37, 38, 39, 40, 41, 42, 43, 44, 45, 46, 47, 48, 49, 50, 51, 52, 53, 54, 55, 56, 57, 58, 59, 60, 61, 62, 63, 64, 65, 66, 67, 68, 69, 70, 71, 72, 73, 74, 75, 76, 77, 78, 79, 80, 81, 82, 83, 84, 85, 86, 87, 88, 89, 90, 91, 809, 810, 811, 780, 781, 782, 783, 784, 812, 813, 814, 815, 816, 817, 818, 819, 820, 821, 822, 823, 824, 825, 826, 827, 828, 829, 830] (by decide +kernel) (by decide +kernel)
set_option maxRecDepth 20000 in
theorem gL_law_X9_init : GoodIn wsL_law (wsX9_init) := ggL_law_X9_init
set_option maxRecDepth 20000 in
theorem ggL_law_X10_init : GoodIn wsL_law wsX10_init := goodIn_r _ [94, 95, 10, 11, 77, 96, 97, 98, 99, 100, 101, 102, 103, 104, 105, 106, 107, 108, 109, 110, 111, 112, 113, 785, 786, 787, 788, 789, 790, 791, 792, 793, 794, 795, 796, 797, 798, 799, 800, 801, 802, 803, 804, 805, 806, 807, 808] (by decide +kernel) (by decide +kernel)
set_option maxRecDepth 20000 in
theorem gL_law_X10_init : GoodIn wsL_law (wsX10_init) := ggL_law_X10_init
set_option maxRecDepth 20000 in
theorem ggL_law_X9_many : GoodIn wsL_law wsX9_many := goodIn_r _ [117, 15, 118, 119, 2, 120, 121, 122, 123, 14, 124, 37, 34, 125, 126, 127, 128, 36, 129, 130, 131, 26, 132, 43, 44, 133, 134, 135, 39, 136, 137, 138, 51, 139, 140, 141, 142, 143, 144, 145, 146, 147, 148, 149, 50, 150, 151, 152, 153, 154, 155, 156, 157, 158, 159, 160, 161, 162, 163, 164, 165, 166, 167, 56, 168, 169, 170, 171, 172, 173, 174, 175, 176, 177, 178, 179, 180, 181, 182, 183, 184, 185, 186, 187, 188, 189, 190, 191, 10, 11, 192, 193, 194, 195, 196, 197, 198, 199, 200, 201, 202, 203, 204, 205, 206, 207, 208, 209, 210, 211, 212, 213, 214, 215, 216, 217, 218, 219, 55, 220, 221, 222, 223, 224, 225, 226, 227, 228, 229, 230, 231, 232, 233, 234, 235, 236, 237, 238, 239, 240, 241, 242, 243, 244, 245, 246, 247, 248, 249, 250, 251, 252, 253, 254, 255, 256, 257, 258, 259, 260, 261, 262, 263, 264, 265, 266, 267, 268, 780, 781, 782, 783, 784, 809, 810, 811, 825, 826, 827, 831, 832, 833, 834, 835, 836, 828, 829, 830] (by decide +kernel) (by decide +kernel)
set_option maxRecDepth 20000 in
theorem gL_law_X9_many : GoodIn wsL_law (wsV RL 13 RX9 yX9_many wsX9_many) := goodIn_app (goodIn_of _ (by decide +kernel)) ggL_law_X9_many
set_option maxRecDepth 20000 in
theorem ggL_law_X10_many : GoodIn wsL_law wsX10_many := goodIn_r _ [272, 113, 273, 274, 5, 275, 276, 277, 278, 279, 280, 281, 282, 98, 283, 284, 285, 286, 287, 288, 96, 97, 289, 290, 291, 292, 293, 294, 295, 296, 297, 298, 299, 300, 301, 785, 786, 787, 788, 789, 790, 791, 792, 793, 794, 795, 796, 797, 798, 799, 800, 801, 802, 803, 804, 805, 806, 807, 808] (by decide +kernel) (by decide +kernel)
set_option maxRecDepth 20000 in
theorem gL_law_X10_many : GoodIn wsL_law (wsV RL 17 RX10 yX10_many wsX10_many) := goodIn_app (goodIn_of _ (by decide +kernel)) ggL_law_X10_many
set_option maxRecDepth 20000 in
theorem ggL_law_X9_share : GoodIn wsL_law wsX9_share := goodIn_r _ [305, 306, 307, 308, 309, 310, 2, 311, 15, 118, 119, 120, 121, 122, 123, 14, 124, 37, 34, 125, 126, 127, 128, 36, 129, 130, 131, 26, 132, 43, 44, 133, 134, 135, 39, 136, 137, 138, 51, 139, 140, 141, 142, 143, 144, 145, 146, 147, 148, 149, 50, 150, 151, 152, 153, 154, 155, 156, 157, 158, 159, 160, 161, 162, 163, 164, 165, 166, 167, 56, 168, 169, 170, 171, 172, 173, 174, 175, 176, 177, 178, 179, 180, 181, 182, 183, 184, 185, 186, 187, 188, 189, 190, 191, 10, 11, 192, 193, 194, 195, 196, 197, 198, 199, 200, 201, 202, 203, 204, 205, 206, 207, 208, 209, 210, 211, 212, 213, 214, 215, 216, 217, 218, 219, 55, 220, 221, 222, 223, 224, 225, 226, 227, 228, 229, 230, 231, 232, 233, 234, 235, 236, 237, 238, 239, 240, 241, 242, 243, 244, 245, 246, 247, 248, 249, 250, 251, 252, 253, 254, 255, 256, 257, 258, 259, 260, 261, 262, 263, 264, 265, 266, 267, 312, 831, 832, 833, 834, 835, 836, 780, 781, 782, 783, 784, 809, 810, 811, 825, 826, 827, 828, 829, 830] (by decide +kernel) (by decide +kernel)
set_option maxRecDepth 20000 in
theorem gL_law_X9_share : GoodIn wsL_law (wsV RL 18 RX9 yX9_share wsX9_share) := goodIn_app (goodIn_of _ (by decide +kernel)) ggL_law_X9_share
set_option maxRecDepth 20000 in
theorem ggL_law_X10_share : GoodIn wsL_law wsX10_share := goodIn_r _ [316, 113, 96, 98, 97, 317, 318, 319, 5, 320, 273, 274, 275, 276, 277, 278, 279, 280, 281, 282, 283, 284, 285, 286, 287, 288, 289, 290, 291, 292, 293, 294, 295, 296, 297, 298, 299, 300, 301, 785, 786, 787, 788, 789, 790, 791, 792, 793, 794, 795, 796, 797, 798, 799, 800, 801, 802, 803, 804, 805, 806, 807, 808] (by decide +kernel) (by decide +kernel)
set_option maxRecDepth 20000 in
theorem gL_law_X10_share : GoodIn wsL_law (wsV RL 22 RX10 yX10_share wsX10_share) := goodIn_app (goodIn_of _ (by decide +kernel)) ggL_law_X10_share
set_option maxRecDepth 20000 in
theorem ggL_law_X9_rank : GoodIn wsL_law wsX9_rank := goodIn_r _ [324, 325, 15, 118, 119, 2, 120, 326, 327, 328, 121, 122, 123, 14, 124, 37, 34, 125, 126, 127, 128, 36, 129, 130, 131, 26, 132, 43, 44, 133, 134, 135, 39, 136, 137, 138, 51, 139, 140, 141, 142, 143, 144, 145, 146, 147, 148, 149, 50, 150, 151, 152, 153, 154, 155, 156, 157, 158, 159, 160, 161, 162, 163, 164, 165, 166, 167, 56, 168, 169, 170, 171, 172, 173, 174, 175, 176, 177, 178, 179, 180, 181, 182, 183, 184, 185, 186, 187, 188, 189, 190, 191, 10, 11, 192, 193, 194, 195, 196, 197, 198, 199, 200, 201, 202, 203, 204, 205, 206, 207, 208, 209, 210, 211, 212, 213, 214, 215, 216, 217, 218, 219, 55, 220, 221, 222, 223, 224, 225, 226, 227, 228, 229, 230, 231, 232, 233, 234, 235, 236, 237, 238, 239, 240, 241, 242, 243, 244, 245, 246, 247, 248, 249, 250, 251, 252, 253, 254, 255, 256, 257, 258, 259, 260, 261, 262, 263, 264, 265, 266, 267, 329, 330, 331, 332, 780, 781, 782, 783, 784, 809, 810, 811, 825, 826, 827, 831, 832, 833, 834, 835, 836, 828, 829, 830] (by decide +kernel) (by decide +kernel)
set_option maxRecDepth 20000 in
theorem gL_law_X9_rank : GoodIn wsL_law (wsV RL 23 RX9 yX9_rank wsX9_rank) := goodIn_app (goodIn_of _ (by decide +kernel)) ggL_law_X9_rank
set_option maxRecDepth 20000 in
theorem ggL_law_X10_rank : GoodIn wsL_law wsX10_rank := goodIn_r _ [336, 113, 273, 274, 5, 275, 276, 277, 278, 337, 338, 339, 340, 341, 342, 343, 344, 98, 97, 96, 283, 284, 285, 286, 287, 288, 289, 290, 291, 292, 293, 294, 295, 296, 297, 298, 299, 300, 301, 785, 786, 787, 788, 789, 790, 791, 792, 793, 794, 795, 796, 797, 798, 799, 800, 801, 802, 803, 804, 805, 806, 807, 808] (by decide +kernel) (by decide +kernel)
set_option maxRecDepth 20000 in
theorem gL_law_X10_rank : GoodIn wsL_law (wsV RL 26 RX10 yX10_rank wsX10_rank) := goodIn_app (goodIn_of _ (by decide +kernel)) ggL_law_X10_rank
set_option maxRecDepth 20000 in
theorem ggL_law_X9_fewest : GoodIn wsL_law wsX9_fewest := goodIn_r _ [348, 325, 15, 326, 327, 2, 328, 118, 119, 120, 121, 122, 123, 14, 124, 37, 34, 125, 126, 127, 128, 36, 129, 130, 131, 26, 132, 43, 44, 133, 134, 135, 39, 136, 137, 138, 51, 139, 140, 141, 142, 143, 144, 145, 146, 147, 148, 149, 50, 150, 151, 152, 153, 154, 155, 156, 157, 158, 159, 160, 161, 162, 163, 164, 165, 166, 167, 56, 168, 169, 170, 171, 172, 173, 174, 175, 176, 177, 178, 179, 180, 181, 182, 183, 184, 185, 186, 187, 188, 189, 190, 191, 10, 11, 192, 193, 194, 195, 196, 197, 198, 199, 200, 201, 202, 203, 204, 205, 206, 207, 208, 209, 210, 211, 212, 213, 214, 215, 216, 217, 218, 219, 55, 220, 221, 222, 223, 224, 225, 226, 227, 228, 229, 230, 231, 232, 233, 234, 235, 236, 237, 238, 239, 240, 241, 242, 243, 244, 245, 246, 247, 248, 249, 250, 251, 252, 253, 254, 255, 256, 257, 258, 259, 260, 261, 262, 263, 264, 265, 266, 267, 329, 330, 331, 332, 780, 781, 782, 783, 784, 809, 810, 811, 825, 826, 827, 831, 832, 833, 834, 835, 836, 828, 829, 830] (by decide +kernel) (by decide +kernel)
set_option maxRecDepth 20000 in
theorem gL_law_X9_fewest : GoodIn wsL_law (wsV RL 27 RX9 yX9_fewest wsX9_fewest) := goodIn_app (goodIn_of _ (by decide +kernel)) ggL_law_X9_fewest
set_option maxRecDepth 20000 in
theorem ggL_law_X10_fewest : GoodIn wsL_law wsX10_fewest := goodIn_r _ [352, 113, 337, 338, 5, 339, 340, 276, 277, 278, 341, 342, 343, 344, 98, 97, 96, 283, 284, 285, 286, 287, 288, 289, 290, 291, 292, 293, 294, 295, 296, 297, 298, 299, 300, 301, 785, 786, 787, 788, 789, 790, 791, 792, 793, 794, 795, 796, 797, 798, 799, 800, 801, 802, 803, 804, 805, 806, 807, 808] (by decide +kernel) (by decide +kernel)
set_option maxRecDepth 20000 in
theorem gL_law_X10_fewest : GoodIn wsL_law (wsV RL 31 RX10 yX10_fewest wsX10_fewest) := goodIn_app (goodIn_of _ (by decide +kernel)) ggL_law_X10_fewest
set_option maxRecDepth 20000 in
theorem ggL_law_X9_made : GoodIn wsL_law wsX9_made := goodIn_r _ [356, 357, 358, 359, 360, 308, 309, 310, 2, 311, 15, 118, 119, 120, 121, 122, 123, 14, 124, 37, 34, 125, 126, 127, 128, 36, 129, 130, 131, 26, 132, 43, 44, 133, 134, 135, 39, 136, 137, 138, 51, 139, 140, 141, 142, 143, 144, 145, 146, 147, 148, 149, 50, 150, 151, 152, 153, 154, 155, 156, 157, 158, 159, 160, 161, 162, 163, 164, 165, 166, 167, 56, 168, 169, 170, 171, 172, 173, 174, 175, 176, 177, 178, 179, 180, 181, 182, 183, 184, 185, 186, 187, 188, 189, 190, 191, 10, 11, 192, 193, 194, 195, 196, 197, 198, 199, 200, 201, 202, 203, 204, 205, 206, 207, 208, 209, 210, 211, 212, 213, 214, 215, 216, 217, 218, 219, 55, 220, 221, 222, 223, 224, 225, 226, 227, 228, 229, 230, 231, 232, 233, 234, 235, 236, 237, 238, 239, 240, 241, 242, 243, 244, 245, 246, 247, 248, 249, 250, 251, 252, 253, 254, 255, 256, 257, 258, 259, 260, 261, 262, 263, 264, 265, 266, 267, 312, 831, 832, 833, 834, 835, 836, 780, 781, 782, 783, 784, 809, 810, 811, 825, 826, 827, 828, 829, 830] (by decide +kernel) (by decide +kernel)
set_option maxRecDepth 20000 in
theorem gL_law_X9_made : GoodIn wsL_law (wsV RL 32 RX9 yX9_made wsX9_made) := goodIn_app (goodIn_of _ (by decide +kernel)) ggL_law_X9_made
set_option maxRecDepth 20000 in
theorem ggL_law_X10_made : GoodIn wsL_law wsX10_made := goodIn_r _ [364, 113, 98, 96, 97, 317, 318, 319, 5, 320, 273, 274, 275, 276, 277, 278, 279, 280, 281, 282, 283, 284, 285, 286, 287, 288, 289, 290, 291, 292, 293, 294, 295, 296, 297, 298, 299, 300, 301, 341, 342, 343, 344, 785, 786, 787, 788, 789, 790, 791, 792, 793, 794, 795, 796, 797, 798, 799, 800, 801, 802, 803, 804, 805, 806, 807, 808] (by decide +kernel) (by decide +kernel)
set_option maxRecDepth 20000 in
theorem gL_law_X10_made : GoodIn wsL_law (wsV RL 35 RX10 yX10_made wsX10_made) := goodIn_app (goodIn_of _ (by decide +kernel)) ggL_law_X10_made
set_option maxRecDepth 20000 in
theorem ggL_law_X9_turned : GoodIn wsL_law wsX9_turned := goodIn_r _ [368, 15, 308, 309, 310, 2, 311, 118, 119, 120, 121, 122, 123, 14, 124, 37, 34, 125, 126, 127, 128, 36, 129, 130, 131, 26, 132, 43, 44, 133, 134, 135, 39, 136, 137, 138, 51, 139, 140, 141, 142, 143, 144, 145, 146, 147, 148, 149, 50, 150, 151, 152, 153, 154, 155, 156, 157, 158, 159, 160, 161, 162, 163, 164, 165, 166, 167, 56, 168, 169, 170, 171, 172, 173, 174, 175, 176, 177, 178, 179, 180, 181, 182, 183, 184, 185, 186, 187, 188, 189, 190, 191, 10, 11, 192, 193, 194, 195, 196, 197, 198, 199, 200, 201, 202, 203, 204, 205, 206, 207, 208, 209, 210, 211, 212, 213, 214, 215, 216, 217, 218, 219, 55, 220, 221, 222, 223, 224, 225, 226, 227, 228, 229, 230, 231, 232, 233, 234, 235, 236, 237, 238, 239, 240, 241, 242, 243, 244, 245, 246, 247, 248, 249, 250, 251, 252, 253, 254, 255, 256, 257, 258, 259, 260, 261, 262, 263, 264, 265, 266, 267, 312, 268, 780, 781, 782, 783, 784, 809, 810, 811, 825, 826, 827, 831, 832, 833, 834, 835, 836, 828, 829, 830] (by decide +kernel) (by decide +kernel)
set_option maxRecDepth 20000 in
theorem gL_law_X9_turned : GoodIn wsL_law (wsV RL 36 RX9 yX9_turned wsX9_turned) := goodIn_app (goodIn_of _ (by decide +kernel)) ggL_law_X9_turned
set_option maxRecDepth 20000 in
theorem ggL_law_X10_turned : GoodIn wsL_law wsX10_turned := goodIn_r _ [372, 113, 97, 98, 96, 317, 318, 319, 5, 320, 273, 274, 275, 276, 277, 278, 279, 280, 281, 282, 283, 284, 285, 286, 287, 288, 289, 290, 291, 292, 293, 294, 295, 296, 297, 298, 299, 300, 301, 341, 342, 343, 344, 785, 786, 787, 788, 789, 790, 791, 792, 793, 794, 795, 796, 797, 798, 799, 800, 801, 802, 803, 804, 805, 806, 807, 808] (by decide +kernel) (by decide +kernel)
set_option maxRecDepth 20000 in
theorem gL_law_X10_turned : GoodIn wsL_law (wsV RL 39 RX10 yX10_turned wsX10_turned) := goodIn_app (goodIn_of _ (by decide +kernel)) ggL_law_X10_turned
set_option maxRecDepth 20000 in
theorem ggL_law_X9_wire : GoodIn wsL_law wsX9_wire := goodIn_r _ [376, 19, 118, 119, 2, 120, 377, 378, 379, 380, 381, 382, 383, 384, 385, 18, 386, 74, 387, 388, 389, 390, 391, 392, 393, 394, 395, 396, 397, 398, 399, 400, 401, 402, 403, 404, 405, 406, 407, 408, 409, 410, 10, 11, 411, 412, 413, 414, 415, 416, 417, 418, 419, 71, 73, 420, 421, 422, 423, 76, 424, 425, 426, 427, 428, 429, 430, 431, 432, 433, 434, 435, 436, 437, 438, 130, 131, 26, 132, 43, 44, 439, 440, 441, 442, 443, 444, 445, 446, 447, 780, 781, 782, 783, 784, 812, 813, 814, 815, 816, 817, 818, 819, 837, 838, 839, 840, 841, 842, 843, 844, 845, 846, 847, 848, 825, 826] (by decide +kernel) (by decide +kernel)
set_option maxRecDepth 20000 in
theorem gL_law_X9_wire : GoodIn wsL_law (wsV RL 40 RX9 yX9_wire wsX9_wire) := goodIn_app (goodIn_of _ (by decide +kernel)) ggL_law_X9_wire
set_option maxRecDepth 20000 in
theorem ggL_law_X10_wire : GoodIn wsL_law wsX10_wire := goodIn_r _ [451, 113, 452, 99, 100, 101, 102, 103, 276, 277, 5, 278, 453, 454, 455, 785, 786, 787, 788, 789, 790, 791, 792, 793, 794, 795, 796, 797, 798, 799, 800, 801, 802, 803, 804, 805, 806, 807, 808] (by decide +kernel) (by decide +kernel)
set_option maxRecDepth 20000 in
theorem gL_law_X10_wire : GoodIn wsL_law (wsV RL 44 RX10 yX10_wire wsX10_wire) := goodIn_app (goodIn_of _ (by decide +kernel)) ggL_law_X10_wire
set_option maxRecDepth 20000 in
theorem ggL_law_X9_cut : GoodIn wsL_law wsX9_cut := goodIn_r _ [459, 19, 383, 384, 385, 18, 386, 74, 460, 461, 462, 463, 71, 780, 781, 782, 783, 784, 812, 813, 814, 815, 816, 817, 818, 819] (by decide +kernel) (by decide +kernel)
set_option maxRecDepth 20000 in
theorem gL_law_X9_cut : GoodIn wsL_law (wsV RL 45 RX9 yX9_cut wsX9_cut) := goodIn_app (goodIn_of _ (by decide +kernel)) ggL_law_X9_cut
set_option maxRecDepth 20000 in
theorem ggL_law_X10_cut : GoodIn wsL_law wsX10_cut := goodIn_r _ [467, 113, 452, 785, 786, 787, 788, 789, 790, 791, 792, 793, 794, 795, 796, 797, 798, 799, 800, 801, 802, 803, 804, 805, 806, 807, 808] (by decide +kernel) (by decide +kernel)
set_option maxRecDepth 20000 in
theorem gL_law_X10_cut : GoodIn wsL_law (wsV RL 49 RX10 yX10_cut wsX10_cut) := goodIn_app (goodIn_of _ (by decide +kernel)) ggL_law_X10_cut
set_option maxRecDepth 20000 in
theorem ggL_law_X9_ohms : GoodIn wsL_law wsX9_ohms := goodIn_r _ [471, 19, 28, 27, 472, 473, 474, 18, 475, 74, 71, 118, 119, 2, 120, 476, 428, 429, 430, 431, 395, 432, 433, 406, 434, 435, 436, 398, 437, 438, 130, 131, 26, 132, 43, 44, 477, 440, 441, 442, 392, 443, 444, 402, 445, 446, 447, 478, 178, 179, 180, 181, 182, 183, 184, 185, 186, 187, 479, 480, 481, 482, 780, 781, 782, 783, 784, 812, 813, 814, 815, 816, 817, 818, 819, 825, 826, 842, 843, 844, 845, 837, 838, 839, 840, 841] (by decide +kernel) (by decide +kernel)
set_option maxRecDepth 20000 in
theorem gL_law_X9_ohms : GoodIn wsL_law (wsV RL 50 RX9 yX9_ohms wsX9_ohms) := goodIn_app (goodIn_of _ (by decide +kernel)) ggL_law_X9_ohms
set_option maxRecDepth 20000 in
theorem ggL_law_X10_ohms : GoodIn wsL_law wsX10_ohms := goodIn_r _ [486, 113, 487, 99, 488, 489, 102, 103, 293, 294, 490, 491, 492, 5, 493, 452, 276, 277, 278, 295, 296, 297, 298, 299, 300, 301, 785, 786, 787, 788, 789, 790, 791, 792, 793, 794, 795, 796, 797, 798, 799, 800, 801, 802, 803, 804, 805, 806, 807, 808] (by decide +kernel) (by decide +kernel)
set_option maxRecDepth 20000 in
theorem gL_law_X10_ohms : GoodIn wsL_law (wsV RL 53 RX10 yX10_ohms wsX10_ohms) := goodIn_app (goodIn_of _ (by decide +kernel)) ggL_law_X10_ohms
set_option maxRecDepth 20000 in
theorem ggL_law_X9_about : GoodIn wsL_law wsX9_about := goodIn_r _ [497, 19, 498, 499, 500, 472, 473, 474, 18, 475, 74, 71, 780, 781, 782, 783, 784, 842, 843, 844, 845, 846, 847, 848, 837, 838, 839, 840, 841, 812, 813, 814, 815, 816, 817, 818, 819] (by decide +kernel) (by decide +kernel)
set_option maxRecDepth 20000 in
theorem gL_law_X9_about : GoodIn wsL_law (wsV RL 54 RX9 yX9_about wsX9_about) := goodIn_app (goodIn_of _ (by decide +kernel)) ggL_law_X9_about
set_option maxRecDepth 20000 in
theorem ggL_law_X10_about : GoodIn wsL_law wsX10_about := goodIn_r _ [504, 113, 99, 100, 101, 490, 491, 492, 5, 493, 452, 276, 277, 278, 785, 786, 787, 788, 789, 790, 791, 792, 793, 794, 795, 796, 797, 798, 799, 800, 801, 802, 803, 804, 805, 806, 807, 808] (by decide +kernel) (by decide +kernel)
set_option maxRecDepth 20000 in
theorem gL_law_X10_about : GoodIn wsL_law (wsV RL 57 RX10 yX10_about wsX10_about) := goodIn_app (goodIn_of _ (by decide +kernel)) ggL_law_X10_about
set_option maxRecDepth 20000 in
theorem ggL_law_X9_between : GoodIn wsL_law wsX9_between := goodIn_r _ [508, 509, 19, 510, 27, 380, 381, 2, 382, 118, 119, 120, 511, 512, 513, 18, 514, 515, 516, 517, 518, 74, 71, 519, 520, 521, 522, 523, 524, 398, 525, 412, 413, 526, 527, 528, 529, 530, 531, 532, 425, 533, 130, 131, 26, 132, 43, 44, 534, 535, 536, 537, 81, 80, 82, 538, 539, 540, 541, 73, 542, 543, 544, 545, 546, 547, 548, 549, 550, 551, 552, 553, 554, 555, 556, 557, 558, 559, 560, 561, 562, 178, 179, 180, 181, 182, 183, 184, 185, 186, 187, 479, 480, 481, 482, 780, 781, 782, 783, 784, 812, 813, 814, 815, 816, 817, 818, 819, 842, 843, 844, 845, 846, 847, 848, 837, 838, 839, 840, 841, 825, 826] (by decide +kernel) (by decide +kernel)
set_option maxRecDepth 20000 in
theorem gL_law_X9_between : GoodIn wsL_law (wsV RL 58 RX9 yX9_between wsX9_between) := goodIn_app (goodIn_of _ (by decide +kernel)) ggL_law_X9_between
set_option maxRecDepth 20000 in
theorem ggL_law_X10_between : GoodIn wsL_law wsX10_between := goodIn_r _ [566, 113, 567, 568, 452, 104, 569, 293, 294, 453, 454, 5, 455, 276, 277, 278, 570, 571, 572, 573, 105, 574, 575, 576, 577, 100, 101, 578, 579, 580, 581, 582, 583, 584, 585, 586, 587, 588, 589, 590, 591, 592, 103, 102, 295, 296, 297, 298, 299, 300, 301, 785, 786, 787, 788, 789, 790, 791, 792, 793, 794, 795, 796, 797, 798, 799, 800, 801, 802, 803, 804, 805, 806, 807, 808] (by decide +kernel) (by decide +kernel)
set_option maxRecDepth 20000 in
theorem gL_law_X10_between : GoodIn wsL_law (wsV RL 62 RX10 yX10_between wsX10_between) := goodIn_app (goodIn_of _ (by decide +kernel)) ggL_law_X10_between
set_option maxRecDepth 20000 in
theorem ggL_law_X9_through : GoodIn wsL_law wsX9_through := goodIn_r _ [596, 19, 597, 27, 472, 473, 474, 18, 475, 74, 71, 377, 378, 2, 379, 380, 381, 382, 118, 119, 120, 511, 512, 513, 514, 515, 516, 517, 518, 519, 520, 521, 522, 523, 524, 398, 525, 412, 413, 526, 527, 528, 598, 599, 600, 601, 73, 534, 535, 536, 537, 81, 80, 82, 538, 539, 540, 541, 542, 543, 544, 545, 546, 547, 548, 549, 550, 551, 552, 553, 554, 555, 556, 557, 558, 559, 560, 561, 533, 130, 131, 26, 132, 43, 44, 562, 178, 179, 180, 181, 182, 183, 184, 185, 186, 187, 479, 480, 481, 482, 780, 781, 782, 783, 784, 812, 813, 814, 815, 816, 817, 818, 819, 842, 843, 844, 845, 846, 847, 848, 837, 838, 839, 840, 841, 825, 826] (by decide +kernel) (by decide +kernel)
set_option maxRecDepth 20000 in
theorem gL_law_X9_through : GoodIn wsL_law (wsV RL 63 RX9 yX9_through wsX9_through) := goodIn_app (goodIn_of _ (by decide +kernel)) ggL_law_X9_through
set_option maxRecDepth 20000 in
theorem ggL_law_X10_through : GoodIn wsL_law wsX10_through := goodIn_r _ [605, 113, 606, 452, 293, 294, 490, 491, 492, 5, 493, 276, 277, 278, 453, 454, 455, 570, 571, 572, 573, 105, 104, 574, 575, 576, 577, 100, 101, 578, 579, 580, 581, 582, 583, 584, 585, 586, 587, 588, 589, 590, 591, 592, 103, 102, 607, 608, 609, 610, 295, 296, 297, 298, 299, 300, 301, 785, 786, 787, 788, 789, 790, 791, 792, 793, 794, 795, 796, 797, 798, 799, 800, 801, 802, 803, 804, 805, 806, 807, 808] (by decide +kernel) (by decide +kernel)
set_option maxRecDepth 20000 in
theorem gL_law_X10_through : GoodIn wsL_law (wsV RL 67 RX10 yX10_through wsX10_through) := goodIn_app (goodIn_of _ (by decide +kernel)) ggL_law_X10_through
set_option maxRecDepth 20000 in
theorem ggL_law_X9_trees : GoodIn wsL_law wsX9_trees := goodIn_r _ [614, 19, 615, 616, 617, 18, 618, 619, 620, 621, 622, 74, 71, 519, 520, 623, 624, 625, 626, 627, 538, 539, 540, 541, 82, 80, 81, 73, 542, 543, 544, 545, 546, 547, 548, 549, 550, 551, 552, 553, 554, 555, 556, 557, 780, 781, 782, 783, 784, 812, 813, 814, 815, 816, 817, 818, 819, 842, 843, 844, 845, 846, 847, 848, 837, 838, 839, 840, 841] (by decide +kernel) (by decide +kernel)
set_option maxRecDepth 20000 in
theorem gL_law_X9_trees : GoodIn wsL_law (wsV RL 68 RX9 yX9_trees wsX9_trees) := goodIn_app (goodIn_of _ (by decide +kernel)) ggL_law_X9_trees
set_option maxRecDepth 20000 in
theorem ggL_law_X10_trees : GoodIn wsL_law wsX10_trees := goodIn_r _ [631, 113, 452, 632, 633, 634, 5, 635, 636, 637, 638, 639, 100, 101, 582, 583, 584, 574, 575, 576, 577, 104, 785, 786, 787, 788, 789, 790, 791, 792, 793, 794, 795, 796, 797, 798, 799, 800, 801, 802, 803, 804, 805, 806, 807, 808] (by decide +kernel) (by decide +kernel)
set_option maxRecDepth 20000 in
theorem gL_law_X10_trees : GoodIn wsL_law (wsV RL 71 RX10 yX10_trees wsX10_trees) := goodIn_app (goodIn_of _ (by decide +kernel)) ggL_law_X10_trees
set_option maxRecDepth 20000 in
theorem ggL_law_X9_falls : GoodIn wsL_law wsX9_falls := goodIn_r _ [643, 19, 377, 378, 2, 379, 380, 381, 382, 118, 119, 120, 511, 512, 513, 18, 514, 515, 516, 517, 518, 74, 71, 519, 520, 521, 522, 523, 524, 398, 525, 412, 413, 526, 527, 528, 644, 645, 646, 647, 78, 648, 649, 650, 651, 652, 653, 654, 655, 656, 657, 625, 658, 659, 660, 661, 662, 663, 664, 665, 623, 624, 626, 627, 780, 781, 782, 783, 784, 812, 813, 814, 815, 816, 817, 818, 819, 842, 843, 844, 845, 846, 847, 848, 837, 838, 839, 840, 841] (by decide +kernel) (by decide +kernel)
set_option maxRecDepth 20000 in
theorem gL_law_X9_falls : GoodIn wsL_law (wsV RL 72 RX9 yX9_falls wsX9_falls) := goodIn_app (goodIn_of _ (by decide +kernel)) ggL_law_X9_falls
set_option maxRecDepth 20000 in
theorem ggL_law_X10_falls : GoodIn wsL_law wsX10_falls := goodIn_r _ [669, 113, 452, 106, 100, 107, 101, 109, 105, 453, 454, 5, 455, 276, 277, 278, 570, 571, 572, 573, 104, 574, 575, 576, 577, 670, 671, 672, 673, 674, 675, 676, 677, 678, 679, 680, 681, 785, 786, 787, 788, 789, 790, 791, 792, 793, 794, 795, 796, 797, 798, 799, 800, 801, 802, 803, 804, 805, 806, 807, 808] (by decide +kernel) (by decide +kernel)
set_option maxRecDepth 20000 in
theorem gL_law_X10_falls : GoodIn wsL_law (wsV RL 75 RX10 yX10_falls wsX10_falls) := goodIn_app (goodIn_of _ (by decide +kernel)) ggL_law_X10_falls
set_option maxRecDepth 20000 in
theorem ggL_law_X9_sort : GoodIn wsL_law wsX9_sort := goodIn_r _ [685, 23, 118, 119, 2, 120, 686, 687, 688, 22, 689, 88, 690, 691, 692, 693, 86, 87, 780, 781, 782, 783, 784, 820, 821, 822, 823, 824] (by decide +kernel) (by decide +kernel)
set_option maxRecDepth 20000 in
theorem gL_law_X9_sort : GoodIn wsL_law (wsV RL 76 RX9 yX9_sort wsX9_sort) := goodIn_app (goodIn_of _ (by decide +kernel)) ggL_law_X9_sort
set_option maxRecDepth 20000 in
theorem ggL_law_X10_sort : GoodIn wsL_law wsX10_sort := goodIn_r _ [697, 113, 698, 111, 112, 276, 277, 5, 278, 785, 786, 787, 788, 789, 790, 791, 792, 793, 794, 795, 796, 797, 798, 799, 800, 801, 802, 803, 804, 805, 806, 807, 808] (by decide +kernel) (by decide +kernel)
set_option maxRecDepth 20000 in
theorem gL_law_X10_sort : GoodIn wsL_law (wsV RL 79 RX10 yX10_sort wsX10_sort) := goodIn_app (goodIn_of _ (by decide +kernel)) ggL_law_X10_sort
set_option maxRecDepth 20000 in
theorem ggL_law_X9_nearest : GoodIn wsL_law wsX9_nearest := goodIn_r _ [702, 23, 326, 327, 2, 328, 118, 119, 120, 686, 687, 688, 22, 689, 88, 703, 704, 705, 706, 90, 91, 707, 708, 709, 710, 711, 712, 713, 714, 715, 716, 717, 718, 719, 720, 721, 722, 723, 724, 725, 86, 726, 130, 131, 26, 132, 43, 44, 727, 728, 729, 730, 731, 732, 733, 734, 182, 183, 184, 735, 736, 737, 738, 87, 780, 781, 782, 783, 784, 820, 821, 822, 823, 824, 825, 826] (by decide +kernel) (by decide +kernel)
set_option maxRecDepth 20000 in
theorem gL_law_X9_nearest : GoodIn wsL_law (wsV RL 80 RX9 yX9_nearest wsX9_nearest) := goodIn_app (goodIn_of _ (by decide +kernel)) ggL_law_X9_nearest
set_option maxRecDepth 20000 in
theorem ggL_law_X10_nearest : GoodIn wsL_law wsX10_nearest := goodIn_r _ [742, 113, 698, 293, 294, 276, 277, 5, 278, 743, 744, 745, 746, 747, 748, 749, 750, 111, 112, 295, 296, 297, 298, 299, 300, 301, 785, 786, 787, 788, 789, 790, 791, 792, 793, 794, 795, 796, 797, 798, 799, 800, 801, 802, 803, 804, 805, 806, 807, 808] (by decide +kernel) (by decide +kernel)
set_option maxRecDepth 20000 in
theorem gL_law_X10_nearest : GoodIn wsL_law (wsV RL 83 RX10 yX10_nearest wsX10_nearest) := goodIn_app (goodIn_of _ (by decide +kernel)) ggL_law_X10_nearest
set_option maxRecDepth 20000 in
theorem ggL_law_X9_choice : GoodIn wsL_law wsX9_choice := goodIn_r _ [754, 23, 27, 755, 710, 711, 22, 712, 88, 713, 714, 715, 716, 717, 718, 719, 720, 721, 118, 119, 2, 120, 756, 736, 737, 738, 87, 757, 723, 724, 725, 86, 726, 130, 131, 26, 132, 43, 44, 478, 178, 179, 180, 181, 182, 183, 184, 185, 186, 187, 479, 480, 481, 482, 780, 781, 782, 783, 784, 820, 821, 822, 823, 824, 825, 826] (by decide +kernel) (by decide +kernel)
set_option maxRecDepth 20000 in
theorem gL_law_X9_choice : GoodIn wsL_law (wsV RL 84 RX9 yX9_choice wsX9_choice) := goodIn_app (goodIn_of _ (by decide +kernel)) ggL_law_X9_choice
set_option maxRecDepth 20000 in
theorem ggL_law_X10_choice : GoodIn wsL_law wsX10_choice := goodIn_r _ [761, 113, 293, 294, 743, 744, 745, 5, 746, 698, 276, 277, 278, 747, 748, 749, 750, 111, 112, 295, 296, 297, 298, 299, 300, 301, 785, 786, 787, 788, 789, 790, 791, 792, 793, 794, 795, 796, 797, 798, 799, 800, 801, 802, 803, 804, 805, 806, 807, 808] (by decide +kernel) (by decide +kernel)
set_option maxRecDepth 20000 in
theorem gL_law_X10_choice : GoodIn wsL_law (wsV RL 87 RX10 yX10_choice wsX10_choice) := goodIn_app (goodIn_of _ (by decide +kernel)) ggL_law_X10_choice
set_option maxRecDepth 20000 in
theorem ggL_law_X9_count : GoodIn wsL_law wsX9_count := goodIn_r _ [765, 19, 23, 383, 384, 385, 18, 386, 74, 686, 687, 688, 22, 689, 88, 766, 620, 621, 622, 71, 519, 520, 767, 657, 625, 658, 659, 660, 661, 780, 781, 782, 783, 784, 812, 813, 814, 815, 816, 817, 818, 819, 820, 821, 822, 823, 824, 842, 843, 844, 845, 846, 847, 848, 837, 838, 839, 840, 841] (by decide +kernel) (by decide +kernel)
set_option maxRecDepth 20000 in
theorem gL_law_X9_count : GoodIn wsL_law (wsV RL 88 RX9 yX9_count wsX9_count) := goodIn_app (goodIn_of _ (by decide +kernel)) ggL_law_X9_count
set_option maxRecDepth 20000 in
theorem ggL_law_X10_count : GoodIn wsL_law wsX10_count := goodIn_r _ [771, 113, 452, 698, 632, 633, 634, 5, 635, 636, 637, 638, 639, 100, 101, 785, 786, 787, 788, 789, 790, 791, 792, 793, 794, 795, 796, 797, 798, 799, 800, 801, 802, 803, 804, 805, 806, 807, 808] (by decide +kernel) (by decide +kernel)
set_option maxRecDepth 20000 in
theorem gL_law_X10_count : GoodIn wsL_law (wsV RL 91 RX10 yX10_count wsX10_count) := goodIn_app (goodIn_of _ (by decide +kernel)) ggL_law_X10_count
set_option maxRecDepth 20000 in
theorem ggL_law_X9_trace : GoodIn wsL_law wsX9_trace := goodIn_r _ [775, 28, 780, 781, 782, 783, 784] (by decide +kernel) (by decide +kernel)
set_option maxRecDepth 20000 in
theorem gL_law_X9_trace : GoodIn wsL_law (wsV RL 92 RX9 yX9_trace wsX9_trace) := goodIn_app (goodIn_of _ (by decide +kernel)) ggL_law_X9_trace
set_option maxRecDepth 20000 in
theorem ggL_law_X10_trace : GoodIn wsL_law wsX10_trace := goodIn_r _ [779, 113, 487, 785, 786, 787, 788, 789, 790, 791, 792, 793, 794, 795, 796, 797, 798, 799, 800, 801, 802, 803, 804, 805, 806, 807, 808] (by decide +kernel) (by decide +kernel)
set_option maxRecDepth 20000 in
theorem gL_law_X10_trace : GoodIn wsL_law (wsV RL 96 RX10 yX10_trace wsX10_trace) := goodIn_app (goodIn_of _ (by decide +kernel)) ggL_law_X10_trace
