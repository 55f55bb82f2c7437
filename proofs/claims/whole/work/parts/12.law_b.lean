abbrev cL_law : ByteArray := code
set_option maxRecDepth 20000 in
theorem ggL_law_X7_init : GoodIn wsL_law wsX7_init := goodIn_r _ [8, 9, 10, 11, 12, 13, 14, 15, 16, 17, 18, 19, 20, 21, 22, 23, 24, 25, 26, 27, 28, 29, 30, 31, 32, 33, 34, 35, 36, 37, 38, 39, 40, 41, 42, 43, 44, 45, 46, 47, 48, 49, 50, 51, 52, 53, 54, 55, 56, 57, 58, 59, 60, 61, 62, 63, 64, 65, 66, 67, 68, 69, 70, 71, 72, 73, 74, 75, 76, 77, 78, 79, 80, 81, 82, 83, 965, 966, 967, 968, 969, 970, 971, 972, 973, 974, 1001, 1002, 1003, 1004, 1005, 1006, 1007, 1008, 1009, 1010, 1011, 1012, 1013, 1014, 1015, 1016, 1017, 1018, 1019, 1020, 1021, 1022, 1023] (by decide +kernel) (by decide +kernel)
set_option maxRecDepth 20000 in
theorem gL_law_X7_init : GoodIn wsL_law (wsX7_init) := ggL_law_X7_init
set_option maxRecDepth 20000 in
theorem ggL_law_X8_init : GoodIn wsL_law wsX8_init := goodIn_r _ [86, 87, 10, 11, 43, 88, 89, 90, 91, 92, 93, 94, 95, 96, 97, 98, 99, 100, 101, 102, 103, 975, 976, 977, 978, 979, 980, 981, 982, 983, 984, 985, 986, 987, 988, 989, 990, 991, 992, 993, 994, 995, 996, 997, 998, 999, 1000] (by decide +kernel) (by decide +kernel)
set_option maxRecDepth 20000 in
theorem gL_law_X8_init : GoodIn wsL_law (wsX8_init) := ggL_law_X8_init
set_option maxRecDepth 20000 in
theorem ggL_law_X7_row : GoodIn wsL_law wsX7_row := goodIn_r _ [107, 108, 13, 109, 110, 2, 111, 112, 113, 114, 115, 116, 117, 118, 37, 119, 120, 121, 122, 39, 123, 81, 82, 83, 124, 125, 126, 127, 128, 129, 130, 131, 965, 966, 967, 968, 969, 970, 971, 972, 973, 974, 1021, 1022, 1023] (by decide +kernel) (by decide +kernel)
set_option maxRecDepth 20000 in
theorem gL_law_X7_row : GoodIn wsL_law (wsV RL 13 RX7 yX7_row wsX7_row) := goodIn_app (goodIn_of _ (by decide +kernel)) ggL_law_X7_row
set_option maxRecDepth 20000 in
theorem ggL_law_X8_row : GoodIn wsL_law wsX8_row := goodIn_r _ [135, 136, 88, 89, 90, 137, 138, 5, 139, 140, 141, 142, 143, 144, 145, 146, 147, 148, 149, 150, 151, 152, 975, 976, 977, 978, 979, 980, 981, 982, 983, 984, 985, 986, 987, 988, 989, 990, 991, 992, 993, 994, 995, 996, 997, 998, 999, 1000] (by decide +kernel) (by decide +kernel)
set_option maxRecDepth 20000 in
theorem gL_law_X8_row : GoodIn wsL_law (wsV RL 17 RX8 yX8_row wsX8_row) := goodIn_app (goodIn_of _ (by decide +kernel)) ggL_law_X8_row
set_option maxRecDepth 20000 in
theorem ggL_law_X7_set : GoodIn wsL_law wsX7_set := goodIn_r _ [156, 108, 13, 109, 110, 2, 111, 112, 113, 114, 157, 158, 159, 39, 160, 81, 115, 116, 117, 118, 37, 119, 161, 162, 163, 164, 82, 165, 166, 167, 168, 83, 128, 129, 130, 131, 965, 966, 967, 968, 969, 970, 971, 972, 973, 974, 1021, 1022, 1023] (by decide +kernel) (by decide +kernel)
set_option maxRecDepth 20000 in
theorem gL_law_X7_set : GoodIn wsL_law (wsV RL 18 RX7 yX7_set wsX7_set) := goodIn_app (goodIn_of _ (by decide +kernel)) ggL_law_X7_set
set_option maxRecDepth 20000 in
theorem ggL_law_X8_set : GoodIn wsL_law wsX8_set := goodIn_r _ [172, 136, 89, 90, 88, 137, 138, 5, 139, 140, 141, 142, 173, 174, 175, 176, 103, 143, 144, 145, 146, 147, 148, 177, 178, 179, 149, 150, 151, 152, 975, 976, 977, 978, 979, 980, 981, 982, 983, 984, 985, 986, 987, 988, 989, 990, 991, 992, 993, 994, 995, 996, 997, 998, 999, 1000] (by decide +kernel) (by decide +kernel)
set_option maxRecDepth 20000 in
theorem gL_law_X8_set : GoodIn wsL_law (wsV RL 21 RX8 yX8_set wsX8_set) := goodIn_app (goodIn_of _ (by decide +kernel)) ggL_law_X8_set
set_option maxRecDepth 20000 in
theorem ggL_law_X7_copy : GoodIn wsL_law wsX7_copy := goodIn_r _ [183, 108, 13, 184, 185, 186, 187, 188, 189, 109, 110, 2, 111, 112, 113, 114, 157, 158, 159, 39, 160, 81, 115, 116, 117, 118, 37, 119, 161, 162, 163, 164, 82, 128, 129, 130, 131, 965, 966, 967, 968, 969, 970, 971, 972, 973, 974, 1021, 1022, 1023] (by decide +kernel) (by decide +kernel)
set_option maxRecDepth 20000 in
theorem gL_law_X7_copy : GoodIn wsL_law (wsV RL 22 RX7 yX7_copy wsX7_copy) := goodIn_app (goodIn_of _ (by decide +kernel)) ggL_law_X7_copy
set_option maxRecDepth 20000 in
theorem ggL_law_X8_copy : GoodIn wsL_law wsX8_copy := goodIn_r _ [193, 136, 88, 91, 90, 137, 138, 5, 139, 140, 141, 142, 173, 174, 175, 176, 103, 143, 144, 145, 146, 147, 148, 194, 195, 196, 197, 89, 149, 150, 151, 152, 975, 976, 977, 978, 979, 980, 981, 982, 983, 984, 985, 986, 987, 988, 989, 990, 991, 992, 993, 994, 995, 996, 997, 998, 999, 1000] (by decide +kernel) (by decide +kernel)
set_option maxRecDepth 20000 in
theorem gL_law_X8_copy : GoodIn wsL_law (wsV RL 26 RX8 yX8_copy wsX8_copy) := goodIn_app (goodIn_of _ (by decide +kernel)) ggL_law_X8_copy
set_option maxRecDepth 20000 in
theorem ggL_law_X7_drop : GoodIn wsL_law wsX7_drop := goodIn_r _ [201, 108, 13, 109, 110, 2, 111, 112, 113, 114, 157, 158, 159, 39, 160, 81, 115, 116, 117, 118, 37, 119, 202, 203, 204, 205, 82, 128, 129, 130, 131, 965, 966, 967, 968, 969, 970, 971, 972, 973, 974, 1021, 1022, 1023] (by decide +kernel) (by decide +kernel)
set_option maxRecDepth 20000 in
theorem gL_law_X7_drop : GoodIn wsL_law (wsV RL 27 RX7 yX7_drop wsX7_drop) := goodIn_app (goodIn_of _ (by decide +kernel)) ggL_law_X7_drop
set_option maxRecDepth 20000 in
theorem ggL_law_X8_drop : GoodIn wsL_law wsX8_drop := goodIn_r _ [209, 136, 88, 103, 89, 137, 138, 5, 139, 140, 141, 142, 173, 174, 175, 176, 143, 144, 145, 146, 147, 148, 149, 150, 151, 152, 975, 976, 977, 978, 979, 980, 981, 982, 983, 984, 985, 986, 987, 988, 989, 990, 991, 992, 993, 994, 995, 996, 997, 998, 999, 1000] (by decide +kernel) (by decide +kernel)
set_option maxRecDepth 20000 in
theorem gL_law_X8_drop : GoodIn wsL_law (wsV RL 31 RX8 yX8_drop wsX8_drop) := goodIn_app (goodIn_of _ (by decide +kernel)) ggL_law_X8_drop
set_option maxRecDepth 20000 in
theorem ggL_law_X7_feed : GoodIn wsL_law wsX7_feed := goodIn_r _ [213, 108, 17, 214, 112, 113, 2, 114, 215, 216, 217, 16, 218, 45, 219, 220, 221, 222, 44, 965, 966, 967, 968, 969, 970, 971, 972, 973, 974, 1001, 1002, 1003, 1004] (by decide +kernel) (by decide +kernel)
set_option maxRecDepth 20000 in
theorem gL_law_X7_feed : GoodIn wsL_law (wsV RL 32 RX7 yX7_feed wsX7_feed) := goodIn_app (goodIn_of _ (by decide +kernel)) ggL_law_X7_feed
set_option maxRecDepth 20000 in
theorem ggL_law_X8_feed : GoodIn wsL_law wsX8_feed := goodIn_r _ [226, 136, 227, 228, 92, 140, 141, 5, 142, 975, 976, 977, 978, 979, 980, 981, 982, 983, 984, 985, 986, 987, 988, 989, 990, 991, 992, 993, 994, 995, 996, 997, 998, 999, 1000] (by decide +kernel) (by decide +kernel)
set_option maxRecDepth 20000 in
theorem gL_law_X8_feed : GoodIn wsL_law (wsV RL 35 RX8 yX8_feed wsX8_feed) := goodIn_app (goodIn_of _ (by decide +kernel)) ggL_law_X8_feed
set_option maxRecDepth 20000 in
theorem ggL_law_X7_rail : GoodIn wsL_law wsX7_rail := goodIn_r _ [232, 17, 22, 233, 234, 21, 27, 235, 236, 237, 238, 16, 239, 45, 44, 240, 241, 242, 243, 244, 245, 246, 247, 20, 248, 51, 52, 249, 250, 251, 252, 253, 254, 255, 256, 257, 258, 259, 260, 261, 262, 263, 264, 265, 266, 267, 268, 269, 270, 271, 272, 273, 274, 46, 47, 275, 276, 277, 278, 53, 54, 55, 56, 279, 280, 281, 282, 283, 284, 285, 286, 287, 187, 188, 189, 288, 289, 290, 26, 291, 62, 965, 966, 967, 968, 969, 970, 971, 972, 973, 974, 1001, 1002, 1003, 1004, 1005, 1006, 1007, 1008, 1009, 1010, 1011, 1012, 1013] (by decide +kernel) (by decide +kernel)
set_option maxRecDepth 20000 in
theorem gL_law_X7_rail : GoodIn wsL_law (wsV RL 36 RX7 yX7_rail wsX7_rail) := goodIn_app (goodIn_of _ (by decide +kernel)) ggL_law_X7_rail
set_option maxRecDepth 20000 in
theorem ggL_law_X8_rail : GoodIn wsL_law wsX8_rail := goodIn_r _ [295, 94, 296, 297, 298, 299, 227, 300, 93, 301, 302, 303, 304, 5, 305, 306, 307, 308, 309, 310, 92, 140, 141, 142, 311, 312, 313, 314, 315, 316, 317, 318, 319, 320, 321, 322, 323, 324, 325, 326, 327, 328, 329, 330, 331, 332, 333, 334, 335, 336, 337, 975, 976, 977, 978, 979, 980, 981, 982, 983, 984, 985, 986, 987, 988, 989, 990, 991, 992, 993, 994, 995, 996, 997, 998, 999, 1000] (by decide +kernel) (by decide +kernel)
set_option maxRecDepth 20000 in
theorem gL_law_X8_rail : GoodIn wsL_law (wsV RL 40 RX8 yX8_rail wsX8_rail) := goodIn_app (goodIn_of _ (by decide +kernel)) ggL_law_X8_rail
set_option maxRecDepth 20000 in
theorem ggL_law_X7_fault : GoodIn wsL_law wsX7_fault := goodIn_r _ [341, 17, 342, 965, 966, 967, 968, 969, 970, 971, 972, 973, 974, 1001, 1002, 1003, 1004] (by decide +kernel) (by decide +kernel)
set_option maxRecDepth 20000 in
theorem gL_law_X7_fault : GoodIn wsL_law (wsV RL 41 RX7 yX7_fault wsX7_fault) := goodIn_app (goodIn_of _ (by decide +kernel)) ggL_law_X7_fault
set_option maxRecDepth 20000 in
theorem ggL_law_X8_fault : GoodIn wsL_law wsX8_fault := goodIn_r _ [346, 326, 975, 976, 977, 978, 979, 980, 981, 982, 983, 984, 985, 986, 987, 988, 989, 990, 991, 992, 993, 994, 995, 996, 997, 998, 999, 1000] (by decide +kernel) (by decide +kernel)
set_option maxRecDepth 20000 in
theorem gL_law_X8_fault : GoodIn wsL_law (wsV RL 44 RX8 yX8_fault wsX8_fault) := goodIn_app (goodIn_of _ (by decide +kernel)) ggL_law_X8_fault
set_option maxRecDepth 20000 in
theorem ggL_law_X7_lay : GoodIn wsL_law wsX7_lay := goodIn_r _ [350, 108, 351, 352, 242, 353, 21, 354, 355, 356, 357, 358, 2, 359, 235, 112, 113, 114, 360, 361, 362, 20, 363, 51, 53, 55, 364, 241, 243, 365, 366, 367, 368, 27, 369, 370, 371, 26, 372, 61, 63, 60, 19, 62, 373, 269, 270, 48, 49, 50, 10, 11, 52, 43, 54, 56, 374, 284, 285, 286, 287, 187, 188, 189, 965, 966, 967, 968, 969, 970, 971, 972, 973, 974, 1005, 1006, 1007, 1008, 1009, 1010, 1011, 1012, 1013] (by decide +kernel) (by decide +kernel)
set_option maxRecDepth 20000 in
theorem gL_law_X7_lay : GoodIn wsL_law (wsV RL 45 RX7 yX7_lay wsX7_lay) := goodIn_app (goodIn_of _ (by decide +kernel)) ggL_law_X7_lay
set_option maxRecDepth 20000 in
theorem ggL_law_X8_lay : GoodIn wsL_law wsX8_lay := goodIn_r _ [378, 136, 93, 379, 380, 381, 382, 5, 383, 140, 141, 142, 384, 385, 386, 387, 388, 389, 390, 391, 392, 393, 301, 96, 335, 336, 337, 975, 976, 977, 978, 979, 980, 981, 982, 983, 984, 985, 986, 987, 988, 989, 990, 991, 992, 993, 994, 995, 996, 997, 998, 999, 1000] (by decide +kernel) (by decide +kernel)
set_option maxRecDepth 20000 in
theorem gL_law_X8_lay : GoodIn wsL_law (wsV RL 49 RX8 yX8_lay wsX8_lay) := goodIn_app (goodIn_of _ (by decide +kernel)) ggL_law_X8_lay
set_option maxRecDepth 20000 in
theorem ggL_law_X7_work : GoodIn wsL_law wsX7_work := goodIn_r _ [397, 21, 354, 27, 398, 399, 400, 401, 20, 402, 51, 369, 370, 371, 26, 372, 61, 63, 60, 19, 62, 373, 269, 242, 270, 48, 49, 50, 10, 11, 52, 43, 53, 54, 55, 56, 374, 284, 285, 286, 287, 187, 188, 189, 403, 404, 405, 406, 407, 352, 353, 408, 409, 410, 411, 412, 364, 241, 243, 413, 414, 415, 416, 417, 418, 419, 420, 421, 422, 423, 424, 425, 426, 427, 428, 429, 430, 431, 432, 433, 125, 126, 127, 965, 966, 967, 968, 969, 970, 971, 972, 973, 974, 1005, 1006, 1007, 1008, 1009, 1010, 1011, 1012, 1013] (by decide +kernel) (by decide +kernel)
set_option maxRecDepth 20000 in
theorem gL_law_X7_work : GoodIn wsL_law (wsV RL 50 RX7 yX7_work wsX7_work) := goodIn_app (goodIn_of _ (by decide +kernel)) ggL_law_X7_work
set_option maxRecDepth 20000 in
theorem ggL_law_X8_work : GoodIn wsL_law wsX8_work := goodIn_r _ [437, 379, 93, 438, 439, 440, 5, 441, 390, 391, 392, 393, 301, 96, 335, 336, 337, 442, 443, 444, 384, 385, 386, 445, 446, 447, 448, 449, 450, 451, 452, 453, 140, 141, 142, 975, 976, 977, 978, 979, 980, 981, 982, 983, 984, 985, 986, 987, 988, 989, 990, 991, 992, 993, 994, 995, 996, 997, 998, 999, 1000] (by decide +kernel) (by decide +kernel)
set_option maxRecDepth 20000 in
theorem gL_law_X8_work : GoodIn wsL_law (wsV RL 53 RX8 yX8_work wsX8_work) := goodIn_app (goodIn_of _ (by decide +kernel)) ggL_law_X8_work
set_option maxRecDepth 20000 in
theorem ggL_law_X7_gang : GoodIn wsL_law wsX7_gang := goodIn_r _ [457, 108, 21, 235, 458, 269, 242, 270, 356, 357, 358, 2, 359, 112, 113, 114, 459, 460, 461, 20, 462, 56, 364, 241, 243, 463, 464, 361, 362, 363, 51, 53, 55, 465, 466, 467, 468, 407, 352, 353, 469, 470, 471, 472, 425, 426, 427, 428, 54, 417, 418, 419, 420, 365, 366, 367, 368, 27, 355, 369, 370, 371, 26, 372, 61, 63, 60, 19, 62, 373, 48, 49, 50, 10, 11, 52, 43, 374, 284, 285, 286, 287, 187, 188, 189, 473, 474, 475, 476, 965, 966, 967, 968, 969, 970, 971, 972, 973, 974, 1005, 1006, 1007, 1008, 1009, 1010, 1011, 1012, 1013] (by decide +kernel) (by decide +kernel)
set_option maxRecDepth 20000 in
theorem gL_law_X7_gang : GoodIn wsL_law (wsV RL 54 RX7 yX7_gang wsX7_gang) := goodIn_app (goodIn_of _ (by decide +kernel)) ggL_law_X7_gang
set_option maxRecDepth 20000 in
theorem ggL_law_X8_gang : GoodIn wsL_law wsX8_gang := goodIn_r _ [480, 136, 93, 380, 381, 382, 5, 383, 140, 141, 142, 481, 482, 483, 484, 485, 95, 335, 336, 337, 387, 388, 389, 486, 487, 488, 489, 490, 491, 492, 493, 494, 451, 452, 453, 384, 385, 386, 390, 391, 392, 393, 301, 96, 495, 496, 497, 975, 976, 977, 978, 979, 980, 981, 982, 983, 984, 985, 986, 987, 988, 989, 990, 991, 992, 993, 994, 995, 996, 997, 998, 999, 1000] (by decide +kernel) (by decide +kernel)
set_option maxRecDepth 20000 in
theorem gL_law_X8_gang : GoodIn wsL_law (wsV RL 57 RX8 yX8_gang wsX8_gang) := goodIn_app (goodIn_of _ (by decide +kernel)) ggL_law_X8_gang
set_option maxRecDepth 20000 in
theorem ggL_law_X7_read : GoodIn wsL_law wsX7_read := goodIn_r _ [501, 108, 27, 21, 502, 356, 357, 358, 2, 359, 235, 112, 113, 114, 369, 370, 371, 26, 372, 61, 63, 60, 19, 20, 62, 373, 269, 242, 270, 48, 49, 50, 10, 11, 51, 52, 43, 53, 54, 55, 56, 374, 284, 285, 286, 287, 187, 188, 189, 965, 966, 967, 968, 969, 970, 971, 972, 973, 974, 1005, 1006, 1007, 1008, 1009, 1010, 1011, 1012, 1013] (by decide +kernel) (by decide +kernel)
set_option maxRecDepth 20000 in
theorem gL_law_X7_read : GoodIn wsL_law (wsV RL 58 RX7 yX7_read wsX7_read) := goodIn_app (goodIn_of _ (by decide +kernel)) ggL_law_X7_read
set_option maxRecDepth 20000 in
theorem ggL_law_X8_read : GoodIn wsL_law wsX8_read := goodIn_r _ [506, 136, 93, 380, 381, 382, 5, 383, 140, 141, 142, 390, 391, 392, 393, 301, 96, 335, 336, 337, 975, 976, 977, 978, 979, 980, 981, 982, 983, 984, 985, 986, 987, 988, 989, 990, 991, 992, 993, 994, 995, 996, 997, 998, 999, 1000] (by decide +kernel) (by decide +kernel)
set_option maxRecDepth 20000 in
theorem gL_law_X8_read : GoodIn wsL_law (wsV RL 61 RX8 yX8_read wsX8_read) := goodIn_app (goodIn_of _ (by decide +kernel)) ggL_law_X8_read
set_option maxRecDepth 20000 in
theorem ggL_law_X7_bound : GoodIn wsL_law wsX7_bound := goodIn_r _ [510, 108, 27, 21, 511, 355, 458, 269, 242, 270, 512, 241, 243, 356, 357, 358, 2, 359, 235, 112, 113, 114, 369, 370, 371, 26, 372, 61, 63, 60, 19, 20, 62, 373, 48, 49, 50, 10, 11, 51, 52, 43, 53, 54, 55, 56, 374, 284, 285, 286, 287, 187, 188, 189, 360, 361, 362, 363, 364, 965, 966, 967, 968, 969, 970, 971, 972, 973, 974, 1005, 1006, 1007, 1008, 1009, 1010, 1011, 1012, 1013] (by decide +kernel) (by decide +kernel)
set_option maxRecDepth 20000 in
theorem gL_law_X7_bound : GoodIn wsL_law (wsV RL 62 RX7 yX7_bound wsX7_bound) := goodIn_app (goodIn_of _ (by decide +kernel)) ggL_law_X7_bound
set_option maxRecDepth 20000 in
theorem ggL_law_X8_bound : GoodIn wsL_law wsX8_bound := goodIn_r _ [516, 136, 93, 380, 381, 382, 5, 383, 140, 141, 142, 390, 391, 392, 393, 301, 96, 335, 336, 337, 387, 388, 389, 975, 976, 977, 978, 979, 980, 981, 982, 983, 984, 985, 986, 987, 988, 989, 990, 991, 992, 993, 994, 995, 996, 997, 998, 999, 1000] (by decide +kernel) (by decide +kernel)
set_option maxRecDepth 20000 in
theorem gL_law_X8_bound : GoodIn wsL_law (wsV RL 65 RX8 yX8_bound wsX8_bound) := goodIn_app (goodIn_of _ (by decide +kernel)) ggL_law_X8_bound
set_option maxRecDepth 20000 in
theorem ggL_law_X7_undo : GoodIn wsL_law wsX7_undo := goodIn_r _ [520, 27, 521, 354, 21, 522, 523, 524, 26, 525, 63, 62, 61, 374, 284, 285, 20, 286, 51, 52, 53, 287, 187, 188, 189, 54, 55, 56, 965, 966, 967, 968, 969, 970, 971, 972, 973, 974, 1011, 1012, 1013, 1005, 1006, 1007, 1008, 1009, 1010] (by decide +kernel) (by decide +kernel)
set_option maxRecDepth 20000 in
theorem gL_law_X7_undo : GoodIn wsL_law (wsV RL 66 RX7 yX7_undo wsX7_undo) := goodIn_app (goodIn_of _ (by decide +kernel)) ggL_law_X7_undo
set_option maxRecDepth 20000 in
theorem ggL_law_X8_undo : GoodIn wsL_law wsX8_undo := goodIn_r _ [529, 301, 379, 96, 93, 335, 336, 5, 337, 975, 976, 977, 978, 979, 980, 981, 982, 983, 984, 985, 986, 987, 988, 989, 990, 991, 992, 993, 994, 995, 996, 997, 998, 999, 1000] (by decide +kernel) (by decide +kernel)
set_option maxRecDepth 20000 in
theorem gL_law_X8_undo : GoodIn wsL_law (wsV RL 69 RX8 yX8_undo wsX8_undo) := goodIn_app (goodIn_of _ (by decide +kernel)) ggL_law_X8_undo
set_option maxRecDepth 20000 in
theorem ggL_law_X7_peg : GoodIn wsL_law wsX7_peg := goodIn_r _ [533, 108, 21, 502, 511, 355, 235, 534, 356, 357, 358, 2, 359, 112, 113, 114, 360, 361, 362, 20, 363, 51, 53, 55, 364, 241, 242, 243, 535, 426, 427, 428, 54, 56, 417, 418, 419, 420, 536, 466, 467, 468, 407, 352, 353, 469, 470, 471, 472, 425, 537, 538, 539, 540, 541, 542, 543, 544, 545, 965, 966, 967, 968, 969, 970, 971, 972, 973, 974, 1005, 1006, 1007, 1008, 1009, 1010] (by decide +kernel) (by decide +kernel)
set_option maxRecDepth 20000 in
theorem gL_law_X7_peg : GoodIn wsL_law (wsV RL 70 RX7 yX7_peg wsX7_peg) := goodIn_app (goodIn_of _ (by decide +kernel)) ggL_law_X7_peg
set_option maxRecDepth 20000 in
theorem ggL_law_X8_peg : GoodIn wsL_law wsX8_peg := goodIn_r _ [549, 136, 93, 103, 380, 381, 382, 5, 383, 140, 141, 142, 387, 388, 389, 492, 493, 494, 451, 452, 453, 486, 487, 488, 489, 490, 491, 384, 385, 386, 550, 551, 552, 553, 554, 555, 556, 557, 975, 976, 977, 978, 979, 980, 981, 982, 983, 984, 985, 986, 987, 988, 989, 990, 991, 992, 993, 994, 995, 996, 997, 998, 999, 1000] (by decide +kernel) (by decide +kernel)
set_option maxRecDepth 20000 in
theorem gL_law_X8_peg : GoodIn wsL_law (wsV RL 73 RX8 yX8_peg wsX8_peg) := goodIn_app (goodIn_of _ (by decide +kernel)) ggL_law_X8_peg
set_option maxRecDepth 20000 in
theorem ggL_law_X7_line : GoodIn wsL_law wsX7_line := goodIn_r _ [561, 21, 354, 108, 399, 400, 401, 20, 402, 51, 473, 474, 475, 476, 364, 241, 242, 243, 465, 466, 467, 468, 407, 352, 353, 469, 470, 471, 472, 53, 425, 426, 427, 428, 54, 56, 417, 418, 419, 420, 562, 563, 564, 565, 566, 567, 568, 569, 570, 571, 572, 573, 574, 575, 576, 577, 545, 538, 539, 540, 578, 542, 543, 544, 965, 966, 967, 968, 969, 970, 971, 972, 973, 974, 1005, 1006, 1007, 1008, 1009, 1010] (by decide +kernel) (by decide +kernel)
set_option maxRecDepth 20000 in
theorem gL_law_X7_line : GoodIn wsL_law (wsV RL 74 RX7 yX7_line wsX7_line) := goodIn_app (goodIn_of _ (by decide +kernel)) ggL_law_X7_line
set_option maxRecDepth 20000 in
theorem ggL_law_X8_line : GoodIn wsL_law wsX8_line := goodIn_r _ [582, 379, 93, 136, 438, 439, 440, 5, 441, 492, 493, 494, 451, 452, 453, 140, 141, 142, 495, 496, 497, 486, 487, 488, 489, 490, 491, 384, 385, 386, 583, 584, 585, 586, 587, 588, 589, 550, 551, 552, 553, 554, 555, 556, 557, 975, 976, 977, 978, 979, 980, 981, 982, 983, 984, 985, 986, 987, 988, 989, 990, 991, 992, 993, 994, 995, 996, 997, 998, 999, 1000] (by decide +kernel) (by decide +kernel)
set_option maxRecDepth 20000 in
theorem gL_law_X8_line : GoodIn wsL_law (wsV RL 77 RX8 yX8_line wsX8_line) := goodIn_app (goodIn_of _ (by decide +kernel)) ggL_law_X8_line
set_option maxRecDepth 20000 in
theorem ggL_law_X7_best : GoodIn wsL_law wsX7_best := goodIn_r _ [593, 21, 354, 235, 108, 36, 594, 595, 596, 597, 598, 599, 600, 399, 400, 401, 20, 402, 51, 112, 113, 2, 114, 601, 602, 603, 10, 11, 604, 19, 605, 43, 606, 607, 608, 609, 610, 611, 48, 49, 50, 52, 53, 54, 55, 56, 612, 613, 614, 615, 616, 617, 618, 619, 620, 284, 285, 286, 287, 187, 188, 189, 621, 622, 623, 624, 625, 626, 361, 362, 363, 364, 241, 242, 243, 627, 628, 629, 630, 631, 632, 633, 634, 635, 636, 637, 638, 639, 352, 353, 640, 470, 471, 472, 641, 642, 643, 644, 645, 646, 647, 648, 649, 650, 651, 652, 653, 654, 269, 270, 655, 656, 657, 658, 659, 660, 661, 662, 663, 664, 665, 666, 667, 668, 669, 670, 965, 966, 967, 968, 969, 970, 971, 972, 973, 974, 1005, 1006, 1007, 1008, 1009, 1010, 1024, 1025, 1026, 1027, 1028, 1029, 1030] (by decide +kernel) (by decide +kernel)
set_option maxRecDepth 20000 in
theorem gL_law_X7_best : GoodIn wsL_law (wsV RL 78 RX7 yX7_best wsX7_best) := goodIn_app (goodIn_of _ (by decide +kernel)) ggL_law_X7_best
set_option maxRecDepth 20000 in
theorem ggL_law_X8_best : GoodIn wsL_law wsX8_best := goodIn_r _ [674, 379, 93, 136, 101, 675, 676, 438, 439, 440, 5, 441, 140, 141, 142, 677, 678, 679, 680, 485, 100, 681, 682, 683, 684, 685, 686, 687, 688, 387, 388, 389, 689, 690, 691, 692, 693, 694, 695, 696, 489, 490, 491, 384, 385, 386, 697, 698, 699, 975, 976, 977, 978, 979, 980, 981, 982, 983, 984, 985, 986, 987, 988, 989, 990, 991, 992, 993, 994, 995, 996, 997, 998, 999, 1000] (by decide +kernel) (by decide +kernel)
set_option maxRecDepth 20000 in
theorem gL_law_X8_best : GoodIn wsL_law (wsV RL 81 RX8 yX8_best wsX8_best) := goodIn_app (goodIn_of _ (by decide +kernel)) ggL_law_X8_best
set_option maxRecDepth 20000 in
theorem ggL_law_X7_wrong : GoodIn wsL_law wsX7_wrong := goodIn_r _ [703, 21, 354, 108, 22, 534, 399, 400, 401, 20, 402, 51, 112, 113, 2, 114, 283, 284, 285, 286, 52, 53, 287, 187, 188, 189, 54, 55, 56, 704, 430, 431, 432, 433, 125, 126, 127, 705, 706, 707, 708, 465, 466, 467, 468, 407, 352, 242, 353, 469, 470, 471, 472, 425, 426, 427, 428, 417, 418, 419, 420, 965, 966, 967, 968, 969, 970, 971, 972, 973, 974, 1005, 1006, 1007, 1008, 1009, 1010] (by decide +kernel) (by decide +kernel)
set_option maxRecDepth 20000 in
theorem gL_law_X7_wrong : GoodIn wsL_law (wsV RL 82 RX7 yX7_wrong wsX7_wrong) := goodIn_app (goodIn_of _ (by decide +kernel)) ggL_law_X7_wrong
set_option maxRecDepth 20000 in
theorem ggL_law_X8_wrong : GoodIn wsL_law wsX8_wrong := goodIn_r _ [712, 379, 136, 93, 95, 103, 438, 439, 440, 5, 441, 140, 141, 142, 335, 336, 337, 583, 584, 585, 486, 487, 488, 489, 490, 491, 492, 493, 494, 451, 452, 453, 384, 385, 386, 975, 976, 977, 978, 979, 980, 981, 982, 983, 984, 985, 986, 987, 988, 989, 990, 991, 992, 993, 994, 995, 996, 997, 998, 999, 1000] (by decide +kernel) (by decide +kernel)
set_option maxRecDepth 20000 in
theorem gL_law_X8_wrong : GoodIn wsL_law (wsV RL 85 RX8 yX8_wrong wsX8_wrong) := goodIn_app (goodIn_of _ (by decide +kernel)) ggL_law_X8_wrong
set_option maxRecDepth 20000 in
theorem ggL_law_X7_moment : GoodIn wsL_law wsX7_moment := goodIn_r _ [716, 21, 354, 235, 399, 400, 401, 20, 402, 51, 535, 426, 427, 428, 54, 56, 417, 418, 419, 420, 717, 718, 2, 719, 720, 721, 115, 116, 117, 118, 37, 119, 128, 129, 130, 131, 965, 966, 967, 968, 969, 970, 971, 972, 973, 974, 1005, 1006, 1007, 1008, 1009, 1010] (by decide +kernel) (by decide +kernel)
set_option maxRecDepth 20000 in
theorem gL_law_X7_moment : GoodIn wsL_law (wsV RL 86 RX7 yX7_moment wsX7_moment) := goodIn_app (goodIn_of _ (by decide +kernel)) ggL_law_X7_moment
set_option maxRecDepth 20000 in
theorem ggL_law_X8_moment : GoodIn wsL_law wsX8_moment := goodIn_r _ [725, 379, 93, 438, 439, 440, 5, 441, 492, 493, 494, 451, 452, 453, 140, 141, 142, 726, 727, 728, 729, 730, 143, 144, 145, 146, 147, 148, 149, 150, 151, 152, 975, 976, 977, 978, 979, 980, 981, 982, 983, 984, 985, 986, 987, 988, 989, 990, 991, 992, 993, 994, 995, 996, 997, 998, 999, 1000] (by decide +kernel) (by decide +kernel)
set_option maxRecDepth 20000 in
theorem gL_law_X8_moment : GoodIn wsL_law (wsV RL 89 RX8 yX8_moment wsX8_moment) := goodIn_app (goodIn_of _ (by decide +kernel)) ggL_law_X8_moment
set_option maxRecDepth 20000 in
theorem ggL_law_X7_fits : GoodIn wsL_law wsX7_fits := goodIn_r _ [734, 21, 235, 108, 13, 22, 356, 357, 358, 2, 359, 112, 113, 114, 109, 110, 111, 157, 158, 159, 39, 160, 81, 115, 116, 117, 118, 37, 119, 161, 162, 163, 164, 82, 283, 284, 285, 20, 286, 51, 52, 53, 287, 187, 188, 189, 54, 55, 56, 735, 736, 737, 738, 355, 360, 361, 362, 363, 364, 241, 242, 243, 739, 740, 741, 742, 83, 743, 426, 427, 428, 417, 418, 419, 420, 128, 129, 130, 131, 744, 745, 746, 747, 502, 748, 749, 750, 751, 534, 965, 966, 967, 968, 969, 970, 971, 972, 973, 974, 1005, 1006, 1007, 1008, 1009, 1010, 1021, 1022, 1023] (by decide +kernel) (by decide +kernel)
set_option maxRecDepth 20000 in
theorem gL_law_X7_fits : GoodIn wsL_law (wsV RL 90 RX7 yX7_fits wsX7_fits) := goodIn_app (goodIn_of _ (by decide +kernel)) ggL_law_X7_fits
set_option maxRecDepth 20000 in
theorem ggL_law_X8_fits : GoodIn wsL_law wsX8_fits := goodIn_r _ [755, 93, 136, 95, 103, 380, 381, 382, 5, 383, 140, 141, 142, 137, 138, 139, 173, 174, 175, 176, 88, 143, 144, 145, 146, 147, 148, 194, 195, 196, 197, 89, 335, 336, 337, 387, 388, 389, 756, 757, 758, 759, 90, 492, 493, 494, 451, 452, 453, 149, 150, 151, 152, 975, 976, 977, 978, 979, 980, 981, 982, 983, 984, 985, 986, 987, 988, 989, 990, 991, 992, 993, 994, 995, 996, 997, 998, 999, 1000] (by decide +kernel) (by decide +kernel)
set_option maxRecDepth 20000 in
theorem gL_law_X8_fits : GoodIn wsL_law (wsV RL 94 RX8 yX8_fits wsX8_fits) := goodIn_app (goodIn_of _ (by decide +kernel)) ggL_law_X8_fits
set_option maxRecDepth 20000 in
theorem ggL_law_X7_tell : GoodIn wsL_law wsX7_tell := goodIn_r _ [763, 108, 13, 764, 21, 235, 458, 269, 242, 270, 356, 357, 358, 2, 359, 112, 113, 114, 109, 110, 111, 157, 158, 159, 39, 160, 81, 115, 116, 117, 118, 37, 119, 161, 162, 163, 164, 82, 535, 426, 427, 20, 428, 54, 56, 417, 418, 419, 420, 51, 165, 166, 167, 168, 83, 128, 129, 130, 131, 965, 966, 967, 968, 969, 970, 971, 972, 973, 974, 1021, 1022, 1023, 1005, 1006, 1007, 1008, 1009, 1010] (by decide +kernel) (by decide +kernel)
set_option maxRecDepth 20000 in
theorem gL_law_X7_tell : GoodIn wsL_law (wsV RL 95 RX7 yX7_tell wsX7_tell) := goodIn_app (goodIn_of _ (by decide +kernel)) ggL_law_X7_tell
set_option maxRecDepth 20000 in
theorem ggL_law_X8_tell : GoodIn wsL_law wsX8_tell := goodIn_r _ [768, 136, 89, 93, 90, 88, 380, 381, 382, 5, 383, 140, 141, 142, 137, 138, 139, 173, 174, 175, 176, 103, 143, 144, 145, 146, 147, 148, 492, 493, 494, 451, 452, 453, 177, 178, 179, 149, 150, 151, 152, 975, 976, 977, 978, 979, 980, 981, 982, 983, 984, 985, 986, 987, 988, 989, 990, 991, 992, 993, 994, 995, 996, 997, 998, 999, 1000] (by decide +kernel) (by decide +kernel)
set_option maxRecDepth 20000 in
theorem gL_law_X8_tell : GoodIn wsL_law (wsV RL 98 RX8 yX8_tell wsX8_tell) := goodIn_app (goodIn_of _ (by decide +kernel)) ggL_law_X8_tell
set_option maxRecDepth 20000 in
theorem ggL_law_X7_chance : GoodIn wsL_law wsX7_chance := goodIn_r _ [772, 21, 773, 774, 35, 775, 776, 399, 400, 401, 20, 402, 51, 112, 113, 2, 114, 777, 778, 779, 34, 780, 77, 781, 72, 75, 73, 782, 783, 784, 785, 786, 787, 788, 126, 789, 790, 791, 792, 793, 794, 795, 796, 797, 414, 415, 416, 417, 418, 419, 420, 56, 421, 422, 423, 424, 53, 798, 799, 800, 801, 802, 76, 803, 804, 805, 806, 807, 352, 242, 353, 808, 470, 471, 472, 809, 810, 811, 812, 813, 814, 965, 966, 967, 968, 969, 970, 971, 972, 973, 974, 1016, 1017, 1018, 1019, 1020, 1005, 1006, 1007, 1008, 1009, 1010] (by decide +kernel) (by decide +kernel)
set_option maxRecDepth 20000 in
theorem gL_law_X7_chance : GoodIn wsL_law (wsV RL 99 RX7 yX7_chance wsX7_chance) := goodIn_app (goodIn_of _ (by decide +kernel)) ggL_law_X7_chance
set_option maxRecDepth 20000 in
theorem ggL_law_X8_chance : GoodIn wsL_law wsX8_chance := goodIn_r _ [818, 819, 820, 93, 821, 95, 438, 439, 440, 5, 441, 140, 141, 142, 335, 336, 337, 448, 449, 450, 495, 496, 497, 486, 487, 488, 489, 490, 491, 492, 493, 494, 451, 452, 453, 384, 385, 386, 975, 976, 977, 978, 979, 980, 981, 982, 983, 984, 985, 986, 987, 988, 989, 990, 991, 992, 993, 994, 995, 996, 997, 998, 999, 1000] (by decide +kernel) (by decide +kernel)
set_option maxRecDepth 20000 in
theorem gL_law_X8_chance : GoodIn wsL_law (wsV RL 103 RX8 yX8_chance wsX8_chance) := goodIn_app (goodIn_of _ (by decide +kernel)) ggL_law_X8_chance
set_option maxRecDepth 20000 in
theorem ggL_law_X7_drawn : GoodIn wsL_law wsX7_drawn := goodIn_r _ [825, 21, 354, 826, 108, 22, 399, 400, 401, 20, 402, 51, 112, 113, 2, 114, 283, 284, 285, 286, 52, 53, 287, 187, 188, 189, 54, 55, 56, 827, 828, 829, 830, 831, 832, 833, 407, 352, 242, 353, 464, 361, 362, 363, 364, 241, 243, 834, 409, 410, 411, 412, 269, 270, 413, 414, 415, 416, 417, 418, 419, 420, 421, 422, 423, 424, 425, 426, 427, 428, 429, 430, 431, 432, 433, 125, 126, 127, 473, 474, 475, 476, 465, 466, 467, 468, 469, 470, 471, 472, 965, 966, 967, 968, 969, 970, 971, 972, 973, 974, 1005, 1006, 1007, 1008, 1009, 1010] (by decide +kernel) (by decide +kernel)
set_option maxRecDepth 20000 in
theorem gL_law_X7_drawn : GoodIn wsL_law (wsV RL 104 RX7 yX7_drawn wsX7_drawn) := goodIn_app (goodIn_of _ (by decide +kernel)) ggL_law_X7_drawn
set_option maxRecDepth 20000 in
theorem ggL_law_X8_drawn : GoodIn wsL_law wsX8_drawn := goodIn_r _ [838, 379, 839, 136, 93, 95, 840, 730, 841, 438, 439, 440, 5, 441, 140, 141, 142, 335, 336, 337, 384, 385, 386, 387, 388, 389, 445, 446, 447, 448, 449, 450, 451, 452, 453, 495, 496, 497, 486, 487, 488, 489, 490, 491, 492, 493, 494, 975, 976, 977, 978, 979, 980, 981, 982, 983, 984, 985, 986, 987, 988, 989, 990, 991, 992, 993, 994, 995, 996, 997, 998, 999, 1000] (by decide +kernel) (by decide +kernel)
set_option maxRecDepth 20000 in
theorem gL_law_X8_drawn : GoodIn wsL_law (wsV RL 107 RX8 yX8_drawn wsX8_drawn) := goodIn_app (goodIn_of _ (by decide +kernel)) ggL_law_X8_drawn
set_option maxRecDepth 20000 in
theorem ggL_law_X7_image : GoodIn wsL_law wsX7_image := goodIn_r _ [845, 108, 21, 354, 23, 112, 113, 2, 114, 399, 400, 401, 20, 402, 51, 283, 284, 285, 286, 52, 53, 287, 187, 188, 189, 54, 55, 56, 965, 966, 967, 968, 969, 970, 971, 972, 973, 974, 1005, 1006, 1007, 1008, 1009, 1010] (by decide +kernel) (by decide +kernel)
set_option maxRecDepth 20000 in
theorem gL_law_X7_image : GoodIn wsL_law (wsV RL 108 RX7 yX7_image wsX7_image) := goodIn_app (goodIn_of _ (by decide +kernel)) ggL_law_X7_image
set_option maxRecDepth 20000 in
theorem ggL_law_X8_image : GoodIn wsL_law wsX8_image := goodIn_r _ [849, 136, 379, 93, 97, 99, 140, 141, 5, 142, 438, 439, 440, 441, 335, 336, 337, 975, 976, 977, 978, 979, 980, 981, 982, 983, 984, 985, 986, 987, 988, 989, 990, 991, 992, 993, 994, 995, 996, 997, 998, 999, 1000] (by decide +kernel) (by decide +kernel)
set_option maxRecDepth 20000 in
theorem gL_law_X8_image : GoodIn wsL_law (wsV RL 111 RX8 yX8_image wsX8_image) := goodIn_app (goodIn_of _ (by decide +kernel)) ggL_law_X8_image
set_option maxRecDepth 20000 in
theorem ggL_law_X7_restore : GoodIn wsL_law wsX7_restore := goodIn_r _ [853, 108, 23, 354, 21, 27, 112, 113, 2, 114, 399, 400, 401, 20, 402, 51, 283, 284, 285, 286, 52, 53, 287, 187, 188, 189, 54, 55, 56, 288, 289, 290, 26, 291, 62, 965, 966, 967, 968, 969, 970, 971, 972, 973, 974, 1005, 1006, 1007, 1008, 1009, 1010, 1011, 1012, 1013] (by decide +kernel) (by decide +kernel)
set_option maxRecDepth 20000 in
theorem gL_law_X7_restore : GoodIn wsL_law (wsV RL 112 RX7 yX7_restore wsX7_restore) := goodIn_app (goodIn_of _ (by decide +kernel)) ggL_law_X7_restore
set_option maxRecDepth 20000 in
theorem ggL_law_X8_restore : GoodIn wsL_law wsX8_restore := goodIn_r _ [857, 136, 99, 379, 97, 93, 301, 140, 141, 5, 142, 335, 336, 337, 975, 976, 977, 978, 979, 980, 981, 982, 983, 984, 985, 986, 987, 988, 989, 990, 991, 992, 993, 994, 995, 996, 997, 998, 999, 1000] (by decide +kernel) (by decide +kernel)
set_option maxRecDepth 20000 in
theorem gL_law_X8_restore : GoodIn wsL_law (wsV RL 115 RX8 yX8_restore wsX8_restore) := goodIn_app (goodIn_of _ (by decide +kernel)) ggL_law_X8_restore
set_option maxRecDepth 20000 in
theorem ggL_law_X7_kind : GoodIn wsL_law wsX7_kind := goodIn_r _ [861, 21, 862, 108, 356, 357, 358, 2, 359, 235, 112, 113, 114, 965, 966, 967, 968, 969, 970, 971, 972, 973, 974, 1005, 1006, 1007, 1008, 1009, 1010] (by decide +kernel) (by decide +kernel)
set_option maxRecDepth 20000 in
theorem gL_law_X7_kind : GoodIn wsL_law (wsV RL 116 RX7 yX7_kind wsX7_kind) := goodIn_app (goodIn_of _ (by decide +kernel)) ggL_law_X7_kind
set_option maxRecDepth 20000 in
theorem ggL_law_X8_kind : GoodIn wsL_law wsX8_kind := goodIn_r _ [866, 136, 380, 381, 382, 5, 383, 93, 140, 141, 142, 867, 868, 869, 870, 975, 976, 977, 978, 979, 980, 981, 982, 983, 984, 985, 986, 987, 988, 989, 990, 991, 992, 993, 994, 995, 996, 997, 998, 999, 1000] (by decide +kernel) (by decide +kernel)
set_option maxRecDepth 20000 in
theorem gL_law_X8_kind : GoodIn wsL_law (wsV RL 119 RX8 yX8_kind wsX8_kind) := goodIn_app (goodIn_of _ (by decide +kernel)) ggL_law_X8_kind
set_option maxRecDepth 20000 in
theorem ggL_law_X7_as : GoodIn wsL_law wsX7_as := goodIn_r _ [874, 108, 21, 862, 875, 356, 357, 358, 2, 359, 235, 112, 113, 114, 128, 129, 130, 131, 37, 115, 116, 117, 118, 119, 965, 966, 967, 968, 969, 970, 971, 972, 973, 974, 1005, 1006, 1007, 1008, 1009, 1010] (by decide +kernel) (by decide +kernel)
set_option maxRecDepth 20000 in
theorem gL_law_X7_as : GoodIn wsL_law (wsV RL 120 RX7 yX7_as wsX7_as) := goodIn_app (goodIn_of _ (by decide +kernel)) ggL_law_X7_as
set_option maxRecDepth 20000 in
theorem ggL_law_X8_as : GoodIn wsL_law wsX8_as := goodIn_r _ [879, 136, 380, 381, 382, 5, 383, 93, 140, 141, 142, 867, 868, 869, 870, 149, 150, 151, 152, 147, 143, 144, 145, 146, 148, 975, 976, 977, 978, 979, 980, 981, 982, 983, 984, 985, 986, 987, 988, 989, 990, 991, 992, 993, 994, 995, 996, 997, 998, 999, 1000] (by decide +kernel) (by decide +kernel)
set_option maxRecDepth 20000 in
theorem gL_law_X8_as : GoodIn wsL_law (wsV RL 123 RX8 yX8_as wsX8_as) := goodIn_app (goodIn_of _ (by decide +kernel)) ggL_law_X8_as
set_option maxRecDepth 20000 in
theorem ggL_law_X7_ask : GoodIn wsL_law wsX7_ask := goodIn_r _ [883, 108, 31, 21, 356, 357, 358, 2, 359, 235, 112, 113, 114, 884, 885, 886, 30, 887, 68, 888, 889, 890, 891, 892, 893, 894, 895, 896, 897, 898, 899, 900, 901, 902, 903, 67, 904, 426, 427, 20, 428, 54, 56, 417, 418, 419, 420, 51, 965, 966, 967, 968, 969, 970, 971, 972, 973, 974, 1005, 1006, 1007, 1008, 1009, 1010, 1014, 1015] (by decide +kernel) (by decide +kernel)
set_option maxRecDepth 20000 in
theorem gL_law_X7_ask : GoodIn wsL_law (wsV RL 124 RX7 yX7_ask wsX7_ask) := goodIn_app (goodIn_of _ (by decide +kernel)) ggL_law_X7_ask
set_option maxRecDepth 20000 in
theorem ggL_law_X8_ask : GoodIn wsL_law wsX8_ask := goodIn_r _ [908, 136, 909, 380, 381, 382, 5, 383, 93, 140, 141, 142, 867, 868, 869, 870, 910, 911, 912, 913, 914, 915, 916, 917, 102, 492, 493, 494, 451, 452, 453, 918, 919, 920, 921, 922, 923, 924, 925, 926, 927, 928, 929, 975, 976, 977, 978, 979, 980, 981, 982, 983, 984, 985, 986, 987, 988, 989, 990, 991, 992, 993, 994, 995, 996, 997, 998, 999, 1000] (by decide +kernel) (by decide +kernel)
set_option maxRecDepth 20000 in
theorem gL_law_X8_ask : GoodIn wsL_law (wsV RL 127 RX8 yX8_ask wsX8_ask) := goodIn_app (goodIn_of _ (by decide +kernel)) ggL_law_X8_ask
set_option maxRecDepth 20000 in
theorem ggL_law_X7_trace : GoodIn wsL_law wsX7_trace := goodIn_r _ [933, 31, 934, 935, 534, 112, 113, 2, 114, 965, 966, 967, 968, 969, 970, 971, 972, 973, 974, 1014, 1015] (by decide +kernel) (by decide +kernel)
set_option maxRecDepth 20000 in
theorem gL_law_X7_trace : GoodIn wsL_law (wsV RL 128 RX7 yX7_trace wsX7_trace) := goodIn_app (goodIn_of _ (by decide +kernel)) ggL_law_X7_trace
set_option maxRecDepth 20000 in
theorem ggL_law_X8_trace : GoodIn wsL_law wsX8_trace := goodIn_r _ [939, 909, 102, 103, 140, 141, 5, 142, 975, 976, 977, 978, 979, 980, 981, 982, 983, 984, 985, 986, 987, 988, 989, 990, 991, 992, 993, 994, 995, 996, 997, 998, 999, 1000] (by decide +kernel) (by decide +kernel)
set_option maxRecDepth 20000 in
theorem gL_law_X8_trace : GoodIn wsL_law (wsV RL 131 RX8 yX8_trace wsX8_trace) := goodIn_app (goodIn_of _ (by decide +kernel)) ggL_law_X8_trace
set_option maxRecDepth 20000 in
theorem ggL_law_X7_count : GoodIn wsL_law wsX7_count := goodIn_r _ [943, 21, 235, 398, 27, 521, 17, 944, 108, 945, 946, 947, 2, 948, 13, 157, 158, 159, 39, 160, 81, 949, 950, 951, 20, 952, 51, 56, 965, 966, 967, 968, 969, 970, 971, 972, 973, 974, 1005, 1006, 1007, 1008, 1009, 1010, 1011, 1012, 1013, 1001, 1002, 1003, 1004, 1021, 1022, 1023] (by decide +kernel) (by decide +kernel)
set_option maxRecDepth 20000 in
theorem gL_law_X7_count : GoodIn wsL_law (wsV RL 132 RX7 yX7_count wsX7_count) := goodIn_app (goodIn_of _ (by decide +kernel)) ggL_law_X7_count
set_option maxRecDepth 20000 in
theorem ggL_law_X8_count : GoodIn wsL_law wsX8_count := goodIn_r _ [956, 93, 301, 227, 136, 173, 174, 175, 5, 176, 88, 103, 975, 976, 977, 978, 979, 980, 981, 982, 983, 984, 985, 986, 987, 988, 989, 990, 991, 992, 993, 994, 995, 996, 997, 998, 999, 1000] (by decide +kernel) (by decide +kernel)
set_option maxRecDepth 20000 in
theorem gL_law_X8_count : GoodIn wsL_law (wsV RL 135 RX8 yX8_count wsX8_count) := goodIn_app (goodIn_of _ (by decide +kernel)) ggL_law_X8_count
set_option maxRecDepth 20000 in
theorem ggL_law_X7_status : GoodIn wsL_law wsX7_status := goodIn_r _ [960, 37, 965, 966, 967, 968, 969, 970, 971, 972, 973, 974] (by decide +kernel) (by decide +kernel)
set_option maxRecDepth 20000 in
theorem gL_law_X7_status : GoodIn wsL_law (wsV RL 136 RX7 yX7_status wsX7_status) := goodIn_app (goodIn_of _ (by decide +kernel)) ggL_law_X7_status
set_option maxRecDepth 20000 in
theorem ggL_law_X8_status : GoodIn wsL_law wsX8_status := goodIn_r _ [964, 147, 975, 976, 977, 978, 979, 980, 981, 982, 983, 984, 985, 986, 987, 988, 989, 990, 991, 992, 993, 994, 995, 996, 997, 998, 999, 1000] (by decide +kernel) (by decide +kernel)
set_option maxRecDepth 20000 in
theorem gL_law_X8_status : GoodIn wsL_law (wsV RL 139 RX8 yX8_status wsX8_status) := goodIn_app (goodIn_of _ (by decide +kernel)) ggL_law_X8_status
