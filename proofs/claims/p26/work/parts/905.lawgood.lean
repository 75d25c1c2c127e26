/-! the words of what the law's methods call lie among theirs -/
set_option maxRecDepth 20000 in
theorem ggL_tale_X9_count : GoodIn wsL_tale wsX9_count := goodIn_r _ [11, 12, 13, 14, 15, 16, 17, 18, 19, 20, 21, 22, 23, 24, 25, 26, 10, 27, 28, 29, 30, 31, 32, 33, 34, 35, 36, 37, 38, 39, 40, 41, 42, 43, 44, 45, 46, 47, 48, 49, 50, 51, 52, 53, 54, 55, 56, 57, 58, 59, 60, 61, 62, 63, 64, 65, 66, 67, 68, 69, 70, 71, 72, 73, 74, 75, 76, 77, 78, 79, 80, 81, 82, 83, 84, 85, 86, 87, 88, 89, 90, 91, 92, 93, 94, 95, 96, 97, 98, 99, 100, 101, 102, 103, 104, 105, 106, 107, 108, 109, 110, 111, 112, 113, 114, 115, 116, 117, 118, 119, 120, 121, 122, 123, 124, 125, 126, 127, 128, 129, 130, 131, 132, 133, 209, 210, 211, 212, 213, 214, 215, 216, 217, 218, 219, 220, 221, 222, 223, 224, 225, 226, 227, 228, 229, 230, 231, 232, 233, 234, 235, 236, 237, 238, 239, 240, 241, 242, 243, 244, 245, 246, 247, 248, 249, 250, 251, 252, 253] (by decide +kernel) (by decide +kernel)
set_option maxRecDepth 20000 in
theorem gL_tale_X9_count : GoodIn wsL_tale (wsV RL 12 RX9 yX9_count wsX9_count) := goodIn_app (goodIn_of _ (by decide +kernel)) ggL_tale_X9_count
set_option maxRecDepth 20000 in
theorem ggL_tale_X9_at : GoodIn wsL_tale wsX9_at := goodIn_r _ [137, 12, 133, 15, 17, 28, 138, 139, 140, 10, 141, 142, 143, 144, 145, 146, 147, 148, 29, 30, 31, 149, 150, 151, 57, 152, 153, 154, 155, 156, 157, 158, 159, 209, 210, 211, 212, 213, 214, 215, 216, 217, 218, 219, 220, 221, 222, 223, 224, 225, 226, 227, 228, 229, 230, 231, 232, 233, 234, 235] (by decide +kernel) (by decide +kernel)
set_option maxRecDepth 20000 in
theorem gL_tale_X9_at : GoodIn wsL_tale (wsV RL 20 RX9 yX9_at wsX9_at) := goodIn_app (goodIn_of _ (by decide +kernel)) ggL_tale_X9_at
set_option maxRecDepth 20000 in
theorem ggL_tale_X9_way : GoodIn wsL_tale wsX9_way := goodIn_r _ [163, 15, 12, 28, 164, 165, 166, 167, 10, 168, 17, 169, 170, 171, 57, 172, 154, 30, 31, 173, 174, 175, 176, 155, 29, 177, 178, 179, 180, 153, 181, 182, 183, 184, 185, 186, 187, 188, 189, 190, 191, 192, 193, 194, 195, 196, 197, 198, 199, 200, 201, 202, 203, 36, 38, 39, 40, 41, 42, 43, 44, 45, 46, 47, 48, 49, 50, 51, 52, 53, 54, 55, 56, 58, 59, 60, 61, 62, 63, 64, 65, 66, 67, 68, 69, 70, 71, 72, 73, 74, 75, 76, 77, 204, 205, 206, 207, 208, 102, 103, 104, 209, 210, 211, 212, 213, 214, 215, 216, 217, 218, 219, 220, 221, 222, 223, 224, 225, 226, 227, 228, 229, 230, 231, 232, 233, 234, 235, 246, 247, 248, 249, 250, 251] (by decide +kernel) (by decide +kernel)
set_option maxRecDepth 20000 in
theorem gL_tale_X9_way : GoodIn wsL_tale (wsV RL 25 RX9 yX9_way wsX9_way) := goodIn_app (goodIn_of _ (by decide +kernel)) ggL_tale_X9_way
set_option maxRecDepth 20000 in
theorem ggL_does_X9_count : GoodIn wsL_does wsX9_count := goodIn_r _ [6, 7, 8, 9, 10, 11, 12, 13, 14, 15, 16, 17, 18, 19, 20, 21, 5, 22, 23, 24, 25, 26, 27, 28, 29, 30, 31, 32, 33, 34, 35, 36, 37, 38, 39, 40, 41, 42, 43, 44, 45, 46, 47, 48, 49, 50, 51, 52, 53, 54, 55, 56, 57, 58, 59, 60, 61, 62, 63, 64, 65, 66, 67, 68, 69, 70, 71, 72, 73, 74, 75, 76, 77, 78, 79, 80, 81, 82, 83, 84, 85, 86, 87, 88, 89, 90, 91, 92, 93, 94, 95, 96, 97, 98, 99, 100, 101, 102, 103, 104, 105, 106, 107, 108, 109, 110, 111, 112, 113, 114, 115, 116, 117, 118, 119, 120, 121, 122, 123, 124, 125, 126, 127, 128, 397, 398, 399, 400, 401, 402, 403, 404, 405, 406, 407, 408, 409, 410, 411, 412, 413, 414, 415, 416, 417, 418, 419, 420, 421, 422, 423, 424, 425, 426, 427, 428, 429, 430, 431, 432, 433, 434, 435, 436, 437, 438, 439, 440, 441] (by decide +kernel) (by decide +kernel)
set_option maxRecDepth 20000 in
theorem gL_does_X9_count : GoodIn wsL_does (wsV RL 12 RX9 yX9_count wsX9_count) := goodIn_app (goodIn_of _ (by decide +kernel)) ggL_does_X9_count
set_option maxRecDepth 20000 in
theorem ggL_does_L_low : GoodIn wsL_does wsL_low := goodIn_r _ [132, 133] (by decide +kernel) (by decide +kernel)
set_option maxRecDepth 20000 in
theorem gL_does_L_low : GoodIn wsL_does (va_wsS RL 33 yL_low wsL_low) := goodIn_app (goodIn_of _ (by decide +kernel)) ggL_does_L_low
set_option maxRecDepth 20000 in
theorem ggL_does_X9_island : GoodIn wsL_does wsX9_island := goodIn_r _ [137, 7, 128, 10, 11, 15, 12, 138, 139, 140, 5, 141, 142, 143, 144, 145, 146, 147, 148, 24, 25, 26, 149, 150, 151, 152, 153, 154, 155, 156, 157, 158, 159, 160, 161, 162, 163, 164, 165, 166, 167, 168, 169, 170, 171, 172, 173, 174, 175, 176, 177, 178, 179, 180, 181, 47, 48, 182, 183, 184, 185, 186, 187, 188, 189, 190, 191, 192, 52, 193, 194, 195, 196, 197, 198, 199, 200, 72, 201, 202, 203, 204, 205, 206, 207, 208, 209, 69, 70, 71, 210, 211, 212, 213, 214, 215, 216, 217, 218, 219, 220, 221, 54, 67, 222, 223, 224, 61, 62, 225, 226, 227, 228, 229, 230, 231, 232, 233, 234, 235, 236, 237, 238, 239, 240, 241, 242, 243, 244, 245, 397, 398, 399, 400, 401, 402, 403, 404, 405, 406, 407, 408, 409, 410, 411, 412, 413, 414, 415, 416, 417, 418, 419, 420, 421, 422, 423, 424, 425] (by decide +kernel) (by decide +kernel)
set_option maxRecDepth 20000 in
theorem gL_does_X9_island : GoodIn wsL_does (wsV RL 38 RX9 yX9_island wsX9_island) := goodIn_app (goodIn_of _ (by decide +kernel)) ggL_does_X9_island
set_option maxRecDepth 20000 in
theorem ggL_does_X9_removeIsland : GoodIn wsL_does wsX9_removeIsland := goodIn_r _ [249, 7, 128, 15, 138, 139, 140, 5, 141, 142, 143, 144, 145, 146, 147, 148, 24, 25, 26, 149, 150, 151, 152, 153, 154, 155, 156, 157, 158, 159, 160, 161, 162, 163, 164, 165, 166, 167, 168, 169, 170, 171, 172, 173, 174, 175, 176, 177, 178, 179, 180, 181, 47, 48, 182, 183, 184, 185, 10, 186, 187, 188, 189, 190, 191, 192, 52, 193, 194, 195, 196, 197, 198, 199, 200, 72, 201, 202, 203, 204, 205, 206, 207, 208, 209, 69, 70, 71, 210, 211, 212, 213, 214, 215, 216, 217, 218, 219, 220, 221, 54, 67, 222, 223, 224, 61, 62, 225, 226, 227, 228, 229, 230, 231, 232, 233, 234, 235, 236, 237, 238, 239, 240, 241, 242, 243, 244, 245, 397, 398, 399, 400, 401, 402, 403, 404, 405, 406, 407, 408, 409, 410, 411, 412, 424, 425, 413, 414, 415, 416, 417, 418, 419, 420, 421, 422, 423] (by decide +kernel) (by decide +kernel)
set_option maxRecDepth 20000 in
theorem gL_does_X9_removeIsland : GoodIn wsL_does (wsV RL 41 RX9 yX9_removeIsland wsX9_removeIsland) := goodIn_app (goodIn_of _ (by decide +kernel)) ggL_does_X9_removeIsland
set_option maxRecDepth 20000 in
theorem ggL_does_X9_begin : GoodIn wsL_does wsX9_begin := goodIn_r _ [253, 10, 11, 15, 7, 254, 255, 5, 256, 149, 150, 151, 152, 153, 154, 155, 156, 157, 158, 159, 160, 161, 162, 163, 164, 165, 166, 167, 168, 169, 170, 145, 171, 147, 148, 172, 173, 174, 175, 176, 177, 178, 179, 180, 257, 258, 259, 260, 47, 48, 261, 187, 188, 189, 182, 183, 184, 185, 186, 190, 191, 192, 52, 193, 194, 195, 196, 197, 198, 199, 200, 72, 201, 202, 203, 143, 144, 146, 25, 26, 204, 205, 206, 207, 208, 209, 69, 70, 71, 210, 211, 212, 213, 214, 215, 216, 217, 218, 219, 220, 221, 54, 67, 222, 223, 224, 61, 62, 225, 226, 227, 228, 229, 230, 231, 232, 233, 234, 235, 236, 237, 238, 239, 240, 241, 242, 243, 244, 245, 397, 398, 399, 400, 401, 402, 403, 404, 405, 413, 414, 415, 416, 417, 418, 419, 420, 421, 422, 423, 424, 425, 406, 407, 408, 409, 410, 411, 412] (by decide +kernel) (by decide +kernel)
set_option maxRecDepth 20000 in
theorem gL_does_X9_begin : GoodIn wsL_does (wsV RL 44 RX9 yX9_begin wsX9_begin) := goodIn_app (goodIn_of _ (by decide +kernel)) ggL_does_X9_begin
set_option maxRecDepth 20000 in
theorem ggL_does_X9_clear : GoodIn wsL_does wsX9_clear := goodIn_r _ [265, 15, 7, 19, 20, 21, 5, 22, 10, 12, 23, 24, 25, 26, 149, 150, 151, 152, 153, 154, 155, 156, 157, 158, 159, 160, 161, 162, 163, 164, 165, 166, 167, 168, 169, 170, 145, 171, 147, 148, 172, 173, 174, 175, 176, 177, 178, 179, 180, 186, 187, 188, 189, 47, 48, 397, 398, 399, 400, 401, 402, 403, 404, 405, 413, 414, 415, 416, 417, 418, 419, 420, 421, 422, 423, 406, 407, 408, 409, 410, 411, 412, 424, 425] (by decide +kernel) (by decide +kernel)
set_option maxRecDepth 20000 in
theorem gL_does_X9_clear : GoodIn wsL_does (wsV RL 47 RX9 yX9_clear wsX9_clear) := goodIn_app (goodIn_of _ (by decide +kernel)) ggL_does_X9_clear
set_option maxRecDepth 20000 in
theorem ggL_does_X9_take : GoodIn wsL_does wsX9_take := goodIn_r _ [269, 7, 23, 15, 270, 271, 272, 5, 273, 10, 12, 24, 25, 26, 149, 150, 151, 152, 153, 154, 155, 156, 157, 158, 159, 160, 161, 162, 163, 164, 165, 166, 167, 168, 169, 170, 145, 171, 147, 148, 172, 173, 174, 175, 176, 177, 178, 179, 180, 181, 47, 48, 397, 398, 399, 400, 401, 402, 403, 404, 405, 406, 407, 408, 409, 410, 411, 412, 413, 414, 415, 416, 417, 418, 419, 420, 421, 422, 423, 424, 425] (by decide +kernel) (by decide +kernel)
set_option maxRecDepth 20000 in
theorem gL_does_X9_take : GoodIn wsL_does (wsV RL 51 RX9 yX9_take wsX9_take) := goodIn_app (goodIn_of _ (by decide +kernel)) ggL_does_X9_take
set_option maxRecDepth 20000 in
theorem ggL_does_X9_cap : GoodIn wsL_does wsX9_cap := goodIn_r _ [277, 7, 23, 15, 278, 270, 271, 272, 5, 273, 10, 12, 24, 25, 26, 149, 150, 151, 152, 153, 154, 155, 156, 157, 158, 159, 160, 161, 162, 163, 164, 165, 166, 167, 168, 169, 170, 145, 171, 147, 148, 172, 173, 174, 175, 176, 177, 178, 179, 180, 181, 47, 48, 397, 398, 399, 400, 401, 402, 403, 404, 405, 406, 407, 408, 409, 410, 411, 412, 413, 414, 415, 416, 417, 418, 419, 420, 421, 422, 423, 424, 425] (by decide +kernel) (by decide +kernel)
set_option maxRecDepth 20000 in
theorem gL_does_X9_cap : GoodIn wsL_does (wsV RL 54 RX9 yX9_cap wsX9_cap) := goodIn_app (goodIn_of _ (by decide +kernel)) ggL_does_X9_cap
set_option maxRecDepth 20000 in
theorem ggL_does_X9_steps : GoodIn wsL_does wsX9_steps := goodIn_r _ [282, 15, 7, 283, 149, 150, 151, 152, 153, 154, 155, 156, 157, 158, 159, 160, 161, 162, 163, 164, 165, 166, 167, 168, 169, 170, 145, 171, 147, 148, 172, 173, 174, 175, 176, 177, 178, 179, 180, 284, 285, 286, 287, 288, 289, 290, 291, 292, 293, 294, 295, 296, 34, 35, 36, 37, 38, 39, 40, 41, 42, 43, 44, 45, 46, 47, 5, 48, 49, 50, 51, 52, 53, 54, 25, 26, 55, 56, 57, 58, 59, 60, 61, 62, 63, 64, 65, 66, 67, 68, 69, 70, 71, 72, 297, 121, 122, 123, 298, 79, 80, 81, 82, 83, 84, 85, 86, 87, 88, 89, 90, 91, 92, 93, 94, 95, 96, 97, 98, 99, 100, 101, 102, 103, 299, 300, 301, 302, 208, 303, 304, 305, 306, 307, 308, 309, 310, 311, 229, 312, 313, 314, 315, 316, 317, 318, 319, 320, 321, 322, 323, 324, 325, 326, 327, 328, 329, 330, 331, 332, 333, 334, 335, 336, 337, 338, 339, 340, 341, 397, 398, 399, 400, 401, 402, 403, 404, 405, 424, 425, 406, 407, 408, 409, 410, 411, 412, 442, 443, 444, 445, 446, 413, 414, 415, 416, 417, 418, 419, 420, 421, 422, 423, 434, 435, 436, 437, 438, 439, 440, 441] (by decide +kernel) (by decide +kernel)
set_option maxRecDepth 20000 in
theorem gL_does_X9_steps : GoodIn wsL_does (wsV RL 57 RX9 yX9_steps wsX9_steps) := goodIn_app (goodIn_of _ (by decide +kernel)) ggL_does_X9_steps
set_option maxRecDepth 20000 in
theorem ggL_does_X9_step : GoodIn wsL_does wsX9_step := goodIn_r _ [345, 283, 15, 7, 284, 285, 286, 287, 288, 289, 290, 291, 292, 293, 294, 295, 296, 34, 35, 36, 37, 38, 39, 40, 41, 42, 43, 44, 45, 46, 47, 5, 48, 49, 50, 51, 52, 53, 54, 25, 26, 55, 56, 57, 58, 59, 60, 61, 62, 63, 64, 65, 66, 67, 68, 69, 70, 71, 72, 297, 121, 122, 123, 298, 79, 80, 81, 82, 83, 84, 85, 86, 87, 88, 89, 90, 91, 92, 93, 94, 95, 96, 97, 98, 99, 100, 101, 102, 103, 299, 300, 301, 302, 208, 303, 304, 305, 306, 307, 308, 309, 310, 311, 229, 312, 313, 314, 315, 316, 317, 318, 319, 320, 321, 322, 323, 324, 325, 326, 327, 328, 329, 330, 331, 332, 333, 334, 149, 150, 151, 152, 153, 154, 155, 156, 157, 158, 159, 160, 161, 162, 163, 164, 165, 166, 167, 168, 169, 170, 145, 171, 147, 148, 172, 173, 174, 175, 176, 177, 178, 179, 180, 335, 336, 337, 338, 339, 340, 341, 397, 398, 399, 400, 401, 402, 403, 404, 405, 442, 443, 444, 445, 446, 406, 407, 408, 409, 410, 411, 412, 413, 414, 415, 416, 417, 418, 419, 420, 421, 422, 423, 434, 435, 436, 437, 438, 439, 440, 441, 424, 425] (by decide +kernel) (by decide +kernel)
set_option maxRecDepth 20000 in
theorem gL_does_X9_step : GoodIn wsL_does (wsV RL 60 RX9 yX9_step wsX9_step) := goodIn_app (goodIn_of _ (by decide +kernel)) ggL_does_X9_step
set_option maxRecDepth 20000 in
theorem ggL_does_X9_make : GoodIn wsL_does wsX9_make := goodIn_r _ [349, 350, 15, 7, 351, 8, 9, 10, 11, 149, 150, 151, 152, 153, 154, 155, 156, 157, 158, 159, 160, 161, 162, 163, 164, 165, 166, 167, 168, 169, 170, 145, 171, 147, 148, 172, 173, 174, 175, 176, 177, 178, 179, 180, 352, 353, 354, 355, 356, 357, 358, 359, 360, 361, 362, 47, 5, 48, 363, 364, 365, 366, 367, 368, 369, 370, 371, 372, 25, 26, 373, 374, 375, 376, 377, 378, 379, 380, 61, 62, 381, 382, 383, 384, 385, 182, 183, 184, 185, 186, 187, 188, 189, 190, 191, 192, 52, 193, 194, 195, 196, 197, 198, 199, 200, 72, 201, 202, 203, 143, 144, 146, 204, 205, 206, 207, 208, 209, 69, 70, 71, 210, 211, 212, 213, 214, 215, 216, 217, 218, 219, 220, 221, 54, 67, 222, 223, 224, 225, 226, 227, 228, 229, 230, 231, 232, 233, 234, 235, 236, 237, 238, 239, 240, 241, 242, 243, 244, 245, 397, 398, 399, 400, 401, 402, 403, 404, 405, 406, 407, 408, 409, 410, 411, 412, 413, 414, 415, 416, 417, 418, 419, 420, 421, 422, 423, 424, 425, 447, 448, 449, 450, 451, 452, 453] (by decide +kernel) (by decide +kernel)
set_option maxRecDepth 20000 in
theorem gL_does_X9_make : GoodIn wsL_does (wsV RL 64 RX9 yX9_make wsX9_make) := goodIn_app (goodIn_of _ (by decide +kernel)) ggL_does_X9_make
set_option maxRecDepth 20000 in
theorem ggL_does_X9_build : GoodIn wsL_does wsX9_build := goodIn_r _ [389, 15, 7, 23, 270, 271, 272, 5, 273, 10, 12, 390, 391, 392, 393, 278, 31, 24, 25, 26, 394, 309, 310, 52, 311, 229, 395, 300, 301, 302, 208, 33, 34, 35, 36, 37, 38, 39, 40, 41, 42, 43, 44, 45, 46, 47, 48, 49, 50, 51, 53, 54, 55, 56, 57, 58, 59, 60, 61, 62, 63, 64, 65, 66, 67, 68, 69, 70, 71, 72, 396, 313, 314, 315, 316, 97, 98, 99, 149, 150, 151, 152, 153, 154, 155, 156, 157, 158, 159, 160, 161, 162, 163, 164, 165, 166, 167, 168, 169, 170, 145, 171, 147, 148, 172, 173, 174, 175, 176, 177, 178, 179, 180, 181, 397, 398, 399, 400, 401, 402, 403, 404, 405, 406, 407, 408, 409, 410, 411, 412, 413, 414, 415, 416, 417, 418, 419, 420, 421, 422, 423, 434, 435, 436, 437, 438, 439, 424, 425] (by decide +kernel) (by decide +kernel)
set_option maxRecDepth 20000 in
theorem gL_does_X9_build : GoodIn wsL_does (wsV RL 67 RX9 yX9_build wsX9_build) := goodIn_app (goodIn_of _ (by decide +kernel)) ggL_does_X9_build
set_option maxRecDepth 20000 in
theorem ggL_law_X9_init : GoodIn wsL_law wsX9_init := goodIn_r _ [5, 6, 7, 8, 9, 10, 11, 12, 13, 14, 15, 16, 17, 18, 19, 20, 21, 22, 23, 24, 25, 26, 27, 28, 29, 30, 31, 32, 33, 34, 35, 36, 37, 38, 39, 40, 41, 42, 43, 44, 45, 46, 47, 48, 49, 50, 51, 52, 53, 54, 55, 56, 57, 58, 59, 2, 60, 61, 62, 63, 64, 65, 66, 67, 68, 69, 70, 71, 72, 73, 74, 75, 76, 77, 78, 79, 80, 81, 82, 83, 84, 85, 86, 87, 88, 89, 90, 91, 92, 93, 94, 95, 96, 97, 98, 99, 100, 101, 102, 103, 104, 105, 106, 107, 108, 109, 110, 111, 112, 113, 114, 115, 116, 117, 118, 119, 120, 121, 122, 123, 124, 125, 126, 127, 128, 129, 130, 551, 552, 553, 554, 555, 556, 557, 542, 543, 544, 545, 546, 547, 548, 549, 550, 558, 559, 560, 561, 562, 563, 564, 565, 566, 567, 568, 569, 570, 571, 572, 573, 574, 575, 576, 577, 578, 579, 580, 581, 582, 583, 584, 585, 586, 587, 588, 589, 590, 591, 592, 593, 594, 595, 596, 597, 598, 599, 600, 601, 602, 603, 604, 605, 606, 607, 608, 609, 610] (by decide +kernel) (by decide +kernel)
set_option maxRecDepth 20000 in
theorem gL_law_X9_init : GoodIn wsL_law (wsX9_init) := ggL_law_X9_init
set_option maxRecDepth 20000 in
theorem ggL_law_L_cell : GoodIn wsL_law wsL_cell := goodIn_r _ [134] (by decide +kernel) (by decide +kernel)
set_option maxRecDepth 20000 in
theorem gL_law_L_cell : GoodIn wsL_law (va_wsS RL 71 yL_cell wsL_cell) := goodIn_app (goodIn_of _ (by decide +kernel)) ggL_law_L_cell
set_option maxRecDepth 20000 in
theorem ggL_law_L_tale_r1 : GoodIn wsL_law (.code yL_tale cL_tale 4 (some .long) :: wsL_tale_r1) := goodIn_r _ [137, 138, 139, 140, 141, 142, 143, 144, 145, 146, 2, 147, 12, 148, 149, 16, 150, 151, 152, 153, 40, 154, 44, 155, 156] (by decide +kernel) (by decide +kernel)
set_option maxRecDepth 20000 in
theorem ggL_law_L_tale_r2 : GoodIn wsL_law wsL_tale_r2 := goodIn_r _ [157, 158, 159, 160, 161, 162, 163, 164, 165, 166, 167, 20, 168, 169, 170, 171, 19, 172, 85, 86, 89, 173, 174, 88] (by decide +kernel) (by decide +kernel)
set_option maxRecDepth 20000 in
theorem ggL_law_L_tale_r3 : GoodIn wsL_law wsL_tale_r3 := goodIn_r _ [175, 84, 87, 59, 60, 176, 177, 178, 15, 179, 72, 180, 181, 182, 183, 184, 185, 186, 187, 188, 189, 190, 191, 73] (by decide +kernel) (by decide +kernel)
set_option maxRecDepth 20000 in
theorem ggL_law_L_tale_r4 : GoodIn wsL_law wsL_tale_r4 := goodIn_r _ [192, 193, 194, 195, 70, 196, 197, 198, 199, 24, 200, 201, 202, 23, 203, 94, 95, 204, 205, 206, 207, 208, 209, 210] (by decide +kernel) (by decide +kernel)
set_option maxRecDepth 20000 in
theorem ggL_law_L_tale_r5 : GoodIn wsL_law wsL_tale_r5 := goodIn_r _ [211, 212, 213, 214, 215, 216, 217, 218, 219, 220, 221, 222, 223, 224, 225, 226, 227, 228, 229, 230, 231, 232, 233, 234] (by decide +kernel) (by decide +kernel)
set_option maxRecDepth 20000 in
theorem ggL_law_L_tale_r6 : GoodIn wsL_law wsL_tale_r6 := goodIn_r _ [235, 236, 237, 238, 239, 240, 241, 242, 243, 244, 245, 246, 247, 248, 249, 250, 251, 252, 253, 254, 255, 256, 257, 258] (by decide +kernel) (by decide +kernel)
set_option maxRecDepth 20000 in
theorem ggL_law_L_tale_r7 : GoodIn wsL_law wsL_tale_r7 := goodIn_r _ [11, 259, 57, 58, 260, 261, 262, 263, 76, 74, 75, 264, 265, 266, 267, 268, 269, 270, 271, 272, 273, 274, 275, 276] (by decide +kernel) (by decide +kernel)
set_option maxRecDepth 20000 in
theorem ggL_law_L_tale_r8 : GoodIn wsL_law wsL_tale_r8 := goodIn_r _ [277, 278, 279, 280, 281, 282, 283, 284, 285, 286, 287, 288, 289, 290, 291, 292, 293, 294, 79, 295, 296, 297, 298, 299] (by decide +kernel) (by decide +kernel)
set_option maxRecDepth 20000 in
theorem ggL_law_L_tale_r9 : GoodIn wsL_law wsL_tale_r9 := goodIn_r _ [300, 301, 302, 303, 304, 305, 306, 307, 308, 309, 310, 311, 312, 313, 314, 315] (by decide +kernel) (by decide +kernel)
set_option maxRecDepth 20000 in
theorem ggL_law_L_tale : GoodIn wsL_law wsL_tale := goodIn_ca (goodIn_ca (goodIn_ca (goodIn_ca (goodIn_ca (goodIn_ca (goodIn_ca (goodIn_ca ggL_law_L_tale_r1 (goodIn_app ggL_law_L_tale_r2 (goodIn_app ggL_law_L_tale_r3 (goodIn_app ggL_law_L_tale_r4 (goodIn_app ggL_law_L_tale_r5 (goodIn_app ggL_law_L_tale_r6 (goodIn_app ggL_law_L_tale_r7 (goodIn_app ggL_law_L_tale_r8 (ggL_law_L_tale_r9))))))))) (goodIn_sub inlX9 (by decide +kernel))) (goodIn_sub inlX6 (by decide +kernel))) (goodIn_sub inlX2 (by decide +kernel))) (goodIn_sub inlX1 (by decide +kernel))) (goodIn_sub inlX8 (by decide +kernel))) (goodIn_sub inlX7 (by decide +kernel))) (goodIn_sub inlX0 (by decide +kernel))
set_option maxRecDepth 20000 in
theorem gL_law_L_tale : GoodIn wsL_law (va_wsS RL 75 yL_tale wsL_tale) := goodIn_app (goodIn_of _ (by decide +kernel)) ggL_law_L_tale
set_option maxRecDepth 20000 in
theorem ggL_law_X9_hint : GoodIn wsL_law wsX9_hint := goodIn_r _ [319, 28, 320, 321, 322, 27, 323, 102, 103, 100, 324, 101, 325, 326, 327, 170, 171, 19, 172, 85, 86, 89, 173, 174, 88, 175, 84, 87, 59, 2, 60, 176, 177, 178, 15, 179, 72, 162, 163, 180, 181, 182, 183, 184, 185, 186, 187, 188, 189, 190, 191, 73, 192, 193, 194, 195, 70, 328, 240, 241, 242, 329, 201, 202, 23, 203, 94, 95, 204, 205, 206, 207, 208, 209, 210, 211, 212, 213, 214, 215, 216, 217, 218, 219, 220, 221, 222, 330, 303, 304, 305, 306, 331, 332, 333, 334, 335, 336, 292, 293, 294, 79, 337, 312, 313, 314, 315, 338, 339, 340, 341, 342, 343, 344, 345, 346, 347, 348, 349, 350, 351, 352, 353, 354, 355, 542, 543, 544, 545, 546, 547, 548, 549, 550, 577, 578, 579, 580, 581, 551, 552, 553, 554, 555, 556, 557, 558, 559, 560, 561, 562, 563, 564, 565, 566, 567, 568, 569, 570, 571, 572, 573, 574, 575, 576] (by decide +kernel) (by decide +kernel)
set_option maxRecDepth 20000 in
theorem gL_law_X9_hint : GoodIn wsL_law (wsV RL 79 RX9 yX9_hint wsX9_hint) := goodIn_app (goodIn_of _ (by decide +kernel)) ggL_law_X9_hint
set_option maxRecDepth 20000 in
theorem ggL_law_L_does_r1 : GoodIn wsL_law (.code yL_does cL_does 3 (some .int) :: wsL_does_r1) := goodIn_r _ [358, 359, 144, 145, 146, 2, 147, 12, 148, 149, 16, 150, 151, 152, 153, 40, 154, 44, 155, 156, 157, 158, 159, 160, 161] (by decide +kernel) (by decide +kernel)
set_option maxRecDepth 20000 in
theorem ggL_law_L_does_r2 : GoodIn wsL_law wsL_does_r2 := goodIn_r _ [162, 163, 164, 165, 166, 167, 20, 168, 169, 170, 171, 19, 172, 85, 86, 89, 173, 174, 88, 175, 84, 87, 59, 60] (by decide +kernel) (by decide +kernel)
set_option maxRecDepth 20000 in
theorem ggL_law_L_does_r3 : GoodIn wsL_law wsL_does_r3 := goodIn_r _ [176, 177, 178, 15, 179, 72, 180, 181, 182, 183, 184, 185, 186, 187, 188, 189, 190, 191, 73, 192, 193, 194, 195, 70] (by decide +kernel) (by decide +kernel)
set_option maxRecDepth 20000 in
theorem ggL_law_L_does_r4 : GoodIn wsL_law wsL_does_r4 := goodIn_r _ [196, 197, 198, 199, 24, 200, 201, 202, 23, 203, 94, 95, 204, 205, 206, 207, 208, 209, 210, 211, 212, 213, 214, 215] (by decide +kernel) (by decide +kernel)
set_option maxRecDepth 20000 in
theorem ggL_law_L_does_r5 : GoodIn wsL_law wsL_does_r5 := goodIn_r _ [216, 217, 218, 219, 220, 221, 222, 223, 224, 225, 226, 227, 228, 229, 230, 231, 232, 233, 234, 235, 236, 237, 238, 239] (by decide +kernel) (by decide +kernel)
set_option maxRecDepth 20000 in
theorem ggL_law_L_does_r6 : GoodIn wsL_law wsL_does_r6 := goodIn_r _ [240, 241, 242, 243, 244, 245, 246, 247, 360, 361, 133, 362, 363, 364, 365, 366, 367, 252, 253, 254, 255, 256, 257, 258] (by decide +kernel) (by decide +kernel)
set_option maxRecDepth 20000 in
theorem ggL_law_L_does_r7 : GoodIn wsL_law wsL_does_r7 := goodIn_r _ [11, 259, 57, 58, 368, 369, 370, 39, 371, 372, 373, 374, 375, 376, 125, 377, 378, 379, 380, 381, 382, 383, 384, 385] (by decide +kernel) (by decide +kernel)
set_option maxRecDepth 20000 in
theorem ggL_law_L_does_r8 : GoodIn wsL_law wsL_does_r8 := goodIn_r _ [386, 387, 388, 65, 66, 50, 389, 390, 391, 392, 51, 52, 393, 394, 395, 396, 397, 398, 62, 63, 64, 399, 400, 401] (by decide +kernel) (by decide +kernel)
set_option maxRecDepth 20000 in
theorem ggL_law_L_does_r9 : GoodIn wsL_law wsL_does_r9 := goodIn_r _ [402, 403, 404, 405, 406, 407, 408, 409, 77, 71, 410, 411, 412, 413, 414, 306, 415, 416, 417, 418, 419, 420, 421, 422] (by decide +kernel) (by decide +kernel)
set_option maxRecDepth 20000 in
theorem ggL_law_L_does_r10 : GoodIn wsL_law wsL_does_r10 := goodIn_r _ [423, 424, 425, 426, 427, 74, 75, 76, 428, 429, 430, 431, 79, 432, 433, 434, 435, 436, 265, 266, 267, 290, 278, 279] (by decide +kernel) (by decide +kernel)
set_option maxRecDepth 20000 in
theorem ggL_law_L_does_r11 : GoodIn wsL_law wsL_does_r11 := goodIn_r _ [280, 437, 261, 262, 263, 438, 439, 440, 441, 442, 443, 444, 445, 446, 447, 448, 449, 54, 55, 56, 61, 450, 451, 452] (by decide +kernel) (by decide +kernel)
set_option maxRecDepth 20000 in
theorem ggL_law_L_does_r12 : GoodIn wsL_law wsL_does_r12 := goodIn_r _ [453, 454, 455, 456, 457, 273, 274, 275, 276, 458, 459, 460, 461, 272, 462, 463, 464, 465, 28, 320, 321, 322, 27, 323] (by decide +kernel) (by decide +kernel)
set_option maxRecDepth 20000 in
theorem ggL_law_L_does_r13 : GoodIn wsL_law wsL_does_r13 := goodIn_r _ [102, 103, 100, 324, 101, 325, 326, 327, 328, 329, 330, 303, 304, 305, 331, 332, 333, 334, 335, 336, 292, 293, 294, 337] (by decide +kernel) (by decide +kernel)
set_option maxRecDepth 20000 in
theorem ggL_law_L_does_r14 : GoodIn wsL_law wsL_does_r14 := goodIn_r _ [312, 313, 314, 315, 338, 339, 340, 341, 342, 343, 344, 345, 346, 347, 348, 349, 350, 351, 352, 353, 354, 355, 466, 467] (by decide +kernel) (by decide +kernel)
set_option maxRecDepth 20000 in
theorem ggL_law_L_does_r15 : GoodIn wsL_law wsL_does_r15 := goodIn_r _ [468, 469, 470, 471, 472, 473, 474, 475, 476, 477, 478, 479, 480, 481, 36, 482, 483, 484, 35, 485, 486, 487, 488, 489] (by decide +kernel) (by decide +kernel)
set_option maxRecDepth 20000 in
theorem ggL_law_L_does_r16 : GoodIn wsL_law wsL_does_r16 := goodIn_r _ [117, 118, 490, 491, 492, 493, 494, 495, 496, 497, 498, 119, 499, 500, 501, 502, 503, 504, 505, 506, 507, 508, 509, 510] (by decide +kernel) (by decide +kernel)
set_option maxRecDepth 20000 in
theorem ggL_law_L_does_r17 : GoodIn wsL_law wsL_does_r17 := goodIn_r _ [511, 512, 513, 514, 515, 307, 308, 309, 310, 291, 302, 311] (by decide +kernel) (by decide +kernel)
set_option maxRecDepth 20000 in
theorem ggL_law_L_does : GoodIn wsL_law wsL_does := goodIn_ca (goodIn_ca (goodIn_ca (goodIn_ca (goodIn_ca (goodIn_ca (goodIn_ca (goodIn_ca (goodIn_ca (goodIn_ca ggL_law_L_does_r1 (goodIn_app ggL_law_L_does_r2 (goodIn_app ggL_law_L_does_r3 (goodIn_app ggL_law_L_does_r4 (goodIn_app ggL_law_L_does_r5 (goodIn_app ggL_law_L_does_r6 (goodIn_app ggL_law_L_does_r7 (goodIn_app ggL_law_L_does_r8 (goodIn_app ggL_law_L_does_r9 (goodIn_app ggL_law_L_does_r10 (goodIn_app ggL_law_L_does_r11 (goodIn_app ggL_law_L_does_r12 (goodIn_app ggL_law_L_does_r13 (goodIn_app ggL_law_L_does_r14 (goodIn_app ggL_law_L_does_r15 (goodIn_app ggL_law_L_does_r16 (ggL_law_L_does_r17))))))))))))))))) (goodIn_sub inlX9 (by decide +kernel))) (goodIn_sub inlX6 (by decide +kernel))) (goodIn_sub inlX2 (by decide +kernel))) (goodIn_sub inlX1 (by decide +kernel))) (goodIn_sub inlX8 (by decide +kernel))) (goodIn_sub inlX7 (by decide +kernel))) (goodIn_sub inlX0 (by decide +kernel))) (goodIn_sub inlX4 (by decide +kernel))) (goodIn_sub inlX3 (by decide +kernel))
set_option maxRecDepth 20000 in
theorem gL_law_L_does : GoodIn wsL_law (va_wsS RL 82 yL_does wsL_does) := goodIn_app (goodIn_of _ (by decide +kernel)) ggL_law_L_does
set_option maxRecDepth 20000 in
theorem ggL_law_X9_undo : GoodIn wsL_law wsX9_undo := goodIn_r _ [519, 40, 154, 12, 16, 520, 521, 522, 39, 523, 372, 377, 378, 379, 380, 125, 385, 386, 387, 11, 388, 57, 58, 65, 66, 50, 389, 390, 391, 392, 51, 52, 399, 400, 401, 15, 402, 403, 404, 405, 406, 407, 408, 409, 70, 77, 71, 410, 257, 258, 259, 162, 2, 163, 59, 60, 411, 412, 413, 414, 306, 415, 193, 194, 195, 416, 417, 418, 419, 420, 421, 422, 423, 424, 425, 426, 427, 72, 73, 74, 75, 76, 186, 187, 428, 429, 430, 431, 79, 432, 433, 434, 435, 436, 265, 266, 267, 290, 278, 279, 280, 437, 261, 262, 263, 542, 543, 544, 545, 546, 547, 548, 549, 550, 601, 602, 551, 552, 553, 554, 555, 556, 557, 558, 559, 560, 561, 562, 563, 564, 565, 566, 567, 568] (by decide +kernel) (by decide +kernel)
set_option maxRecDepth 20000 in
theorem gL_law_X9_undo : GoodIn wsL_law (wsV RL 86 RX9 yX9_undo wsX9_undo) := goodIn_app (goodIn_of _ (by decide +kernel)) ggL_law_X9_undo
set_option maxRecDepth 20000 in
theorem ggL_law_X9_count : GoodIn wsL_law wsX9_count := goodIn_r _ [147, 12, 148, 149, 16, 150, 151, 152, 153, 40, 154, 44, 155, 156, 157, 158, 2, 159, 160, 161, 162, 163, 164, 165, 166, 167, 20, 168, 169, 170, 171, 19, 172, 85, 86, 89, 173, 174, 88, 175, 84, 87, 59, 60, 176, 177, 178, 15, 179, 72, 180, 181, 182, 183, 184, 185, 186, 187, 188, 189, 190, 191, 73, 192, 193, 194, 195, 70, 196, 197, 198, 199, 24, 200, 201, 202, 23, 203, 94, 95, 204, 205, 206, 207, 208, 209, 210, 211, 212, 213, 214, 215, 216, 217, 218, 219, 220, 221, 222, 223, 224, 225, 226, 227, 228, 229, 230, 231, 232, 233, 234, 235, 236, 237, 238, 239, 240, 241, 242, 243, 244, 245, 246, 247, 542, 543, 544, 545, 546, 547, 548, 549, 550, 551, 552, 553, 554, 555, 556, 557, 558, 559, 560, 561, 562, 563, 564, 565, 566, 567, 568, 601, 602, 603, 604, 605, 606, 607, 608, 609, 610, 569, 570, 571, 572, 573, 574, 575, 576] (by decide +kernel) (by decide +kernel)
set_option maxRecDepth 20000 in
theorem gL_law_X9_count : GoodIn wsL_law (wsV RL 12 RX9 yX9_count wsX9_count) := goodIn_app (goodIn_of _ (by decide +kernel)) ggL_law_X9_count
set_option maxRecDepth 20000 in
theorem ggL_law_X9_way : GoodIn wsL_law wsX9_way := goodIn_r _ [271, 16, 12, 160, 272, 273, 274, 275, 2, 276, 151, 277, 278, 279, 15, 280, 74, 162, 163, 281, 282, 283, 284, 75, 161, 285, 286, 287, 288, 76, 289, 290, 291, 292, 293, 294, 79, 295, 296, 297, 298, 299, 300, 301, 302, 303, 304, 305, 306, 307, 308, 309, 310, 20, 169, 170, 171, 19, 172, 85, 86, 89, 173, 174, 88, 175, 84, 87, 59, 60, 176, 177, 178, 179, 72, 180, 181, 182, 183, 184, 185, 186, 187, 188, 189, 190, 191, 73, 192, 193, 194, 195, 70, 311, 312, 313, 314, 315, 216, 217, 218, 542, 543, 544, 545, 546, 547, 548, 549, 550, 551, 552, 553, 554, 555, 556, 557, 558, 559, 560, 561, 562, 563, 564, 565, 566, 567, 568, 569, 570, 571, 572, 573, 574] (by decide +kernel) (by decide +kernel)
set_option maxRecDepth 20000 in
theorem gL_law_X9_way : GoodIn wsL_law (wsV RL 25 RX9 yX9_way wsX9_way) := goodIn_app (goodIn_of _ (by decide +kernel)) ggL_law_X9_way
set_option maxRecDepth 20000 in
theorem ggL_law_X9_between : GoodIn wsL_law wsX9_between := goodIn_r _ [527, 528, 216, 217, 218, 529, 220, 221, 16, 151, 252, 253, 254, 2, 255, 12, 256, 257, 258, 11, 259, 57, 58, 277, 278, 279, 15, 280, 74, 162, 163, 281, 282, 283, 284, 75, 542, 543, 544, 545, 546, 547, 548, 549, 550, 558, 559, 560, 561, 562, 563, 564, 565, 566, 567, 568, 551, 552, 553, 554, 555, 556, 557] (by decide +kernel) (by decide +kernel)
set_option maxRecDepth 20000 in
theorem gL_law_X9_between : GoodIn wsL_law (wsV RL 89 RX9 yX9_between wsX9_between) := goodIn_app (goodIn_of _ (by decide +kernel)) ggL_law_X9_between
set_option maxRecDepth 20000 in
theorem ggL_law_X9_islandInfo : GoodIn wsL_law wsX9_islandInfo := goodIn_r _ [533, 16, 20, 12, 247, 534, 168, 535, 536, 24, 160, 252, 253, 254, 2, 255, 256, 257, 258, 11, 259, 57, 58, 537, 421, 422, 15, 423, 71, 162, 163, 169, 170, 171, 19, 172, 85, 86, 89, 173, 174, 88, 175, 84, 87, 59, 60, 176, 177, 178, 179, 72, 180, 181, 182, 183, 184, 185, 186, 187, 188, 189, 190, 191, 73, 192, 193, 194, 195, 70, 161, 200, 201, 202, 23, 203, 94, 95, 204, 205, 206, 207, 208, 209, 210, 211, 212, 213, 214, 215, 216, 217, 218, 219, 220, 221, 222, 538, 539, 540, 541, 227, 228, 229, 230, 542, 543, 544, 545, 546, 547, 548, 549, 550, 551, 552, 553, 554, 555, 556, 557, 569, 570, 571, 572, 573, 574, 558, 559, 560, 561, 562, 563, 564, 565, 566, 567, 568, 575, 576] (by decide +kernel) (by decide +kernel)
set_option maxRecDepth 20000 in
theorem gL_law_X9_islandInfo : GoodIn wsL_law (wsV RL 92 RX9 yX9_islandInfo wsX9_islandInfo) := goodIn_app (goodIn_of _ (by decide +kernel)) ggL_law_X9_islandInfo
