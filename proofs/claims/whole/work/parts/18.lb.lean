set_option maxRecDepth 20000 in
theorem ggL_law_X3_init : GoodIn wsL_law wsX3_init := goodIn_r _ [9, 10, 11, 12, 13, 14, 15, 16, 17, 18, 19, 20, 21, 22, 23, 24, 25, 26, 27, 28, 29, 30, 31, 32, 33, 34, 35, 6, 36, 37, 38, 39, 40, 41, 42, 43, 44, 45, 46, 47, 48, 49, 577, 578, 579, 580, 581, 582, 583, 584, 585, 586, 551, 552, 553, 554, 555, 587, 588, 589] (by decide +kernel) (by decide +kernel)
set_option maxRecDepth 20000 in
theorem gL_law_X3_init : GoodIn wsL_law (wsX3_init) := ggL_law_X3_init
set_option maxRecDepth 20000 in
theorem ggL_law_X4_init : GoodIn wsL_law wsX4_init := goodIn_r _ [52, 53, 11, 12, 32, 54, 55, 56, 57, 58, 59, 60, 61, 62, 6, 63, 64, 65, 66, 67, 68, 69, 556, 557, 558, 559, 560, 561, 562, 563, 564, 565, 566, 567, 568, 569, 570, 571, 572, 573, 574, 575, 576] (by decide +kernel) (by decide +kernel)
set_option maxRecDepth 20000 in
theorem gL_law_X4_init : GoodIn wsL_law (wsX4_init) := ggL_law_X4_init
set_option maxRecDepth 20000 in
theorem ggL_law_L_variable : GoodIn wsL_law wsL_variable := goodIn_ca (goodIn_r _ [73, 74, 75, 76, 77, 2, 78, 16, 79, 80, 81, 82, 83, 84, 85, 86, 15, 87, 30, 33, 35, 36, 37, 38, 39, 40, 88, 89, 551, 552, 553, 554, 555, 577, 578, 579, 580, 581, 582, 583, 584, 585, 586] (by decide +kernel) (by decide +kernel)) (goodIn_sub (fun _ h => List.mem_append_left _ (List.mem_append_left _ (List.mem_append_right _ h))) (by decide +kernel))
set_option maxRecDepth 20000 in
theorem gL_law_L_variable : GoodIn wsL_law (va_wsS RL 63 yL_variable wsL_variable) := goodIn_app (goodIn_of _ (by decide +kernel)) ggL_law_L_variable
set_option maxRecDepth 20000 in
theorem ggL_law_X4_variable : GoodIn wsL_law wsX4_variable := goodIn_r _ [93, 94, 95, 96, 97, 5, 98, 99, 100, 101, 102, 103, 54, 556, 557, 558, 559, 560, 561, 562, 563, 564, 565, 566, 567, 568, 569, 570, 571, 572, 573, 574, 575, 576] (by decide +kernel) (by decide +kernel)
set_option maxRecDepth 20000 in
theorem gL_law_X4_variable : GoodIn wsL_law (wsV RL 68 RX4 yX4_variable wsX4_variable) := goodIn_app (goodIn_of _ (by decide +kernel)) ggL_law_X4_variable
set_option maxRecDepth 20000 in
theorem ggL_law_X4_thrown : GoodIn wsL_law wsX4_thrown := goodIn_r _ [107, 99, 556, 557, 558, 559, 560, 561, 562, 563, 564, 565, 566, 567, 568, 569, 570, 571, 572, 573, 574, 575, 576] (by decide +kernel) (by decide +kernel)
set_option maxRecDepth 20000 in
theorem gL_law_X4_thrown : GoodIn wsL_law (wsV RL 69 RX4 yX4_thrown wsX4_thrown) := goodIn_app (goodIn_of _ (by decide +kernel)) ggL_law_X4_thrown
set_option maxRecDepth 20000 in
theorem ggL_law_L_atom : GoodIn wsL_law wsL_atom := goodIn_ca (goodIn_r _ [110, 74, 111, 112, 113, 2, 114, 16, 79, 80, 81, 82, 83, 115, 116, 117, 15, 118, 31, 34, 551, 552, 553, 554, 555, 577, 578, 579, 580, 581, 582, 583, 584, 585, 586] (by decide +kernel) (by decide +kernel)) (goodIn_sub (fun _ h => List.mem_append_left _ (List.mem_append_left _ (List.mem_append_right _ h))) (by decide +kernel))
set_option maxRecDepth 20000 in
theorem gL_law_L_atom : GoodIn wsL_law (va_wsS RL 72 yL_atom wsL_atom) := goodIn_app (goodIn_of _ (by decide +kernel)) ggL_law_L_atom
set_option maxRecDepth 20000 in
theorem ggL_law_X4_atom : GoodIn wsL_law wsX4_atom := goodIn_r _ [122, 123, 95, 96, 97, 5, 98, 99, 124, 125, 126, 127, 55, 556, 557, 558, 559, 560, 561, 562, 563, 564, 565, 566, 567, 568, 569, 570, 571, 572, 573, 574, 575, 576] (by decide +kernel) (by decide +kernel)
set_option maxRecDepth 20000 in
theorem gL_law_X4_atom : GoodIn wsL_law (wsV RL 74 RX4 yX4_atom wsX4_atom) := goodIn_app (goodIn_of _ (by decide +kernel)) ggL_law_X4_atom
set_option maxRecDepth 20000 in
theorem ggL_law_L_has : GoodIn wsL_law wsL_has := goodIn_ca (goodIn_r _ [130, 131, 132, 133, 134, 2, 135, 16, 136, 137, 138, 139, 140, 141, 142, 143, 144, 145, 146, 147, 148, 149, 150, 15, 151, 35, 152, 153, 154, 155, 30, 39, 40, 156, 157, 158, 159, 160, 161, 162, 163, 164, 551, 552, 553, 554, 555, 577, 578, 579, 580, 581, 582, 583, 584, 585, 586] (by decide +kernel) (by decide +kernel)) (goodIn_sub (fun _ h => List.mem_append_left _ (List.mem_append_right _ h)) (by decide +kernel))
set_option maxRecDepth 20000 in
theorem gL_law_L_has : GoodIn wsL_law (va_wsS RL 75 yL_has wsL_has) := goodIn_app (goodIn_of _ (by decide +kernel)) ggL_law_L_has
set_option maxRecDepth 20000 in
theorem ggL_law_X4_has : GoodIn wsL_law wsX4_has := goodIn_r _ [168, 56, 169, 170, 171, 5, 172, 94, 173, 174, 175, 176, 123, 95, 96, 97, 98, 99, 177, 178, 179, 180, 181, 182, 183, 184, 62, 58, 185, 186, 187, 188, 63, 57, 189, 190, 191, 192, 193, 64, 194, 195, 196, 197, 65, 54, 66, 55, 198, 199, 200, 201, 202, 203, 204, 205, 206, 207, 208, 209, 210, 556, 557, 558, 559, 560, 561, 562, 563, 564, 565, 566, 567, 568, 569, 570, 571, 572, 573, 574, 575, 576] (by decide +kernel) (by decide +kernel)
set_option maxRecDepth 20000 in
theorem gL_law_X4_has : GoodIn wsL_law (wsV RL 78 RX4 yX4_has wsX4_has) := goodIn_app (goodIn_of _ (by decide +kernel)) ggL_law_X4_has
set_option maxRecDepth 20000 in
theorem ggL_law_L_includes : GoodIn wsL_law wsL_includes := goodIn_ca (goodIn_r _ [213, 131, 214, 215, 216, 2, 217, 16, 136, 137, 138, 139, 140, 141, 142, 218, 219, 220, 15, 221, 36, 88, 89, 222, 223, 224, 225, 39, 40, 156, 157, 152, 153, 154, 155, 30, 158, 159, 160, 161, 162, 163, 164, 551, 552, 553, 554, 555, 577, 578, 579, 580, 581, 582, 583, 584, 585, 586] (by decide +kernel) (by decide +kernel)) (goodIn_sub (fun _ h => List.mem_append_left _ (List.mem_append_right _ h)) (by decide +kernel))
set_option maxRecDepth 20000 in
theorem gL_law_L_includes : GoodIn wsL_law (va_wsS RL 79 yL_includes wsL_includes) := goodIn_app (goodIn_of _ (by decide +kernel)) ggL_law_L_includes
set_option maxRecDepth 20000 in
theorem ggL_law_X4_includes : GoodIn wsL_law wsX4_includes := goodIn_r _ [229, 57, 169, 170, 171, 5, 172, 94, 95, 96, 97, 98, 99, 177, 178, 179, 180, 181, 182, 183, 184, 62, 58, 185, 186, 187, 188, 63, 189, 190, 191, 192, 193, 64, 123, 56, 194, 195, 196, 197, 65, 54, 66, 55, 198, 199, 200, 201, 202, 203, 204, 205, 206, 207, 208, 209, 210, 556, 557, 558, 559, 560, 561, 562, 563, 564, 565, 566, 567, 568, 569, 570, 571, 572, 573, 574, 575, 576] (by decide +kernel) (by decide +kernel)
set_option maxRecDepth 20000 in
theorem gL_law_X4_includes : GoodIn wsL_law (wsV RL 81 RX4 yX4_includes wsX4_includes) := goodIn_app (goodIn_of _ (by decide +kernel)) ggL_law_X4_includes
set_option maxRecDepth 20000 in
theorem ggL_law_L_one : GoodIn wsL_law wsL_one := goodIn_ca (goodIn_r _ [232, 131, 233, 234, 235, 2, 236, 16, 136, 137, 138, 139, 140, 141, 142, 237, 238, 239, 15, 240, 37, 38, 88, 89, 241, 242, 243, 244, 245, 246, 247, 248, 30, 222, 223, 224, 225, 39, 40, 156, 157, 152, 153, 154, 155, 158, 159, 160, 161, 162, 163, 164, 551, 552, 553, 554, 555, 577, 578, 579, 580, 581, 582, 583, 584, 585, 586] (by decide +kernel) (by decide +kernel)) (goodIn_sub (fun _ h => List.mem_append_left _ (List.mem_append_right _ h)) (by decide +kernel))
set_option maxRecDepth 20000 in
theorem gL_law_L_one : GoodIn wsL_law (va_wsS RL 82 yL_one wsL_one) := goodIn_app (goodIn_of _ (by decide +kernel)) ggL_law_L_one
set_option maxRecDepth 20000 in
theorem ggL_law_X4_one : GoodIn wsL_law wsX4_one := goodIn_r _ [252, 169, 170, 171, 5, 172, 94, 95, 96, 97, 98, 99, 177, 178, 179, 180, 181, 182, 183, 184, 62, 58, 185, 186, 187, 188, 63, 57, 189, 190, 191, 192, 193, 64, 123, 56, 194, 195, 196, 197, 65, 54, 66, 55, 198, 199, 200, 201, 202, 203, 204, 205, 253, 254, 255, 256, 210, 556, 557, 558, 559, 560, 561, 562, 563, 564, 565, 566, 567, 568, 569, 570, 571, 572, 573, 574, 575, 576] (by decide +kernel) (by decide +kernel)
set_option maxRecDepth 20000 in
theorem gL_law_X4_one : GoodIn wsL_law (wsV RL 84 RX4 yX4_one wsX4_one) := goodIn_app (goodIn_of _ (by decide +kernel)) ggL_law_X4_one
set_option maxRecDepth 20000 in
theorem ggL_law_X3_shrink : GoodIn wsL_law wsX3_shrink := goodIn_r _ [260, 16, 261, 262, 263, 15, 264, 30, 38, 265, 266, 267, 268, 269, 270, 271, 272, 39, 156, 2, 157, 273, 238, 239, 240, 37, 88, 89, 241, 242, 243, 244, 245, 246, 247, 248, 222, 223, 224, 225, 40, 152, 153, 154, 155, 158, 159, 160, 161, 162, 163, 164, 551, 552, 553, 554, 555, 577, 578, 579, 580, 581, 582, 583, 584, 585, 586] (by decide +kernel) (by decide +kernel)
set_option maxRecDepth 20000 in
theorem gL_law_X3_shrink : GoodIn wsL_law (wsV RL 85 RX3 yX3_shrink wsX3_shrink) := goodIn_app (goodIn_of _ (by decide +kernel)) ggL_law_X3_shrink
set_option maxRecDepth 20000 in
theorem ggL_law_X4_shrink : GoodIn wsL_law wsX4_shrink := goodIn_r _ [277, 99, 94, 62, 177, 178, 179, 5, 180, 181, 182, 183, 184, 58, 185, 186, 187, 188, 63, 57, 189, 190, 191, 192, 193, 64, 123, 56, 194, 195, 196, 197, 65, 54, 66, 55, 278, 279, 280, 281, 253, 254, 255, 256, 210, 556, 557, 558, 559, 560, 561, 562, 563, 564, 565, 566, 567, 568, 569, 570, 571, 572, 573, 574, 575, 576] (by decide +kernel) (by decide +kernel)
set_option maxRecDepth 20000 in
theorem gL_law_X4_shrink : GoodIn wsL_law (wsV RL 88 RX4 yX4_shrink wsX4_shrink) := goodIn_app (goodIn_of _ (by decide +kernel)) ggL_law_X4_shrink
set_option maxRecDepth 20000 in
theorem ggL_law_L_copy : GoodIn wsL_law wsL_copy := goodIn_ca (goodIn_ca (goodIn_r _ [284, 131, 74, 285, 286, 287, 2, 288, 20, 16, 136, 137, 138, 139, 140, 141, 142, 79, 80, 81, 82, 83, 289, 290, 291, 19, 292, 293, 294, 295, 44, 296, 297, 298, 15, 299, 30, 33, 39, 300, 301, 302, 303, 38, 156, 157, 88, 89, 304, 305, 306, 307, 35, 308, 309, 310, 311, 40, 31, 34, 312, 313, 314, 315, 316, 317, 318, 319, 159, 160, 161, 162, 163, 164, 320, 321, 322, 323, 324, 325, 326, 327, 328, 329, 330, 331, 332, 245, 246, 247, 248, 333, 85, 86, 87, 36, 37, 334, 335, 336, 337, 338, 45, 339, 340, 341, 342, 343, 344, 345, 116, 117, 118, 346, 347, 348, 349, 350, 149, 150, 151, 152, 153, 154, 155, 158, 351, 352, 353, 354, 355, 356, 219, 220, 221, 222, 223, 224, 225, 551, 552, 553, 554, 555, 577, 578, 579, 580, 581, 582, 583, 584, 585, 586, 587, 588] (by decide +kernel) (by decide +kernel)) (goodIn_sub (fun _ h => List.mem_append_left _ (List.mem_append_right _ h)) (by decide +kernel))) (goodIn_sub (fun _ h => List.mem_append_left _ (List.mem_append_left _ (List.mem_append_right _ h))) (by decide +kernel))
set_option maxRecDepth 20000 in
theorem gL_law_L_copy : GoodIn wsL_law (va_wsS RL 89 yL_copy wsL_copy) := goodIn_app (goodIn_of _ (by decide +kernel)) ggL_law_L_copy
set_option maxRecDepth 20000 in
theorem ggL_law_X4_copy : GoodIn wsL_law wsX4_copy := goodIn_r _ [360, 65, 62, 94, 123, 68, 56, 69, 66, 169, 170, 171, 5, 172, 95, 96, 97, 98, 99, 177, 178, 179, 180, 181, 182, 183, 184, 58, 185, 186, 187, 188, 63, 57, 189, 190, 191, 192, 193, 64, 194, 195, 196, 197, 54, 55, 361, 362, 363, 364, 100, 101, 102, 103, 124, 125, 126, 127, 365, 366, 367, 368, 206, 207, 208, 209, 210, 556, 557, 558, 559, 560, 561, 562, 563, 564, 565, 566, 567, 568, 569, 570, 571, 572, 573, 574, 575, 576] (by decide +kernel) (by decide +kernel)
set_option maxRecDepth 20000 in
theorem gL_law_X4_copy : GoodIn wsL_law (wsV RL 91 RX4 yX4_copy wsX4_copy) := goodIn_app (goodIn_of _ (by decide +kernel)) ggL_law_X4_copy
set_option maxRecDepth 20000 in
theorem ggL_law_X3_mark : GoodIn wsL_law wsX3_mark := goodIn_r _ [372, 25, 26, 16, 373, 374, 375, 15, 376, 30, 31, 33, 377, 378, 379, 380, 34, 35, 36, 37, 38, 39, 40, 551, 552, 553, 554, 555, 577, 578, 579, 580, 581, 582, 583, 584, 585, 586] (by decide +kernel) (by decide +kernel)
set_option maxRecDepth 20000 in
theorem gL_law_X3_mark : GoodIn wsL_law (wsV RL 92 RX3 yX3_mark wsX3_mark) := goodIn_app (goodIn_of _ (by decide +kernel)) ggL_law_X3_mark
