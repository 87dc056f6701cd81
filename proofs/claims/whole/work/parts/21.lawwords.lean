theorem wsL_law_x0 : ∀ w ∈ (vx_atS RX5 58 "java/lang/IllegalStateException" ["java/lang/RuntimeException", "java/lang/Exception"]).filter goodWord, w ∈ lw_tbl := by decide +kernel
theorem wsL_law_x1 : ∀ w ∈ (vx_atS RX5 146 "java/lang/IllegalArgumentException" ["java/lang/RuntimeException", "java/lang/Exception"]).filter goodWord, w ∈ lw_tbl := by decide +kernel
theorem wsL_law_x2 : ∀ w ∈ (vx_atS RX5 84 "java/lang/IndexOutOfBoundsException" ["java/lang/RuntimeException", "java/lang/Exception"]).filter goodWord, w ∈ lw_tbl := by decide +kernel
theorem wsL_law_in : ∀ w ∈ wsL_law, w ∈ lw_tbl := fun w h => (List.mem_append.mp h).elim (fun h => (List.mem_append.mp h).elim (fun h => (List.mem_append.mp h).elim (fun h => wsL_law_in0 w h) (fun h => wsL_law_x0 w h)) (fun h => wsL_law_x1 w h)) (fun h => wsL_law_x2 w h)
theorem inlX0 : ∀ w ∈ wsX00, w ∈ wsL_law := fun _ h => List.mem_append_left _ (List.mem_append_left _ (List.mem_append_left _ (List.mem_append_left _ (List.mem_append_left _ (List.mem_append_left _ (List.mem_append_left _ (List.mem_append_right _ h)))))))
theorem inX0 : ∀ w ∈ wsX00, w ∈ lw_tbl := fun w h => wsL_law_in w (inlX0 w h)
theorem inlX1 : ∀ w ∈ wsX10, w ∈ wsL_law := fun _ h => List.mem_append_left _ (List.mem_append_left _ (List.mem_append_left _ (List.mem_append_left _ (List.mem_append_right _ h))))
theorem inX1 : ∀ w ∈ wsX10, w ∈ lw_tbl := fun w h => wsL_law_in w (inlX1 w h)
theorem inlX2 : ∀ w ∈ wsX20, w ∈ wsL_law := fun _ h => List.mem_append_left _ (List.mem_append_left _ (List.mem_append_left _ (List.mem_append_left _ (List.mem_append_left _ (List.mem_append_right _ h)))))
theorem inX2 : ∀ w ∈ wsX20, w ∈ lw_tbl := fun w h => wsL_law_in w (inlX2 w h)
theorem inlX3 : ∀ w ∈ wsX30, w ∈ wsL_law := fun _ h => List.mem_append_left _ (List.mem_append_left _ (List.mem_append_left _ (List.mem_append_left _ (List.mem_append_left _ (List.mem_append_left _ (List.mem_append_left _ (List.mem_append_left _ (List.mem_append_right _ h))))))))
theorem inX3 : ∀ w ∈ wsX30, w ∈ lw_tbl := fun w h => wsL_law_in w (inlX3 w h)
theorem inlX4 : ∀ w ∈ wsX40, w ∈ wsL_law := fun _ h => List.mem_append_left _ (List.mem_append_left _ (List.mem_append_left _ (List.mem_append_left _ (List.mem_append_left _ (List.mem_append_left _ (List.mem_append_right _ h))))))
theorem inX4 : ∀ w ∈ wsX40, w ∈ lw_tbl := fun w h => wsL_law_in w (inlX4 w h)
theorem inlX5 : ∀ w ∈ wsX50, w ∈ wsL_law := fun _ h => List.mem_append_left _ (List.mem_append_left _ (List.mem_append_left _ (List.mem_append_left _ (List.mem_append_left _ (List.mem_append_left _ (List.mem_append_left _ (List.mem_append_left _ (List.mem_append_left _ (List.mem_append_left _ (List.mem_append_right _ h))))))))))
theorem inX5 : ∀ w ∈ wsX50, w ∈ lw_tbl := fun w h => wsL_law_in w (inlX5 w h)
theorem inlX6 : ∀ w ∈ wsX60, w ∈ wsL_law := fun _ h => List.mem_append_left _ (List.mem_append_left _ (List.mem_append_left _ (List.mem_append_left _ (List.mem_append_left _ (List.mem_append_left _ (List.mem_append_left _ (List.mem_append_left _ (List.mem_append_left _ (List.mem_append_right _ h)))))))))
theorem inX6 : ∀ w ∈ wsX60, w ∈ lw_tbl := fun w h => wsL_law_in w (inlX6 w h)
set_option maxRecDepth 20000 in
theorem ggL_law_X5_init : GoodIn wsL_law wsX5_init := goodIn_r _ [9, 10, 11, 12, 13, 14, 15, 16, 17, 18, 19, 20, 21, 22, 23, 24, 25, 26, 27, 28, 29, 30, 31, 32, 33, 34, 35, 36, 37, 38, 39, 40, 41, 42, 43, 44, 45, 46, 47, 48, 49, 50, 51, 52, 53, 54, 55, 56, 57, 58, 59, 60, 61, 62, 63, 64, 65, 66, 67, 68, 69, 70, 587, 588, 589, 590, 546, 547, 548, 549, 550, 591, 592, 593, 594, 595, 596, 597, 598, 599, 600, 601, 602, 603, 604, 605, 606, 607, 608, 609, 610, 611, 612, 613, 614, 615, 616, 617, 618, 619, 620] (by decide +kernel) (by decide +kernel)
set_option maxRecDepth 20000 in
theorem gL_law_X5_init : GoodIn wsL_law (wsX5_init) := ggL_law_X5_init
set_option maxRecDepth 20000 in
theorem ggL_law_X6_init : GoodIn wsL_law wsX6_init := goodIn_r _ [73, 74, 11, 12, 36, 75, 76, 77, 78, 79, 45, 80, 81, 82, 83, 84, 85, 86, 87, 88, 89, 90, 551, 552, 553, 554, 555, 556, 557, 558, 559, 560, 561, 562, 563, 564, 565, 566, 567, 568, 569, 570, 571, 572, 573, 574, 575, 576, 577, 578, 579, 580, 581, 582, 583, 584, 585, 586] (by decide +kernel) (by decide +kernel)
set_option maxRecDepth 20000 in
theorem gL_law_X6_init : GoodIn wsL_law (wsX6_init) := ggL_law_X6_init
set_option maxRecDepth 20000 in
theorem ggL_law_L_meal : GoodIn wsL_law wsL_meal := goodIn_ca (goodIn_ca (goodIn_r _ [94, 95, 96, 97, 98, 99, 2, 100, 101, 102, 16, 103, 104, 105, 106, 107, 108, 15, 109, 110, 37, 111, 38, 546, 547, 548, 549, 550, 587, 588, 589, 590] (by decide +kernel) (by decide +kernel)) (goodIn_sub (fun _ h => List.mem_append_left _ (List.mem_append_left _ (List.mem_append_right _ h))) (by decide +kernel))) (goodIn_sub (fun _ h => List.mem_append_left _ (List.mem_append_right _ h)) (by decide +kernel))
set_option maxRecDepth 20000 in
theorem gL_law_L_meal : GoodIn wsL_law (va_wsS RL 71 yL_meal wsL_meal) := goodIn_app (goodIn_of _ (by decide +kernel)) ggL_law_L_meal
set_option maxRecDepth 20000 in
theorem ggL_law_X6_meal : GoodIn wsL_law wsX6_meal := goodIn_r _ [115, 116, 117, 75, 76, 118, 119, 5, 120, 121, 122, 123, 124, 551, 552, 553, 554, 555, 556, 557, 558, 559, 560, 561, 562, 563, 564, 565, 566, 567, 568, 569, 570, 571, 572, 573, 574, 575, 576, 577, 578, 579, 580, 581, 582, 583, 584, 585, 586] (by decide +kernel) (by decide +kernel)
set_option maxRecDepth 20000 in
theorem gL_law_X6_meal : GoodIn wsL_law (wsV RL 76 RX6 yX6_meal wsX6_meal) := goodIn_app (goodIn_of _ (by decide +kernel)) ggL_law_X6_meal
set_option maxRecDepth 20000 in
theorem ggL_law_X6_thrown : GoodIn wsL_law wsX6_thrown := goodIn_r _ [128, 116, 551, 552, 553, 554, 555, 556, 557, 558, 559, 560, 561, 562, 563, 564, 565, 566, 567, 568, 569, 570, 571, 572, 573, 574, 575, 576, 577, 578, 579, 580, 581, 582, 583, 584, 585, 586] (by decide +kernel) (by decide +kernel)
set_option maxRecDepth 20000 in
theorem gL_law_X6_thrown : GoodIn wsL_law (wsV RL 77 RX6 yX6_thrown wsX6_thrown) := goodIn_app (goodIn_of _ (by decide +kernel)) ggL_law_X6_thrown
set_option maxRecDepth 20000 in
theorem ggL_law_L_ate : GoodIn wsL_law wsL_ate := goodIn_ca (goodIn_ca (goodIn_r _ [131, 132, 95, 133, 134, 135, 2, 136, 20, 137, 138, 139, 140, 141, 142, 16, 103, 104, 105, 106, 107, 143, 19, 144, 145, 43, 546, 547, 548, 549, 550, 587, 588, 589, 590, 591, 592, 593, 594, 595, 596, 597] (by decide +kernel) (by decide +kernel)) (goodIn_sub (fun _ h => List.mem_append_right _ h) (by decide +kernel))) (goodIn_sub (fun _ h => List.mem_append_left _ (List.mem_append_right _ h)) (by decide +kernel))
set_option maxRecDepth 20000 in
theorem gL_law_L_ate : GoodIn wsL_law (va_wsS RL 81 yL_ate wsL_ate) := goodIn_app (goodIn_of _ (by decide +kernel)) ggL_law_L_ate
set_option maxRecDepth 20000 in
theorem ggL_law_X6_ate : GoodIn wsL_law wsX6_ate := goodIn_r _ [149, 77, 150, 151, 152, 5, 153, 117, 116, 121, 122, 123, 124, 551, 552, 553, 554, 555, 556, 557, 558, 559, 560, 561, 562, 563, 564, 565, 566, 567, 568, 569, 570, 571, 572, 573, 574, 575, 576, 577, 578, 579, 580, 581, 582, 583, 584, 585, 586] (by decide +kernel) (by decide +kernel)
set_option maxRecDepth 20000 in
theorem gL_law_X6_ate : GoodIn wsL_law (wsV RL 83 RX6 yX6_ate wsX6_ate) := goodIn_app (goodIn_of _ (by decide +kernel)) ggL_law_X6_ate
set_option maxRecDepth 20000 in
theorem ggL_law_L_day : GoodIn wsL_law wsL_day := goodIn_ca (goodIn_ca (goodIn_r _ [156, 95, 96, 157, 158, 159, 2, 160, 101, 102, 20, 103, 104, 105, 106, 107, 161, 19, 162, 163, 44, 164, 47, 43, 546, 547, 548, 549, 550, 591, 592, 593, 594, 595, 596, 597] (by decide +kernel) (by decide +kernel)) (goodIn_sub (fun _ h => List.mem_append_left _ (List.mem_append_left _ (List.mem_append_right _ h))) (by decide +kernel))) (goodIn_sub (fun _ h => List.mem_append_left _ (List.mem_append_right _ h)) (by decide +kernel))
set_option maxRecDepth 20000 in
theorem gL_law_L_day : GoodIn wsL_law (va_wsS RL 84 yL_day wsL_day) := goodIn_app (goodIn_of _ (by decide +kernel)) ggL_law_L_day
set_option maxRecDepth 20000 in
theorem ggL_law_X6_day : GoodIn wsL_law wsX6_day := goodIn_r _ [168, 116, 169, 78, 80, 79, 117, 77, 118, 119, 5, 120, 121, 122, 123, 124, 551, 552, 553, 554, 555, 556, 557, 558, 559, 560, 561, 562, 563, 564, 565, 566, 567, 568, 569, 570, 571, 572, 573, 574, 575, 576, 577, 578, 579, 580, 581, 582, 583, 584, 585, 586] (by decide +kernel) (by decide +kernel)
set_option maxRecDepth 20000 in
theorem gL_law_X6_day : GoodIn wsL_law (wsV RL 87 RX6 yX6_day wsX6_day) := goodIn_app (goodIn_of _ (by decide +kernel)) ggL_law_X6_day
set_option maxRecDepth 20000 in
theorem ggL_law_L_drop : GoodIn wsL_law wsL_drop := goodIn_ca (goodIn_r _ [172, 132, 173, 174, 175, 2, 176, 141, 142, 20, 177, 19, 178, 179, 46, 180, 546, 547, 548, 549, 550, 591, 592, 593, 594, 595, 596, 597] (by decide +kernel) (by decide +kernel)) (goodIn_sub (fun _ h => List.mem_append_right _ h) (by decide +kernel))
set_option maxRecDepth 20000 in
theorem gL_law_L_drop : GoodIn wsL_law (va_wsS RL 88 yL_drop wsL_drop) := goodIn_app (goodIn_of _ (by decide +kernel)) ggL_law_L_drop
set_option maxRecDepth 20000 in
theorem ggL_law_X6_drop : GoodIn wsL_law wsX6_drop := goodIn_r _ [184, 116, 169, 80, 121, 122, 123, 5, 124, 551, 552, 553, 554, 555, 556, 557, 558, 559, 560, 561, 562, 563, 564, 565, 566, 567, 568, 569, 570, 571, 572, 573, 574, 575, 576, 577, 578, 579, 580, 581, 582, 583, 584, 585, 586] (by decide +kernel) (by decide +kernel)
set_option maxRecDepth 20000 in
theorem gL_law_X6_drop : GoodIn wsL_law (wsV RL 90 RX6 yX6_drop wsX6_drop) := goodIn_app (goodIn_of _ (by decide +kernel)) ggL_law_X6_drop
set_option maxRecDepth 20000 in
theorem ggL_law_L_leaves : GoodIn wsL_law wsL_leaves := goodIn_ca (goodIn_r _ [187, 132, 188, 189, 190, 2, 191, 24, 137, 138, 139, 140, 141, 142, 16, 192, 23, 193, 194, 195, 196, 197, 198, 199, 52, 200, 201, 202, 203, 53, 204, 205, 206, 207, 208, 54, 209, 210, 211, 212, 213, 19, 214, 215, 46, 44, 216, 217, 218, 47, 219, 220, 221, 222, 223, 546, 547, 548, 549, 550, 587, 588, 589, 590, 598, 599, 600, 601, 602, 591, 592, 593, 594, 595, 596, 597] (by decide +kernel) (by decide +kernel)) (goodIn_sub (fun _ h => List.mem_append_right _ h) (by decide +kernel))
set_option maxRecDepth 20000 in
theorem gL_law_L_leaves : GoodIn wsL_law (va_wsS RL 91 yL_leaves wsL_leaves) := goodIn_app (goodIn_of _ (by decide +kernel)) ggL_law_L_leaves
set_option maxRecDepth 20000 in
theorem ggL_law_X6_leaves : GoodIn wsL_law wsX6_leaves := goodIn_r _ [227, 150, 151, 152, 5, 153, 117, 116, 228, 229, 230, 231, 232, 233, 234, 235, 236, 237, 238, 239, 240, 241, 242, 243, 244, 169, 80, 78, 79, 551, 552, 553, 554, 555, 556, 557, 558, 559, 560, 561, 562, 563, 564, 565, 566, 567, 568, 569, 570, 571, 572, 573, 574, 575, 576, 577, 578, 579, 580, 581, 582, 583, 584, 585, 586] (by decide +kernel) (by decide +kernel)
set_option maxRecDepth 20000 in
theorem gL_law_X6_leaves : GoodIn wsL_law (wsV RL 93 RX6 yX6_leaves wsX6_leaves) := goodIn_app (goodIn_of _ (by decide +kernel)) ggL_law_X6_leaves
set_option maxRecDepth 20000 in
theorem ggL_law_L_split : GoodIn wsL_law wsL_split := goodIn_ca (goodIn_ca (goodIn_r _ [247, 132, 95, 248, 249, 250, 2, 251, 24, 137, 138, 139, 140, 141, 142, 16, 103, 104, 105, 106, 107, 252, 23, 253, 254, 195, 196, 197, 198, 199, 52, 200, 201, 202, 203, 53, 204, 205, 206, 207, 208, 54, 209, 210, 211, 212, 213, 19, 214, 215, 46, 44, 216, 217, 218, 47, 219, 220, 221, 222, 546, 547, 548, 549, 550, 587, 588, 589, 590, 598, 599, 600, 601, 602, 591, 592, 593, 594, 595, 596, 597] (by decide +kernel) (by decide +kernel)) (goodIn_sub (fun _ h => List.mem_append_right _ h) (by decide +kernel))) (goodIn_sub (fun _ h => List.mem_append_left _ (List.mem_append_right _ h)) (by decide +kernel))
set_option maxRecDepth 20000 in
theorem gL_law_L_split : GoodIn wsL_law (va_wsS RL 94 yL_split wsL_split) := goodIn_app (goodIn_of _ (by decide +kernel)) ggL_law_L_split
set_option maxRecDepth 20000 in
theorem ggL_law_X6_split : GoodIn wsL_law wsX6_split := goodIn_r _ [258, 259, 81, 150, 151, 152, 5, 153, 117, 116, 118, 119, 120, 121, 122, 123, 124, 260, 261, 262, 263, 264, 265, 232, 233, 234, 235, 236, 237, 238, 239, 240, 241, 242, 243, 244, 169, 80, 78, 79, 551, 552, 553, 554, 555, 556, 557, 558, 559, 560, 561, 562, 563, 564, 565, 566, 567, 568, 569, 570, 571, 572, 573, 574, 575, 576, 577, 578, 579, 580, 581, 582, 583, 584, 585, 586] (by decide +kernel) (by decide +kernel)
set_option maxRecDepth 20000 in
theorem gL_law_X6_split : GoodIn wsL_law (wsV RL 97 RX6 yX6_split wsX6_split) := goodIn_app (goodIn_of _ (by decide +kernel)) ggL_law_X6_split
set_option maxRecDepth 20000 in
theorem ggL_law_L_leaf : GoodIn wsL_law wsL_leaf := goodIn_ca (goodIn_ca (goodIn_r _ [268, 132, 95, 269, 270, 271, 2, 272, 20, 24, 137, 138, 139, 140, 141, 142, 16, 103, 104, 105, 106, 107, 273, 23, 274, 275, 195, 196, 197, 198, 199, 52, 200, 201, 202, 203, 53, 204, 205, 206, 207, 208, 54, 209, 210, 211, 212, 213, 19, 214, 215, 46, 44, 216, 217, 218, 47, 219, 220, 221, 222, 276, 277, 278, 48, 164, 279, 280, 281, 282, 283, 284, 285, 286, 287, 288, 289, 546, 547, 548, 549, 550, 587, 588, 589, 590, 598, 599, 600, 601, 602, 591, 592, 593, 594, 595, 596, 597] (by decide +kernel) (by decide +kernel)) (goodIn_sub (fun _ h => List.mem_append_right _ h) (by decide +kernel))) (goodIn_sub (fun _ h => List.mem_append_left _ (List.mem_append_right _ h)) (by decide +kernel))
set_option maxRecDepth 20000 in
theorem gL_law_L_leaf : GoodIn wsL_law (va_wsS RL 98 yL_leaf wsL_leaf) := goodIn_app (goodIn_of _ (by decide +kernel)) ggL_law_L_leaf
set_option maxRecDepth 20000 in
theorem ggL_law_X6_leaf : GoodIn wsL_law wsX6_leaf := goodIn_r _ [293, 169, 79, 150, 151, 152, 5, 153, 117, 116, 118, 119, 120, 121, 122, 123, 124, 260, 261, 262, 263, 264, 265, 259, 81, 232, 233, 234, 235, 236, 237, 238, 239, 240, 241, 242, 243, 244, 80, 78, 294, 295, 296, 297, 551, 552, 553, 554, 555, 556, 557, 558, 559, 560, 561, 562, 563, 564, 565, 566, 567, 568, 569, 570, 571, 572, 573, 574, 575, 576, 577, 578, 579, 580, 581, 582, 583, 584, 585, 586] (by decide +kernel) (by decide +kernel)
set_option maxRecDepth 20000 in
theorem gL_law_X6_leaf : GoodIn wsL_law (wsV RL 100 RX6 yX6_leaf wsX6_leaf) := goodIn_app (goodIn_of _ (by decide +kernel)) ggL_law_X6_leaf
set_option maxRecDepth 20000 in
theorem ggL_law_L_size : GoodIn wsL_law wsL_size := goodIn_ca (goodIn_ca (goodIn_r _ [300, 95, 96, 301, 302, 303, 2, 304, 101, 102, 28, 103, 104, 105, 106, 107, 305, 27, 306, 307, 58, 308, 59, 546, 547, 548, 549, 550, 603, 604, 605, 606, 607, 608, 609, 610, 611, 612, 613, 614, 615, 616, 617] (by decide +kernel) (by decide +kernel)) (goodIn_sub (fun _ h => List.mem_append_left _ (List.mem_append_left _ (List.mem_append_right _ h))) (by decide +kernel))) (goodIn_sub (fun _ h => List.mem_append_left _ (List.mem_append_right _ h)) (by decide +kernel))
set_option maxRecDepth 20000 in
theorem gL_law_L_size : GoodIn wsL_law (va_wsS RL 101 yL_size wsL_size) := goodIn_app (goodIn_of _ (by decide +kernel)) ggL_law_L_size
set_option maxRecDepth 20000 in
theorem ggL_law_X6_size : GoodIn wsL_law wsX6_size := goodIn_r _ [312, 116, 313, 82, 83, 121, 122, 123, 5, 124, 551, 552, 553, 554, 555, 556, 557, 558, 559, 560, 561, 562, 563, 564, 565, 566, 567, 568, 569, 570, 571, 572, 573, 574, 575, 576, 577, 578, 579, 580, 581, 582, 583, 584, 585, 586] (by decide +kernel) (by decide +kernel)
set_option maxRecDepth 20000 in
theorem gL_law_X6_size : GoodIn wsL_law (wsV RL 103 RX6 yX6_size wsX6_size) := goodIn_app (goodIn_of _ (by decide +kernel)) ggL_law_X6_size
set_option maxRecDepth 20000 in
theorem ggL_law_L_prices : GoodIn wsL_law wsL_prices := goodIn_ca (goodIn_r _ [316, 95, 317, 318, 319, 2, 320, 28, 103, 104, 105, 106, 107, 546, 547, 548, 549, 550, 603, 604, 605, 606, 607, 608, 609, 610, 611, 612, 613, 614, 615, 616, 617] (by decide +kernel) (by decide +kernel)) (goodIn_sub (fun _ h => List.mem_append_left _ (List.mem_append_right _ h)) (by decide +kernel))
set_option maxRecDepth 20000 in
theorem gL_law_L_prices : GoodIn wsL_law (va_wsS RL 104 yL_prices wsL_prices) := goodIn_app (goodIn_of _ (by decide +kernel)) ggL_law_L_prices
set_option maxRecDepth 20000 in
theorem ggL_law_X6_prices : GoodIn wsL_law wsX6_prices := goodIn_r _ [324, 116, 84, 85, 121, 122, 123, 5, 124, 551, 552, 553, 554, 555, 556, 557, 558, 559, 560, 561, 562, 563, 564, 565, 566, 567, 568, 569, 570, 571, 572, 573, 574, 575, 576, 577, 578, 579, 580, 581, 582, 583, 584, 585, 586] (by decide +kernel) (by decide +kernel)
set_option maxRecDepth 20000 in
theorem gL_law_X6_prices : GoodIn wsL_law (wsV RL 107 RX6 yX6_prices wsX6_prices) := goodIn_app (goodIn_of _ (by decide +kernel)) ggL_law_X6_prices
set_option maxRecDepth 20000 in
theorem ggL_law_L_cost : GoodIn wsL_law wsL_cost := goodIn_ca (goodIn_ca (goodIn_r _ [327, 132, 95, 328, 329, 330, 2, 331, 28, 332, 333, 334, 335, 336, 20, 24, 137, 138, 139, 140, 141, 142, 16, 103, 104, 105, 106, 107, 273, 23, 274, 275, 195, 196, 197, 198, 199, 52, 200, 201, 202, 203, 53, 204, 205, 206, 207, 208, 54, 209, 210, 211, 212, 213, 19, 214, 215, 46, 44, 216, 217, 218, 47, 219, 220, 221, 222, 337, 27, 338, 339, 62, 340, 341, 63, 342, 343, 344, 345, 346, 64, 347, 348, 349, 350, 308, 351, 352, 353, 354, 58, 59, 355, 356, 357, 65, 358, 359, 360, 361, 362, 363, 364, 365, 366, 60, 61, 367, 368, 369, 370, 546, 547, 548, 549, 550, 603, 604, 605, 606, 607, 608, 609, 610, 611, 612, 613, 614, 615, 616, 617, 587, 588, 589, 590, 598, 599, 600, 601, 602, 591, 592, 593, 594, 595, 596, 597] (by decide +kernel) (by decide +kernel)) (goodIn_sub (fun _ h => List.mem_append_right _ h) (by decide +kernel))) (goodIn_sub (fun _ h => List.mem_append_left _ (List.mem_append_right _ h)) (by decide +kernel))
set_option maxRecDepth 20000 in
theorem gL_law_L_cost : GoodIn wsL_law (va_wsS RL 108 yL_cost wsL_cost) := goodIn_app (goodIn_of _ (by decide +kernel)) ggL_law_L_cost
set_option maxRecDepth 20000 in
theorem ggL_law_X6_cost : GoodIn wsL_law wsX6_cost := goodIn_r _ [374, 375, 376, 377, 378, 379, 5, 380, 150, 151, 152, 153, 117, 116, 118, 119, 120, 121, 122, 123, 124, 381, 382, 383, 384, 169, 86, 313, 82, 83, 260, 261, 262, 263, 264, 265, 259, 81, 232, 233, 234, 235, 236, 237, 238, 239, 240, 241, 242, 243, 244, 80, 78, 79, 294, 295, 296, 297, 385, 386, 387, 388, 84, 85, 389, 390, 391, 392, 393, 394, 87, 395, 396, 397, 398, 399, 400, 401, 402, 551, 552, 553, 554, 555, 556, 557, 558, 559, 560, 561, 562, 563, 564, 565, 566, 567, 568, 569, 570, 571, 572, 573, 574, 575, 576, 577, 578, 579, 580, 581, 582, 583, 584, 585, 586] (by decide +kernel) (by decide +kernel)
set_option maxRecDepth 20000 in
theorem gL_law_X6_cost : GoodIn wsL_law (wsV RL 110 RX6 yX6_cost wsX6_cost) := goodIn_app (goodIn_of _ (by decide +kernel)) ggL_law_X6_cost
set_option maxRecDepth 20000 in
theorem ggL_law_L_pots : GoodIn wsL_law wsL_pots := goodIn_ca (goodIn_ca (goodIn_r _ [405, 132, 95, 406, 407, 408, 2, 409, 28, 333, 334, 335, 336, 20, 24, 137, 138, 139, 140, 141, 142, 16, 103, 104, 105, 106, 107, 273, 23, 274, 275, 195, 196, 197, 198, 199, 52, 200, 201, 202, 203, 53, 204, 205, 206, 207, 208, 54, 209, 210, 211, 212, 213, 19, 214, 215, 46, 44, 216, 217, 218, 47, 219, 220, 221, 222, 337, 27, 338, 339, 62, 340, 341, 63, 342, 343, 344, 345, 346, 64, 347, 348, 349, 350, 308, 351, 352, 353, 354, 58, 59, 355, 356, 357, 65, 358, 359, 360, 361, 362, 363, 364, 365, 366, 60, 61, 367, 368, 369, 370, 410, 411, 412, 546, 547, 548, 549, 550, 603, 604, 605, 606, 607, 608, 609, 610, 611, 612, 613, 614, 615, 616, 617, 587, 588, 589, 590, 598, 599, 600, 601, 602, 591, 592, 593, 594, 595, 596, 597] (by decide +kernel) (by decide +kernel)) (goodIn_sub (fun _ h => List.mem_append_right _ h) (by decide +kernel))) (goodIn_sub (fun _ h => List.mem_append_left _ (List.mem_append_right _ h)) (by decide +kernel))
set_option maxRecDepth 20000 in
theorem gL_law_L_pots : GoodIn wsL_law (va_wsS RL 111 yL_pots wsL_pots) := goodIn_app (goodIn_of _ (by decide +kernel)) ggL_law_L_pots
set_option maxRecDepth 20000 in
theorem ggL_law_X6_pots : GoodIn wsL_law wsX6_pots := goodIn_r _ [416, 313, 87, 377, 378, 379, 5, 380, 150, 151, 152, 153, 117, 116, 118, 119, 120, 121, 122, 123, 124, 381, 382, 383, 384, 169, 376, 375, 86, 82, 83, 260, 261, 262, 263, 264, 265, 259, 81, 232, 233, 234, 235, 236, 237, 238, 239, 240, 241, 242, 243, 244, 80, 78, 79, 294, 295, 296, 297, 385, 386, 387, 388, 84, 85, 389, 390, 391, 392, 393, 394, 395, 396, 397, 398, 399, 400, 401, 402, 551, 552, 553, 554, 555, 556, 557, 558, 559, 560, 561, 562, 563, 564, 565, 566, 567, 568, 569, 570, 571, 572, 573, 574, 575, 576, 577, 578, 579, 580, 581, 582, 583, 584, 585, 586] (by decide +kernel) (by decide +kernel)
set_option maxRecDepth 20000 in
theorem gL_law_X6_pots : GoodIn wsL_law (wsV RL 114 RX6 yX6_pots wsX6_pots) := goodIn_app (goodIn_of _ (by decide +kernel)) ggL_law_X6_pots
set_option maxRecDepth 20000 in
theorem ggL_law_X5_ladles : GoodIn wsL_law wsX5_ladles := goodIn_r _ [420, 16, 421, 15, 422, 423, 111, 424, 425, 426, 427, 37, 38, 428, 429, 430, 431, 39, 432, 288, 202, 289, 433, 434, 435, 436, 546, 547, 548, 549, 550, 587, 588, 589, 590] (by decide +kernel) (by decide +kernel)
set_option maxRecDepth 20000 in
theorem gL_law_X5_ladles : GoodIn wsL_law (wsV RL 115 RX5 yX5_ladles wsX5_ladles) := goodIn_app (goodIn_of _ (by decide +kernel)) ggL_law_X5_ladles
set_option maxRecDepth 20000 in
theorem ggL_law_X6_ladles : GoodIn wsL_law wsX6_ladles := goodIn_r _ [440, 116, 441, 442, 443, 444, 5, 445, 117, 75, 76, 446, 447, 448, 449, 89, 88, 450, 451, 452, 453, 551, 552, 553, 554, 555, 556, 557, 558, 559, 560, 561, 562, 563, 564, 565, 566, 567, 568, 569, 570, 571, 572, 573, 574, 575, 576, 577, 578, 579, 580, 581, 582, 583, 584, 585, 586] (by decide +kernel) (by decide +kernel)
set_option maxRecDepth 20000 in
theorem gL_law_X6_ladles : GoodIn wsL_law (wsV RL 118 RX6 yX6_ladles wsX6_ladles) := goodIn_app (goodIn_of _ (by decide +kernel)) ggL_law_X6_ladles
set_option maxRecDepth 20000 in
theorem ggL_law_L_ladle : GoodIn wsL_law wsL_ladle := goodIn_ca (goodIn_r _ [456, 132, 457, 458, 459, 2, 460, 16, 137, 138, 139, 140, 141, 142, 421, 15, 422, 423, 111, 424, 425, 426, 427, 37, 38, 428, 429, 430, 431, 39, 432, 288, 202, 289, 433, 434, 435, 436, 546, 547, 548, 549, 550, 587, 588, 589, 590] (by decide +kernel) (by decide +kernel)) (goodIn_sub (fun _ h => List.mem_append_right _ h) (by decide +kernel))
set_option maxRecDepth 20000 in
theorem gL_law_L_ladle : GoodIn wsL_law (va_wsS RL 119 yL_ladle wsL_ladle) := goodIn_app (goodIn_of _ (by decide +kernel)) ggL_law_L_ladle
set_option maxRecDepth 20000 in
theorem ggL_law_X6_ladle : GoodIn wsL_law wsX6_ladle := goodIn_r _ [464, 89, 150, 151, 152, 5, 153, 117, 116, 442, 443, 444, 445, 75, 76, 441, 446, 447, 448, 449, 88, 450, 451, 452, 453, 551, 552, 553, 554, 555, 556, 557, 558, 559, 560, 561, 562, 563, 564, 565, 566, 567, 568, 569, 570, 571, 572, 573, 574, 575, 576, 577, 578, 579, 580, 581, 582, 583, 584, 585, 586] (by decide +kernel) (by decide +kernel)
set_option maxRecDepth 20000 in
theorem gL_law_X6_ladle : GoodIn wsL_law (wsV RL 121 RX6 yX6_ladle wsX6_ladle) := goodIn_app (goodIn_of _ (by decide +kernel)) ggL_law_X6_ladle
set_option maxRecDepth 20000 in
theorem ggL_law_L_come : GoodIn wsL_law wsL_come := goodIn_ca (goodIn_r _ [467, 95, 468, 469, 470, 2, 471, 32, 103, 104, 105, 106, 107, 472, 31, 473, 474, 69, 475, 546, 547, 548, 549, 550, 618, 619, 620] (by decide +kernel) (by decide +kernel)) (goodIn_sub (fun _ h => List.mem_append_left _ (List.mem_append_right _ h)) (by decide +kernel))
set_option maxRecDepth 20000 in
theorem gL_law_L_come : GoodIn wsL_law (va_wsS RL 122 yL_come wsL_come) := goodIn_app (goodIn_of _ (by decide +kernel)) ggL_law_L_come
set_option maxRecDepth 20000 in
theorem ggL_law_X6_come : GoodIn wsL_law wsX6_come := goodIn_r _ [479, 116, 480, 90, 121, 122, 123, 5, 124, 551, 552, 553, 554, 555, 556, 557, 558, 559, 560, 561, 562, 563, 564, 565, 566, 567, 568, 569, 570, 571, 572, 573, 574, 575, 576, 577, 578, 579, 580, 581, 582, 583, 584, 585, 586] (by decide +kernel) (by decide +kernel)
set_option maxRecDepth 20000 in
theorem gL_law_X6_come : GoodIn wsL_law (wsV RL 124 RX6 yX6_come wsX6_come) := goodIn_app (goodIn_of _ (by decide +kernel)) ggL_law_X6_come
set_option maxRecDepth 20000 in
theorem ggL_law_L_hatch : GoodIn wsL_law wsL_hatch := goodIn_ca (goodIn_r _ [483, 95, 484, 485, 486, 2, 487, 32, 103, 104, 105, 106, 107, 488, 31, 489, 490, 70, 475, 69, 491, 288, 202, 289, 492, 210, 211, 212, 493, 494, 495, 496, 497, 498, 499, 546, 547, 548, 549, 550, 618, 619, 620] (by decide +kernel) (by decide +kernel)) (goodIn_sub (fun _ h => List.mem_append_left _ (List.mem_append_right _ h)) (by decide +kernel))
set_option maxRecDepth 20000 in
theorem gL_law_L_hatch : GoodIn wsL_law (va_wsS RL 125 yL_hatch wsL_hatch) := goodIn_app (goodIn_of _ (by decide +kernel)) ggL_law_L_hatch
set_option maxRecDepth 20000 in
theorem ggL_law_X6_hatch : GoodIn wsL_law wsX6_hatch := goodIn_r _ [503, 116, 504, 505, 506, 507, 121, 122, 123, 5, 124, 508, 509, 510, 511, 480, 90, 551, 552, 553, 554, 555, 556, 557, 558, 559, 560, 561, 562, 563, 564, 565, 566, 567, 568, 569, 570, 571, 572, 573, 574, 575, 576, 577, 578, 579, 580, 581, 582, 583, 584, 585, 586] (by decide +kernel) (by decide +kernel)
set_option maxRecDepth 20000 in
theorem gL_law_X6_hatch : GoodIn wsL_law (wsV RL 127 RX6 yX6_hatch wsX6_hatch) := goodIn_app (goodIn_of _ (by decide +kernel)) ggL_law_X6_hatch
set_option maxRecDepth 20000 in
theorem ggL_law_L_serve : GoodIn wsL_law wsL_serve := goodIn_ca (goodIn_r _ [514, 95, 515, 516, 517, 2, 518, 106, 107, 32, 519, 31, 520, 521, 522, 488, 489, 490, 70, 475, 69, 491, 288, 202, 289, 492, 210, 211, 212, 493, 494, 495, 496, 497, 498, 499, 546, 547, 548, 549, 550, 618, 619, 620] (by decide +kernel) (by decide +kernel)) (goodIn_sub (fun _ h => List.mem_append_left _ (List.mem_append_right _ h)) (by decide +kernel))
set_option maxRecDepth 20000 in
theorem gL_law_L_serve : GoodIn wsL_law (va_wsS RL 128 yL_serve wsL_serve) := goodIn_app (goodIn_of _ (by decide +kernel)) ggL_law_L_serve
set_option maxRecDepth 20000 in
theorem ggL_law_X6_serve : GoodIn wsL_law wsX6_serve := goodIn_r _ [526, 116, 504, 121, 122, 123, 5, 124, 508, 509, 510, 511, 505, 506, 507, 480, 90, 551, 552, 553, 554, 555, 556, 557, 558, 559, 560, 561, 562, 563, 564, 565, 566, 567, 568, 569, 570, 571, 572, 573, 574, 575, 576, 577, 578, 579, 580, 581, 582, 583, 584, 585, 586] (by decide +kernel) (by decide +kernel)
set_option maxRecDepth 20000 in
theorem gL_law_X6_serve : GoodIn wsL_law (wsV RL 130 RX6 yX6_serve wsX6_serve) := goodIn_app (goodIn_of _ (by decide +kernel)) ggL_law_X6_serve
set_option maxRecDepth 20000 in
theorem ggL_law_X5_empty : GoodIn wsL_law wsX5_empty := goodIn_r _ [530, 32, 531, 31, 532, 533, 475, 546, 547, 548, 549, 550, 618, 619, 620] (by decide +kernel) (by decide +kernel)
set_option maxRecDepth 20000 in
theorem gL_law_X5_empty : GoodIn wsL_law (wsV RL 131 RX5 yX5_empty wsX5_empty) := goodIn_app (goodIn_of _ (by decide +kernel)) ggL_law_X5_empty
set_option maxRecDepth 20000 in
theorem ggL_law_X6_empty : GoodIn wsL_law wsX6_empty := goodIn_r _ [537, 116, 480, 551, 552, 553, 554, 555, 556, 557, 558, 559, 560, 561, 562, 563, 564, 565, 566, 567, 568, 569, 570, 571, 572, 573, 574, 575, 576, 577, 578, 579, 580, 581, 582, 583, 584, 585, 586] (by decide +kernel) (by decide +kernel)
set_option maxRecDepth 20000 in
theorem gL_law_X6_empty : GoodIn wsL_law (wsV RL 134 RX6 yX6_empty wsX6_empty) := goodIn_app (goodIn_of _ (by decide +kernel)) ggL_law_X6_empty
set_option maxRecDepth 20000 in
theorem ggL_law_X5_count : GoodIn wsL_law wsX5_count := goodIn_r _ [541, 16, 20, 28, 32, 546, 547, 548, 549, 550, 587, 588, 589, 590, 591, 592, 593, 594, 595, 596, 597, 603, 604, 605, 606, 607, 608, 609, 610, 611, 612, 613, 614, 615, 616, 617, 618, 619, 620] (by decide +kernel) (by decide +kernel)
set_option maxRecDepth 20000 in
theorem gL_law_X5_count : GoodIn wsL_law (wsV RL 135 RX5 yX5_count wsX5_count) := goodIn_app (goodIn_of _ (by decide +kernel)) ggL_law_X5_count
set_option maxRecDepth 20000 in
theorem ggL_law_X6_count : GoodIn wsL_law wsX6_count := goodIn_r _ [545, 116, 117, 169, 80, 313, 480, 551, 552, 553, 554, 555, 556, 557, 558, 559, 560, 561, 562, 563, 564, 565, 566, 567, 568, 569, 570, 571, 572, 573, 574, 575, 576, 577, 578, 579, 580, 581, 582, 583, 584, 585, 586] (by decide +kernel) (by decide +kernel)
set_option maxRecDepth 20000 in
theorem gL_law_X6_count : GoodIn wsL_law (wsV RL 138 RX6 yX6_count wsX6_count) := goodIn_app (goodIn_of _ (by decide +kernel)) ggL_law_X6_count

