set_option maxRecDepth 20000 in
theorem ggX0_factOf_J7_fill_53178 : GoodIn wsX0_factOf wsJ7_fill_53178 := goodIn_r _ [6] (by decide +kernel) (by decide +kernel)
set_option maxRecDepth 20000 in
theorem gX0_factOf_J7_fill_53178 : GoodIn wsX0_factOf (va_wsS RX0 35 yJ7_fill_53178 wsJ7_fill_53178) := goodIn_app (goodIn_of _ (by decide +kernel)) ggX0_factOf_J7_fill_53178
set_option maxRecDepth 20000 in
theorem ggX0_factOf_X0_isInKnot : GoodIn wsX0_factOf wsX0_isInKnot := goodIn_r _ [11, 12, 13, 30, 31, 32, 33, 34, 35, 36] (by decide +kernel) (by decide +kernel)
set_option maxRecDepth 20000 in
theorem gX0_factOf_X0_isInKnot : GoodIn wsX0_factOf (wsV RX0 41 RX0 yX0_isInKnot wsX0_isInKnot) := goodIn_app (goodIn_of _ (by decide +kernel)) ggX0_factOf_X0_isInKnot
set_option maxRecDepth 20000 in
theorem ggX0_factOf_X0_eatenOn : GoodIn wsX0_factOf wsX0_eatenOn := goodIn_r _ [17, 18, 30, 31, 32, 33, 34, 35, 36] (by decide +kernel) (by decide +kernel)
set_option maxRecDepth 20000 in
theorem gX0_factOf_X0_eatenOn : GoodIn wsX0_factOf (wsV RX0 45 RX0 yX0_eatenOn wsX0_eatenOn) := goodIn_app (goodIn_of _ (by decide +kernel)) ggX0_factOf_X0_eatenOn
set_option maxRecDepth 20000 in
theorem ggX0_factOf_X0_noteFacts : GoodIn wsX0_factOf wsX0_noteFacts := goodIn_r _ [22, 1, 23, 24, 25, 26, 27, 28, 29, 30, 31, 32, 33, 34, 35, 36] (by decide +kernel) (by decide +kernel)
set_option maxRecDepth 20000 in
theorem gX0_factOf_X0_noteFacts : GoodIn wsX0_factOf (wsV RX0 49 RX0 yX0_noteFacts wsX0_noteFacts) := goodIn_app (goodIn_of _ (by decide +kernel)) ggX0_factOf_X0_noteFacts
set_option maxRecDepth 20000 in
theorem ggX1_leastServed_X1_factOf : GoodIn wsX1_leastServed wsX1_factOf := goodIn_r _ [5, 6, 7, 8, 9, 10, 11, 12, 13, 14, 15, 16, 17, 18, 19, 4, 20, 21, 22, 23, 24, 25, 26] (by decide +kernel) (by decide +kernel)
set_option maxRecDepth 20000 in
theorem gX1_leastServed_X1_factOf : GoodIn wsX1_leastServed (wsV RX1 22 RX1 yX1_factOf wsX1_factOf) := goodIn_app (goodIn_of _ (by decide +kernel)) ggX1_leastServed_X1_factOf
set_option maxRecDepth 20000 in
theorem ggX1_factOf_J7_fill_53178 : GoodIn wsX1_factOf wsJ7_fill_53178 := goodIn_r _ [11] (by decide +kernel) (by decide +kernel)
set_option maxRecDepth 20000 in
theorem gX1_factOf_J7_fill_53178 : GoodIn wsX1_factOf (va_wsS RX1 26 yJ7_fill_53178 wsJ7_fill_53178) := goodIn_app (goodIn_of _ (by decide +kernel)) ggX1_factOf_J7_fill_53178
set_option maxRecDepth 20000 in
theorem ggX1_factOf_X1_noteWaits : GoodIn wsX1_factOf wsX1_noteWaits := goodIn_r _ [16, 3, 1, 4, 5, 6, 7, 17, 18, 15, 19, 20, 21, 22] (by decide +kernel) (by decide +kernel)
set_option maxRecDepth 20000 in
theorem gX1_factOf_X1_noteWaits : GoodIn wsX1_factOf (wsV RX1 32 RX1 yX1_noteWaits wsX1_noteWaits) := goodIn_app (goodIn_of _ (by decide +kernel)) ggX1_factOf_X1_noteWaits
set_option maxRecDepth 20000 in
theorem ggX1_noteWaits_X1_waitsOfFirst : GoodIn wsX1_noteWaits wsX1_waitsOfFirst := goodIn_r _ [10] (by decide +kernel) (by decide +kernel)
set_option maxRecDepth 20000 in
theorem gX1_noteWaits_X1_waitsOfFirst : GoodIn wsX1_noteWaits (va_wsS RX1 41 yX1_waitsOfFirst wsX1_waitsOfFirst) := goodIn_app (goodIn_of _ (by decide +kernel)) ggX1_noteWaits_X1_waitsOfFirst
set_option maxRecDepth 20000 in
theorem ggX2_readLeaf_J7_fill_53178 : GoodIn wsX2_readLeaf wsJ7_fill_53178 := goodIn_r _ [8] (by decide +kernel) (by decide +kernel)
set_option maxRecDepth 20000 in
theorem gX2_readLeaf_J7_fill_53178 : GoodIn wsX2_readLeaf (va_wsS RX2 40 yJ7_fill_53178 wsJ7_fill_53178) := goodIn_app (goodIn_of _ (by decide +kernel)) ggX2_readLeaf_J7_fill_53178
set_option maxRecDepth 20000 in
theorem ggX2_readLeaf_X0_isInKnot : GoodIn wsX2_readLeaf wsX0_isInKnot := goodIn_r _ [12, 13, 14, 34, 35, 36, 37, 38, 39, 40] (by decide +kernel) (by decide +kernel)
set_option maxRecDepth 20000 in
theorem gX2_readLeaf_X0_isInKnot_n51 : GoodIn wsX2_readLeaf (wsX0_isInKnot) := ggX2_readLeaf_X0_isInKnot
set_option maxRecDepth 20000 in
theorem ggX2_readLeaf_X0_eatenOn : GoodIn wsX2_readLeaf wsX0_eatenOn := goodIn_r _ [17, 18, 34, 35, 36, 37, 38, 39, 40] (by decide +kernel) (by decide +kernel)
set_option maxRecDepth 20000 in
theorem gX2_readLeaf_X0_eatenOn_n55 : GoodIn wsX2_readLeaf (wsX0_eatenOn) := ggX2_readLeaf_X0_eatenOn
set_option maxRecDepth 20000 in
theorem ggX2_findBest_X2_mostPots : GoodIn wsX2_findBest wsX2_mostPots := goodIn_r _ [7, 8, 41, 42, 43, 44, 45, 46, 47, 48, 49, 50, 51, 52, 53, 54, 55] (by decide +kernel) (by decide +kernel)
set_option maxRecDepth 20000 in
theorem gX2_findBest_X2_mostPots : GoodIn wsX2_findBest (wsV RX2 69 RX2 yX2_mostPots wsX2_mostPots) := goodIn_app (goodIn_of _ (by decide +kernel)) ggX2_findBest_X2_mostPots
set_option maxRecDepth 20000 in
theorem ggX2_findBest_X2_weighTried : GoodIn wsX2_findBest wsX2_weighTried := goodIn_r _ [12, 8, 2, 13, 14, 15, 1, 16, 17, 18, 19, 20, 21, 22, 23, 24, 25, 26, 6, 27, 28, 29, 30, 31, 32, 33, 34, 35, 36, 37, 38, 39, 40, 41, 42, 43, 44, 45, 46, 47, 48, 49, 50, 51, 52, 53, 54, 55] (by decide +kernel) (by decide +kernel)
set_option maxRecDepth 20000 in
theorem gX2_findBest_X2_weighTried : GoodIn wsX2_findBest (wsV RX2 72 RX2 yX2_weighTried wsX2_weighTried) := goodIn_app (goodIn_of _ (by decide +kernel)) ggX2_findBest_X2_weighTried
set_option maxRecDepth 20000 in
theorem ggX2_weighTried_X2_wasteAndWant : GoodIn wsX2_weighTried wsX2_wasteAndWant := goodIn_r _ [19, 20, 21, 22, 23, 24, 25, 26, 5, 27, 28, 33, 34, 35, 36, 37, 38, 39, 40, 41, 42, 43, 44, 45, 46, 47] (by decide +kernel) (by decide +kernel)
set_option maxRecDepth 20000 in
theorem gX2_weighTried_X2_wasteAndWant : GoodIn wsX2_weighTried (wsV RX2 76 RX2 yX2_wasteAndWant wsX2_wasteAndWant) := goodIn_app (goodIn_of _ (by decide +kernel)) ggX2_weighTried_X2_wasteAndWant
set_option maxRecDepth 20000 in
theorem ggX2_weighTried_X2_isBetter : GoodIn wsX2_weighTried wsX2_isBetter := goodIn_r _ [32, 7, 8, 9, 33, 34, 35, 36, 37, 38, 39, 40, 41, 42, 43, 44, 45, 46, 47] (by decide +kernel) (by decide +kernel)
set_option maxRecDepth 20000 in
theorem gX2_weighTried_X2_isBetter : GoodIn wsX2_weighTried (wsV RX2 80 RX2 yX2_isBetter wsX2_isBetter) := goodIn_app (goodIn_of _ (by decide +kernel)) ggX2_weighTried_X2_isBetter
set_option maxRecDepth 20000 in
theorem ggX3_deal_X3_canMeet : GoodIn wsX3_deal wsX3_canMeet := goodIn_r _ [6, 7, 8, 22, 23, 24, 25] (by decide +kernel) (by decide +kernel)
set_option maxRecDepth 20000 in
theorem gX3_deal_X3_canMeet : GoodIn wsX3_deal (wsV RX3 25 RX3 yX3_canMeet wsX3_canMeet) := goodIn_app (goodIn_of _ (by decide +kernel)) ggX3_deal_X3_canMeet
set_option maxRecDepth 20000 in
theorem ggX3_deal_X3_dealFrom : GoodIn wsX3_deal wsX3_dealFrom := goodIn_r _ [12, 1, 13, 14, 15, 16, 17, 18, 19, 20, 5, 21, 2, 3, 4, 6, 7, 8, 9, 10, 11, 22, 23, 24, 25] (by decide +kernel) (by decide +kernel)
set_option maxRecDepth 20000 in
theorem gX3_deal_X3_dealFrom : GoodIn wsX3_deal (wsV RX3 29 RX3 yX3_dealFrom wsX3_dealFrom) := goodIn_app (goodIn_of _ (by decide +kernel)) ggX3_deal_X3_dealFrom
set_option maxRecDepth 20000 in
theorem ggX3_dealFrom_X3_canTake : GoodIn wsX3_dealFrom wsX3_canTake := goodIn_r _ [11, 2, 12, 13, 14, 10, 15, 16, 17, 21, 22, 23, 24] (by decide +kernel) (by decide +kernel)
set_option maxRecDepth 20000 in
theorem gX3_dealFrom_X3_canTake : GoodIn wsX3_dealFrom (wsV RX3 33 RX3 yX3_canTake wsX3_canTake) := goodIn_app (goodIn_of _ (by decide +kernel)) ggX3_dealFrom_X3_canTake
set_option maxRecDepth 20000 in
theorem ggX3_dealFrom_X3_dealFrom : GoodIn wsX3_dealFrom wsX3_dealFrom := goodIn_r _ [0, 1, 2, 3, 4, 5, 6, 7, 8, 9, 10, 11, 12, 13, 14, 15, 16, 17, 18, 19, 20, 21, 22, 23, 24] (by decide +kernel) (by decide +kernel)
set_option maxRecDepth 20000 in
theorem gX3_dealFrom_X3_dealFrom : GoodIn wsX3_dealFrom (wsV RX3 29 RX3 yX3_dealFrom wsX3_dealFrom) := goodIn_app (goodIn_of _ (by decide +kernel)) ggX3_dealFrom_X3_dealFrom
set_option maxRecDepth 20000 in
theorem ggX3_canTake_X3_canMeet : GoodIn wsX3_canTake wsX3_canMeet := goodIn_r _ [6, 7, 8, 9, 10, 11, 12] (by decide +kernel) (by decide +kernel)
set_option maxRecDepth 20000 in
theorem gX3_canTake_X3_canMeet : GoodIn wsX3_canTake (wsV RX3 25 RX3 yX3_canMeet wsX3_canMeet) := goodIn_app (goodIn_of _ (by decide +kernel)) ggX3_canTake_X3_canMeet
set_option maxRecDepth 20000 in
theorem ggX4_leavesBelow_X4_markThatParts : GoodIn wsX4_leavesBelow wsX4_markThatParts := goodIn_r _ [5, 6, 7, 8, 9, 10, 11, 12, 13, 14, 15, 16, 4, 17, 18, 19, 20, 21, 22, 23, 24, 25, 26, 27, 28, 29, 30, 31, 32, 33, 34, 35, 36, 40, 41, 42, 43, 44, 45, 46, 47, 48, 49, 50, 51] (by decide +kernel) (by decide +kernel)
set_option maxRecDepth 20000 in
theorem gX4_leavesBelow_X4_markThatParts : GoodIn wsX4_leavesBelow (wsV RX4 22 RX4 yX4_markThatParts wsX4_markThatParts) := goodIn_app (goodIn_of _ (by decide +kernel)) ggX4_leavesBelow_X4_markThatParts
set_option maxRecDepth 20000 in
theorem ggX4_leavesBelow_X4_leavesBelow : GoodIn wsX4_leavesBelow wsX4_leavesBelow := goodIn_r _ [0, 1, 2, 3, 4, 5, 6, 7, 8, 9, 10, 11, 12, 13, 14, 15, 16, 17, 18, 19, 20, 21, 22, 23, 24, 25, 26, 27, 28, 29, 30, 31, 32, 33, 34, 35, 36, 37, 38, 39, 40, 41, 42, 43, 44, 45, 46, 47, 48, 49, 50, 51] (by decide +kernel) (by decide +kernel)
set_option maxRecDepth 20000 in
theorem gX4_leavesBelow_X4_leavesBelow : GoodIn wsX4_leavesBelow (wsV RX4 26 RX4 yX4_leavesBelow wsX4_leavesBelow) := goodIn_app (goodIn_of _ (by decide +kernel)) ggX4_leavesBelow_X4_leavesBelow
set_option maxRecDepth 20000 in
theorem ggX4_markOnTheWay_X4_markThatParts : GoodIn wsX4_markOnTheWay wsX4_markThatParts := goodIn_r _ [5, 6, 7, 8, 9, 10, 11, 12, 13, 14, 15, 16, 4, 17, 18, 19, 20, 21, 22, 23, 24, 25, 26, 27, 28, 29, 30, 31, 32, 33, 34, 35, 36, 37, 38, 39, 40, 41, 42, 43, 44, 45, 46, 47, 48] (by decide +kernel) (by decide +kernel)
set_option maxRecDepth 20000 in
theorem gX4_markOnTheWay_X4_markThatParts : GoodIn wsX4_markOnTheWay (wsV RX4 22 RX4 yX4_markThatParts wsX4_markThatParts) := goodIn_app (goodIn_of _ (by decide +kernel)) ggX4_markOnTheWay_X4_markThatParts
set_option maxRecDepth 20000 in
theorem ggX4_askedOnTheWay_X4_markThatParts : GoodIn wsX4_askedOnTheWay wsX4_markThatParts := goodIn_r _ [5, 6, 7, 8, 9, 10, 11, 12, 13, 14, 15, 16, 4, 17, 18, 19, 20, 21, 22, 23, 24, 25, 26, 27, 28, 29, 30, 31, 32, 33, 34, 35, 36, 37, 38, 39, 40, 41, 42, 43, 44, 45, 46, 47, 48] (by decide +kernel) (by decide +kernel)
set_option maxRecDepth 20000 in
theorem gX4_askedOnTheWay_X4_markThatParts : GoodIn wsX4_askedOnTheWay (wsV RX4 22 RX4 yX4_markThatParts wsX4_markThatParts) := goodIn_app (goodIn_of _ (by decide +kernel)) ggX4_askedOnTheWay_X4_markThatParts
set_option maxRecDepth 20000 in
theorem ggX4_markThatParts_X4_readKnot : GoodIn wsX4_markThatParts wsX4_readKnot := goodIn_r _ [13, 1, 8, 2, 7, 14, 15, 16, 17, 18, 19, 20, 21, 22, 23, 24, 25, 26, 27, 28, 29, 30, 31, 12, 32, 33, 34, 35, 36, 37, 38, 39, 40, 41, 42, 43, 44] (by decide +kernel) (by decide +kernel)
set_option maxRecDepth 20000 in
theorem gX4_markThatParts_X4_readKnot : GoodIn wsX4_markThatParts (wsV RX4 30 RX4 yX4_readKnot wsX4_readKnot) := goodIn_app (goodIn_of _ (by decide +kernel)) ggX4_markThatParts_X4_readKnot
set_option maxRecDepth 20000 in
theorem ggX4_readKnot_J7_fill_53178 : GoodIn wsX4_readKnot wsJ7_fill_53178 := goodIn_r _ [9] (by decide +kernel) (by decide +kernel)
set_option maxRecDepth 20000 in
theorem gX4_readKnot_J7_fill_53178 : GoodIn wsX4_readKnot (va_wsS RX4 47 yJ7_fill_53178 wsJ7_fill_53178) := goodIn_app (goodIn_of _ (by decide +kernel)) ggX4_readKnot_J7_fill_53178
set_option maxRecDepth 20000 in
theorem ggX4_readKnot_X0_isInKnot : GoodIn wsX4_readKnot wsX0_isInKnot := goodIn_r _ [13, 14, 15, 30, 31, 32, 33, 34, 35, 36] (by decide +kernel) (by decide +kernel)
set_option maxRecDepth 20000 in
theorem gX4_readKnot_X0_isInKnot_n58 : GoodIn wsX4_readKnot (wsX0_isInKnot) := ggX4_readKnot_X0_isInKnot
set_option maxRecDepth 20000 in
theorem ggX4_readKnot_X0_eatenOn : GoodIn wsX4_readKnot wsX0_eatenOn := goodIn_r _ [18, 19, 30, 31, 32, 33, 34, 35, 36] (by decide +kernel) (by decide +kernel)
set_option maxRecDepth 20000 in
theorem gX4_readKnot_X0_eatenOn_n65 : GoodIn wsX4_readKnot (wsX0_eatenOn) := ggX4_readKnot_X0_eatenOn
set_option maxRecDepth 20000 in
theorem ggX4_readKnot_X4_readDay : GoodIn wsX4_readKnot wsX4_readDay := goodIn_r _ [24, 1, 2, 3, 4, 25, 26, 27, 28, 29] (by decide +kernel) (by decide +kernel)
set_option maxRecDepth 20000 in
theorem gX4_readKnot_X4_readDay : GoodIn wsX4_readKnot (wsV RX4 68 RX4 yX4_readDay wsX4_readDay) := goodIn_app (goodIn_of _ (by decide +kernel)) ggX4_readKnot_X4_readDay
set_option maxRecDepth 20000 in
theorem ggX5_init_X3_init : GoodIn wsX5_init wsX3_init := goodIn_r _ [25, 26, 2, 3, 27, 28, 29, 30, 62, 63, 64, 65] (by decide +kernel) (by decide +kernel)
set_option maxRecDepth 20000 in
theorem gX5_init_X3_init_n9 : GoodIn wsX5_init (wsX3_init) := ggX5_init_X3_init
set_option maxRecDepth 20000 in
theorem ggX5_init_X0_init : GoodIn wsX5_init wsX0_init := goodIn_r _ [32, 33, 2, 3, 27, 34, 35, 36, 37, 38, 39, 71, 72, 73, 74, 75, 76, 77] (by decide +kernel) (by decide +kernel)
set_option maxRecDepth 20000 in
theorem gX5_init_X0_init_n18 : GoodIn wsX5_init (wsX0_init) := ggX5_init_X0_init
set_option maxRecDepth 20000 in
theorem ggX5_init_X4_init : GoodIn wsX5_init wsX4_init := goodIn_r _ [41, 42, 2, 3, 27, 43, 44, 45, 78, 79, 80, 81, 82] (by decide +kernel) (by decide +kernel)
set_option maxRecDepth 20000 in
theorem gX5_init_X4_init_n25 : GoodIn wsX5_init (wsX4_init) := ggX5_init_X4_init
set_option maxRecDepth 20000 in
theorem ggX5_init_X2_init : GoodIn wsX5_init wsX2_init := goodIn_r _ [47, 48, 2, 3, 27, 49, 50, 51, 52, 53, 54, 55, 56, 83, 84, 85, 86, 87, 88, 89, 90, 91, 92, 93, 94, 95, 96, 97] (by decide +kernel) (by decide +kernel)
set_option maxRecDepth 20000 in
theorem gX5_init_X2_init_n34 : GoodIn wsX5_init (wsX2_init) := ggX5_init_X2_init
set_option maxRecDepth 20000 in
theorem ggX5_init_X1_init : GoodIn wsX5_init wsX1_init := goodIn_r _ [58, 59, 2, 3, 27, 60, 61, 98, 99, 100] (by decide +kernel) (by decide +kernel)
set_option maxRecDepth 20000 in
theorem gX5_init_X1_init_n41 : GoodIn wsX5_init (wsX1_init) := ggX5_init_X1_init
set_option maxRecDepth 20000 in
theorem ggX5_meal_X5_needWithin : GoodIn wsX5_meal wsX5_needWithin := goodIn_ca (goodIn_r _ [7, 8, 9] (by decide +kernel) (by decide +kernel)) (goodIn_sub (fun _ h => List.mem_cons_of_mem _ (List.mem_append_right _ h)) (by decide +kernel))
set_option maxRecDepth 20000 in
theorem gX5_meal_X5_needWithin : GoodIn wsX5_meal (va_wsS RX5 46 yX5_needWithin wsX5_needWithin) := goodIn_app (goodIn_of _ (by decide +kernel)) ggX5_meal_X5_needWithin
set_option maxRecDepth 20000 in
theorem ggX5_meal_X3_add : GoodIn wsX5_meal wsX3_add := goodIn_r _ [13, 14, 15, 16, 22, 23, 24, 25] (by decide +kernel) (by decide +kernel)
set_option maxRecDepth 20000 in
theorem gX5_meal_X3_add_n61 : GoodIn wsX5_meal (wsX3_add) := ggX5_meal_X3_add
set_option maxRecDepth 20000 in
theorem ggX5_ate_X5_needMeal : GoodIn wsX5_ate wsX5_needMeal := goodIn_ca (goodIn_r _ [6, 7, 8, 9, 20, 21, 22, 23, 24, 25, 26, 27, 28] (by decide +kernel) (by decide +kernel)) (goodIn_sub (fun _ h => List.mem_cons_of_mem _ (List.mem_append_left _ (List.mem_append_right _ h))) (by decide +kernel))
set_option maxRecDepth 20000 in
theorem gX5_ate_X5_needMeal : GoodIn wsX5_ate (wsV RX5 65 RX5 yX5_needMeal wsX5_needMeal) := goodIn_app (goodIn_of _ (by decide +kernel)) ggX5_ate_X5_needMeal
set_option maxRecDepth 20000 in
theorem ggX5_ate_X5_needWithin : GoodIn wsX5_ate wsX5_needWithin := goodIn_ca (goodIn_r _ [12, 13, 14] (by decide +kernel) (by decide +kernel)) (goodIn_sub (fun _ h => List.mem_cons_of_mem _ (List.mem_append_right _ h)) (by decide +kernel))
set_option maxRecDepth 20000 in
theorem gX5_ate_X5_needWithin : GoodIn wsX5_ate (va_wsS RX5 46 yX5_needWithin wsX5_needWithin) := goodIn_app (goodIn_of _ (by decide +kernel)) ggX5_ate_X5_needWithin
set_option maxRecDepth 20000 in
theorem ggX5_ate_X0_tell : GoodIn wsX5_ate wsX0_tell := goodIn_r _ [18, 19, 29, 30, 31, 32, 33, 34, 35] (by decide +kernel) (by decide +kernel)
set_option maxRecDepth 20000 in
theorem gX5_ate_X0_tell_n69 : GoodIn wsX5_ate (wsX0_tell) := ggX5_ate_X0_tell
set_option maxRecDepth 20000 in
theorem ggX5_day_X5_needWithin : GoodIn wsX5_day wsX5_needWithin := goodIn_ca (goodIn_r _ [7, 8, 9] (by decide +kernel) (by decide +kernel)) (goodIn_sub (fun _ h => List.mem_cons_of_mem _ (List.mem_append_right _ h)) (by decide +kernel))
set_option maxRecDepth 20000 in
theorem gX5_day_X5_needWithin : GoodIn wsX5_day (va_wsS RX5 46 yX5_needWithin wsX5_needWithin) := goodIn_app (goodIn_of _ (by decide +kernel)) ggX5_day_X5_needWithin
set_option maxRecDepth 20000 in
theorem ggX5_day_X0_add : GoodIn wsX5_day wsX0_add := goodIn_r _ [13, 14, 15, 16, 17, 23, 24, 25, 26, 27, 28, 29] (by decide +kernel) (by decide +kernel)
set_option maxRecDepth 20000 in
theorem gX5_day_X0_add_n77 : GoodIn wsX5_day (wsX0_add) := ggX5_day_X0_add
set_option maxRecDepth 20000 in
theorem ggX5_drop_X0_takeAway : GoodIn wsX5_drop wsX0_takeAway := goodIn_r _ [7, 8, 9, 15, 16, 17, 18, 19, 20, 21] (by decide +kernel) (by decide +kernel)
set_option maxRecDepth 20000 in
theorem gX5_drop_X0_takeAway_n85 : GoodIn wsX5_drop (wsX0_takeAway) := ggX5_drop_X0_takeAway
set_option maxRecDepth 20000 in
theorem ggX5_leaves_X5_needMeal : GoodIn wsX5_leaves wsX5_needMeal := goodIn_ca (goodIn_r _ [6, 7, 8, 9, 50, 51, 52, 53, 54, 55, 56, 57, 58] (by decide +kernel) (by decide +kernel)) (goodIn_sub (fun _ h => List.mem_cons_of_mem _ (List.mem_append_right _ h)) (by decide +kernel))
set_option maxRecDepth 20000 in
theorem gX5_leaves_X5_needMeal : GoodIn wsX5_leaves (wsV RX5 65 RX5 yX5_needMeal wsX5_needMeal) := goodIn_app (goodIn_of _ (by decide +kernel)) ggX5_leaves_X5_needMeal
set_option maxRecDepth 20000 in
theorem ggX5_leaves_X4_leavesBelow : GoodIn wsX5_leaves wsX4_leavesBelow := goodIn_r _ [13, 14, 15, 16, 11, 17, 18, 19, 20, 21, 22, 23, 24, 25, 26, 27, 28, 29, 30, 31, 32, 33, 34, 35, 36, 37, 38, 39, 40, 41, 42, 43, 44, 45, 46, 47, 48, 49, 10, 12, 59, 60, 61, 62, 63, 64, 65, 66, 67, 68, 69, 70] (by decide +kernel) (by decide +kernel)
set_option maxRecDepth 20000 in
theorem gX5_leaves_X4_leavesBelow_n89 : GoodIn wsX5_leaves (wsX4_leavesBelow) := ggX5_leaves_X4_leavesBelow
set_option maxRecDepth 20000 in
theorem ggX5_split_X5_needMeal : GoodIn wsX5_split wsX5_needMeal := goodIn_ca (goodIn_r _ [6, 7, 8, 9, 54, 55, 56, 57, 58, 59, 60, 61, 62] (by decide +kernel) (by decide +kernel)) (goodIn_sub (fun _ h => List.mem_cons_of_mem _ (List.mem_append_left _ (List.mem_append_right _ h))) (by decide +kernel))
set_option maxRecDepth 20000 in
theorem gX5_split_X5_needMeal : GoodIn wsX5_split (wsV RX5 65 RX5 yX5_needMeal wsX5_needMeal) := goodIn_app (goodIn_of _ (by decide +kernel)) ggX5_split_X5_needMeal
set_option maxRecDepth 20000 in
theorem ggX5_split_X5_needWithin : GoodIn wsX5_split wsX5_needWithin := goodIn_ca (goodIn_r _ [12, 13, 14] (by decide +kernel) (by decide +kernel)) (goodIn_sub (fun _ h => List.mem_cons_of_mem _ (List.mem_append_right _ h)) (by decide +kernel))
set_option maxRecDepth 20000 in
theorem gX5_split_X5_needWithin : GoodIn wsX5_split (va_wsS RX5 46 yX5_needWithin wsX5_needWithin) := goodIn_app (goodIn_of _ (by decide +kernel)) ggX5_split_X5_needWithin
set_option maxRecDepth 20000 in
theorem ggX5_split_X4_markOnTheWay : GoodIn wsX5_split wsX4_markOnTheWay := goodIn_r _ [18, 19, 20, 21, 16, 22, 23, 24, 25, 26, 27, 28, 29, 30, 31, 32, 33, 34, 35, 36, 37, 38, 39, 40, 41, 42, 43, 44, 45, 46, 47, 48, 49, 50, 51, 52, 53, 63, 64, 65, 66, 67, 68, 69, 70, 71, 72, 73, 74] (by decide +kernel) (by decide +kernel)
set_option maxRecDepth 20000 in
theorem gX5_split_X4_markOnTheWay_n93 : GoodIn wsX5_split (wsX4_markOnTheWay) := ggX5_split_X4_markOnTheWay
set_option maxRecDepth 20000 in
theorem ggX5_leaf_X5_needMeal : GoodIn wsX5_leaf wsX5_needMeal := goodIn_ca (goodIn_r _ [7, 8, 9, 10, 71, 72, 73, 74, 75, 76, 77, 78, 79] (by decide +kernel) (by decide +kernel)) (goodIn_sub (fun _ h => List.mem_cons_of_mem _ (List.mem_append_left _ (List.mem_append_right _ h))) (by decide +kernel))
set_option maxRecDepth 20000 in
theorem gX5_leaf_X5_needMeal : GoodIn wsX5_leaf (wsV RX5 65 RX5 yX5_needMeal wsX5_needMeal) := goodIn_app (goodIn_of _ (by decide +kernel)) ggX5_leaf_X5_needMeal
set_option maxRecDepth 20000 in
theorem ggX5_leaf_X5_needWithin : GoodIn wsX5_leaf wsX5_needWithin := goodIn_ca (goodIn_r _ [13, 14, 15] (by decide +kernel) (by decide +kernel)) (goodIn_sub (fun _ h => List.mem_cons_of_mem _ (List.mem_append_right _ h)) (by decide +kernel))
set_option maxRecDepth 20000 in
theorem gX5_leaf_X5_needWithin : GoodIn wsX5_leaf (va_wsS RX5 46 yX5_needWithin wsX5_needWithin) := goodIn_app (goodIn_of _ (by decide +kernel)) ggX5_leaf_X5_needWithin
set_option maxRecDepth 20000 in
theorem ggX5_leaf_X4_askedOnTheWay : GoodIn wsX5_leaf wsX4_askedOnTheWay := goodIn_r _ [19, 20, 21, 22, 17, 23, 24, 25, 26, 27, 28, 29, 30, 31, 32, 33, 34, 35, 36, 37, 38, 39, 40, 41, 42, 43, 44, 45, 46, 47, 48, 49, 50, 51, 52, 53, 54, 80, 81, 82, 83, 84, 85, 86, 87, 88, 89, 90, 91] (by decide +kernel) (by decide +kernel)
set_option maxRecDepth 20000 in
theorem gX5_leaf_X4_askedOnTheWay_n97 : GoodIn wsX5_leaf (wsX4_askedOnTheWay) := ggX5_leaf_X4_askedOnTheWay
set_option maxRecDepth 20000 in
theorem ggX5_leaf_X0_factOf : GoodIn wsX5_leaf wsX0_factOf := goodIn_r _ [57, 58, 59, 60, 38, 39, 40, 61, 41, 43, 42, 44, 45, 46, 62, 47, 48, 49, 50, 63, 64, 65, 66, 67, 27, 28, 29, 68, 69, 70, 85, 86, 87, 88, 89, 90, 91] (by decide +kernel) (by decide +kernel)
set_option maxRecDepth 20000 in
theorem gX5_leaf_X0_factOf_n100 : GoodIn wsX5_leaf (wsX0_factOf) := ggX5_leaf_X0_factOf
set_option maxRecDepth 20000 in
theorem ggX5_size_X5_needWithin : GoodIn wsX5_size wsX5_needWithin := goodIn_ca (goodIn_r _ [7, 8, 9] (by decide +kernel) (by decide +kernel)) (goodIn_sub (fun _ h => List.mem_cons_of_mem _ (List.mem_append_right _ h)) (by decide +kernel))
set_option maxRecDepth 20000 in
theorem gX5_size_X5_needWithin : GoodIn wsX5_size (va_wsS RX5 46 yX5_needWithin wsX5_needWithin) := goodIn_app (goodIn_of _ (by decide +kernel)) ggX5_size_X5_needWithin
set_option maxRecDepth 20000 in
theorem ggX5_size_X2_add : GoodIn wsX5_size wsX2_add := goodIn_r _ [13, 14, 15, 16, 22, 23, 24, 25, 26, 27, 28, 29, 30, 31, 32, 33, 34, 35, 36] (by decide +kernel) (by decide +kernel)
set_option maxRecDepth 20000 in
theorem gX5_size_X2_add_n108 : GoodIn wsX5_size (wsX2_add) := ggX5_size_X2_add
set_option maxRecDepth 20000 in
theorem ggX5_prices_X5_needWithin : GoodIn wsX5_prices wsX5_needWithin := goodIn_ca (goodIn_r _ [5, 6, 7] (by decide +kernel) (by decide +kernel)) (goodIn_sub (fun _ h => List.mem_cons_of_mem _ (List.mem_append_right _ h)) (by decide +kernel))
set_option maxRecDepth 20000 in
theorem gX5_prices_X5_needWithin : GoodIn wsX5_prices (va_wsS RX5 46 yX5_needWithin wsX5_needWithin) := goodIn_app (goodIn_of _ (by decide +kernel)) ggX5_prices_X5_needWithin
set_option maxRecDepth 20000 in
theorem ggX5_cost_X5_findBestSet : GoodIn wsX5_cost wsX5_findBestSet := goodIn_ca (goodIn_ca (goodIn_r _ [7, 1, 8, 9, 10, 11, 12, 6, 13, 14, 15, 16, 17, 18, 19, 20, 21, 22, 23, 24, 25, 26, 27, 28, 29, 30, 31, 32, 33, 34, 35, 36, 37, 38, 39, 40, 41, 42, 43, 44, 45, 46, 47, 48, 49, 50, 51, 52, 53, 54, 55, 56, 57, 58, 59, 60, 61, 62, 63, 64, 65, 66, 67, 68, 69, 70, 71, 72, 73, 74, 75, 76, 77, 78, 79, 80, 81, 82, 83, 84, 85, 86, 87, 88, 89, 90, 91, 92, 93, 94, 95, 96, 97, 98, 99, 100, 101, 102, 103, 104, 105, 106, 107, 108, 109, 110, 111, 112, 113, 114, 115, 116, 117, 118, 119, 120, 121, 122, 123, 124, 125, 126, 127, 128, 129, 130, 131, 132, 133, 134, 135, 136, 137, 138, 139, 140] (by decide +kernel) (by decide +kernel)) (goodIn_sub (fun _ h => List.mem_cons_of_mem _ (List.mem_append_left _ (List.mem_append_right _ h))) (by decide +kernel))) (goodIn_sub (fun _ h => List.mem_cons_of_mem _ (List.mem_append_right _ h)) (by decide +kernel))
set_option maxRecDepth 20000 in
theorem gX5_cost_X5_findBestSet : GoodIn wsX5_cost (wsV RX5 115 RX5 yX5_findBestSet wsX5_findBestSet) := goodIn_app (goodIn_of _ (by decide +kernel)) ggX5_cost_X5_findBestSet
set_option maxRecDepth 20000 in
theorem ggX5_pots_X5_findBestSet : GoodIn wsX5_pots wsX5_findBestSet := goodIn_ca (goodIn_ca (goodIn_r _ [6, 1, 7, 8, 9, 10, 11, 5, 12, 13, 14, 15, 16, 17, 18, 19, 20, 21, 22, 23, 24, 25, 26, 27, 28, 29, 30, 31, 32, 33, 34, 35, 36, 37, 38, 39, 40, 41, 42, 43, 44, 45, 46, 47, 48, 49, 50, 51, 52, 53, 54, 55, 56, 57, 58, 59, 60, 61, 62, 63, 64, 65, 66, 67, 68, 69, 70, 71, 72, 73, 74, 75, 76, 77, 78, 79, 80, 81, 82, 83, 84, 85, 86, 87, 88, 89, 90, 91, 92, 93, 94, 95, 96, 97, 98, 99, 100, 101, 102, 103, 107, 108, 109, 110, 111, 112, 113, 114, 115, 116, 117, 118, 119, 120, 121, 122, 123, 124, 125, 126, 127, 128, 129, 130, 131, 132, 133, 134, 135, 136, 137, 138, 139, 140, 141, 142] (by decide +kernel) (by decide +kernel)) (goodIn_sub (fun _ h => List.mem_cons_of_mem _ (List.mem_append_left _ (List.mem_append_right _ h))) (by decide +kernel))) (goodIn_sub (fun _ h => List.mem_cons_of_mem _ (List.mem_append_right _ h)) (by decide +kernel))
set_option maxRecDepth 20000 in
theorem gX5_pots_X5_findBestSet : GoodIn wsX5_pots (wsV RX5 115 RX5 yX5_findBestSet wsX5_findBestSet) := goodIn_app (goodIn_of _ (by decide +kernel)) ggX5_pots_X5_findBestSet
set_option maxRecDepth 20000 in
theorem ggX5_pots_X2_bestPotsOf : GoodIn wsX5_pots wsX2_bestPotsOf := goodIn_r _ [106, 78, 88, 112, 113, 114, 115, 116, 117, 118, 119, 120, 121, 122, 123, 124, 125, 126] (by decide +kernel) (by decide +kernel)
set_option maxRecDepth 20000 in
theorem gX5_pots_X2_bestPotsOf_n125 : GoodIn wsX5_pots (wsX2_bestPotsOf) := ggX5_pots_X2_bestPotsOf
set_option maxRecDepth 20000 in
theorem ggX5_ladles_X3_deal : GoodIn wsX5_ladles wsX3_deal := goodIn_r _ [5, 6, 7, 8, 9, 3, 10, 11, 12, 13, 14, 15, 16, 17, 18, 19, 20, 21, 22, 23, 24, 25, 31, 32, 33, 34] (by decide +kernel) (by decide +kernel)
set_option maxRecDepth 20000 in
theorem gX5_ladles_X3_deal_n128 : GoodIn wsX5_ladles (wsX3_deal) := ggX5_ladles_X3_deal
set_option maxRecDepth 20000 in
theorem ggX5_ladle_X5_needMeal : GoodIn wsX5_ladle wsX5_needMeal := goodIn_ca (goodIn_r _ [6, 7, 8, 1, 33, 34, 35, 36, 37, 38, 39, 40, 41] (by decide +kernel) (by decide +kernel)) (goodIn_sub (fun _ h => List.mem_cons_of_mem _ (List.mem_append_right _ h)) (by decide +kernel))
set_option maxRecDepth 20000 in
theorem gX5_ladle_X5_needMeal : GoodIn wsX5_ladle (wsV RX5 65 RX5 yX5_needMeal wsX5_needMeal) := goodIn_app (goodIn_of _ (by decide +kernel)) ggX5_ladle_X5_needMeal
set_option maxRecDepth 20000 in
theorem ggX5_ladle_X3_deal : GoodIn wsX5_ladle wsX3_deal := goodIn_r _ [12, 13, 14, 15, 16, 10, 17, 18, 19, 20, 21, 22, 23, 24, 25, 26, 27, 28, 29, 30, 31, 32, 38, 39, 40, 41] (by decide +kernel) (by decide +kernel)
set_option maxRecDepth 20000 in
theorem gX5_ladle_X3_deal_n128 : GoodIn wsX5_ladle (wsX3_deal) := ggX5_ladle_X3_deal
set_option maxRecDepth 20000 in
theorem ggX5_come_X5_needWithin : GoodIn wsX5_come wsX5_needWithin := goodIn_ca (goodIn_r _ [5, 6, 7] (by decide +kernel) (by decide +kernel)) (goodIn_sub (fun _ h => List.mem_cons_of_mem _ (List.mem_append_right _ h)) (by decide +kernel))
set_option maxRecDepth 20000 in
theorem gX5_come_X5_needWithin : GoodIn wsX5_come (va_wsS RX5 46 yX5_needWithin wsX5_needWithin) := goodIn_app (goodIn_of _ (by decide +kernel)) ggX5_come_X5_needWithin
set_option maxRecDepth 20000 in
theorem ggX5_come_X1_add : GoodIn wsX5_come wsX1_add := goodIn_r _ [11, 12, 13, 19, 20, 21] (by decide +kernel) (by decide +kernel)
set_option maxRecDepth 20000 in
theorem gX5_come_X1_add_n139 : GoodIn wsX5_come (wsX1_add) := ggX5_come_X1_add
set_option maxRecDepth 20000 in
theorem ggX5_hatch_X5_needWithin : GoodIn wsX5_hatch wsX5_needWithin := goodIn_ca (goodIn_r _ [5, 6, 7] (by decide +kernel) (by decide +kernel)) (goodIn_sub (fun _ h => List.mem_cons_of_mem _ (List.mem_append_right _ h)) (by decide +kernel))
set_option maxRecDepth 20000 in
theorem gX5_hatch_X5_needWithin : GoodIn wsX5_hatch (va_wsS RX5 46 yX5_needWithin wsX5_needWithin) := goodIn_app (goodIn_of _ (by decide +kernel)) ggX5_hatch_X5_needWithin
set_option maxRecDepth 20000 in
theorem ggX5_hatch_X1_factOf : GoodIn wsX5_hatch wsX1_factOf := goodIn_r _ [11, 12, 13, 14, 15, 16, 17, 18, 19, 20, 21, 22, 23, 24, 25, 9, 26, 27, 28, 29, 35, 36, 37] (by decide +kernel) (by decide +kernel)
set_option maxRecDepth 20000 in
theorem gX5_hatch_X1_factOf_n140 : GoodIn wsX5_hatch (wsX1_factOf) := ggX5_hatch_X1_factOf
set_option maxRecDepth 20000 in
theorem ggX5_serve_X1_leastServed : GoodIn wsX5_serve wsX1_leastServed := goodIn_r _ [7, 8, 9, 10, 5, 11, 12, 13, 14, 15, 16, 17, 18, 19, 20, 21, 22, 23, 24, 25, 26, 27, 28, 29, 35, 36, 37] (by decide +kernel) (by decide +kernel)
set_option maxRecDepth 20000 in
theorem gX5_serve_X1_leastServed_n147 : GoodIn wsX5_serve (wsX1_leastServed) := ggX5_serve_X1_leastServed
set_option maxRecDepth 20000 in
theorem ggX5_empty_X1_clear : GoodIn wsX5_empty wsX1_clear := goodIn_r _ [5, 6, 12, 13, 14] (by decide +kernel) (by decide +kernel)
set_option maxRecDepth 20000 in
theorem gX5_empty_X1_clear_n150 : GoodIn wsX5_empty (wsX1_clear) := ggX5_empty_X1_clear
set_option maxRecDepth 20000 in
theorem ggX5_findBestSet_X5_needMeal : GoodIn wsX5_findBestSet wsX5_needMeal := goodIn_ca (goodIn_r _ [8, 9, 10, 11, 100, 101, 102, 103, 104, 120, 121, 122, 123] (by decide +kernel) (by decide +kernel)) (goodIn_sub (fun _ h => List.mem_cons_of_mem _ (List.mem_append_left _ (List.mem_append_right _ h))) (by decide +kernel))
set_option maxRecDepth 20000 in
theorem gX5_findBestSet_X5_needMeal : GoodIn wsX5_findBestSet (wsV RX5 65 RX5 yX5_needMeal wsX5_needMeal) := goodIn_app (goodIn_of _ (by decide +kernel)) ggX5_findBestSet_X5_needMeal
set_option maxRecDepth 20000 in
theorem ggX5_findBestSet_X5_needWithin : GoodIn wsX5_findBestSet wsX5_needWithin := goodIn_ca (goodIn_r _ [14, 15, 16] (by decide +kernel) (by decide +kernel)) (goodIn_sub (fun _ h => List.mem_cons_of_mem _ (List.mem_append_right _ h)) (by decide +kernel))
set_option maxRecDepth 20000 in
theorem gX5_findBestSet_X5_needWithin : GoodIn wsX5_findBestSet (va_wsS RX5 46 yX5_needWithin wsX5_needWithin) := goodIn_app (goodIn_of _ (by decide +kernel)) ggX5_findBestSet_X5_needWithin
set_option maxRecDepth 20000 in
theorem ggX5_findBestSet_X4_askedOnTheWay : GoodIn wsX5_findBestSet wsX4_askedOnTheWay := goodIn_r _ [20, 21, 22, 23, 18, 24, 25, 26, 27, 28, 29, 30, 31, 32, 33, 34, 35, 36, 37, 38, 39, 40, 41, 42, 43, 44, 45, 46, 47, 48, 49, 50, 51, 52, 53, 54, 55, 124, 125, 126, 127, 128, 129, 130, 131, 132, 133, 134, 135] (by decide +kernel) (by decide +kernel)
set_option maxRecDepth 20000 in
theorem gX5_findBestSet_X4_askedOnTheWay_n97 : GoodIn wsX5_findBestSet (wsX4_askedOnTheWay) := ggX5_findBestSet_X4_askedOnTheWay
set_option maxRecDepth 20000 in
theorem ggX5_findBestSet_X2_readLeaf : GoodIn wsX5_findBestSet wsX2_readLeaf := goodIn_r _ [59, 60, 61, 62, 63, 64, 39, 40, 41, 42, 43, 44, 45, 46, 47, 48, 49, 50, 51, 105, 106, 107, 108, 109, 110, 111, 112, 113, 114, 115, 116, 117, 118, 119, 129, 130, 131, 132, 133, 134, 135] (by decide +kernel) (by decide +kernel)
set_option maxRecDepth 20000 in
theorem gX5_findBestSet_X2_readLeaf_n160 : GoodIn wsX5_findBestSet (wsX2_readLeaf) := ggX5_findBestSet_X2_readLeaf
set_option maxRecDepth 20000 in
theorem ggX5_findBestSet_X2_findBest : GoodIn wsX5_findBestSet wsX2_findBest := goodIn_r _ [67, 68, 69, 70, 71, 72, 57, 73, 74, 75, 76, 77, 78, 79, 80, 61, 81, 82, 83, 84, 85, 86, 87, 88, 89, 90, 91, 92, 93, 28, 29, 30, 60, 63, 62, 94, 95, 96, 97, 98, 99, 105, 106, 107, 108, 109, 110, 111, 112, 113, 114, 115, 116, 117, 118, 119] (by decide +kernel) (by decide +kernel)
set_option maxRecDepth 20000 in
theorem gX5_findBestSet_X2_findBest_n167 : GoodIn wsX5_findBestSet (wsX2_findBest) := ggX5_findBestSet_X2_findBest
set_option maxRecDepth 20000 in
theorem ggX6_meal_X6_isBits : GoodIn wsX6_meal wsX6_isBits := goodIn_r _ [8] (by decide +kernel) (by decide +kernel)
set_option maxRecDepth 20000 in
theorem gX6_meal_X6_isBits : GoodIn wsX6_meal (va_wsS RX6 63 yX6_isBits wsX6_isBits) := goodIn_app (goodIn_of _ (by decide +kernel)) ggX6_meal_X6_isBits
set_option maxRecDepth 20000 in
theorem ggX6_meal_X6_bad : GoodIn wsX6_meal wsX6_bad := goodIn_r _ [12, 1, 13, 14, 15, 16, 17, 18, 19, 20, 21, 22, 23, 24, 25, 26, 27, 28, 29, 30, 31, 32, 33, 34, 35, 36, 37, 38, 39, 40, 41, 42, 43, 44, 45, 46, 47, 48] (by decide +kernel) (by decide +kernel)
set_option maxRecDepth 20000 in
theorem gX6_meal_X6_bad : GoodIn wsX6_meal (wsV RX6 67 RX6 yX6_bad wsX6_bad) := goodIn_app (goodIn_of _ (by decide +kernel)) ggX6_meal_X6_bad
set_option maxRecDepth 20000 in
theorem ggX6_ate_X6_isMeal : GoodIn wsX6_ate wsX6_isMeal := goodIn_r _ [6, 7, 8, 13, 14, 15, 16, 17, 18, 19, 20, 21, 22, 23, 24, 25, 26, 27, 28, 29, 30, 31, 32, 33, 34, 35, 36, 37, 38, 39, 40, 41, 42, 43, 44, 45, 46, 47, 48] (by decide +kernel) (by decide +kernel)
set_option maxRecDepth 20000 in
theorem gX6_ate_X6_isMeal : GoodIn wsX6_ate (wsV RX6 74 RX6 yX6_isMeal wsX6_isMeal) := goodIn_app (goodIn_of _ (by decide +kernel)) ggX6_ate_X6_isMeal
set_option maxRecDepth 20000 in
theorem ggX6_ate_X6_bad : GoodIn wsX6_ate wsX6_bad := goodIn_r _ [12, 8, 13, 14, 15, 16, 17, 18, 19, 20, 21, 22, 23, 24, 25, 26, 27, 28, 29, 30, 31, 32, 33, 34, 35, 36, 37, 38, 39, 40, 41, 42, 43, 44, 45, 46, 47, 48] (by decide +kernel) (by decide +kernel)
set_option maxRecDepth 20000 in
theorem gX6_ate_X6_bad : GoodIn wsX6_ate (wsV RX6 67 RX6 yX6_bad wsX6_bad) := goodIn_app (goodIn_of _ (by decide +kernel)) ggX6_ate_X6_bad
set_option maxRecDepth 20000 in
theorem ggX6_day_X6_isBits : GoodIn wsX6_day wsX6_isBits := goodIn_r _ [11] (by decide +kernel) (by decide +kernel)
set_option maxRecDepth 20000 in
theorem gX6_day_X6_isBits : GoodIn wsX6_day (va_wsS RX6 63 yX6_isBits wsX6_isBits) := goodIn_app (goodIn_of _ (by decide +kernel)) ggX6_day_X6_isBits
set_option maxRecDepth 20000 in
theorem ggX6_day_X6_bad : GoodIn wsX6_day wsX6_bad := goodIn_r _ [15, 1, 16, 17, 18, 19, 20, 21, 22, 23, 24, 25, 26, 27, 28, 29, 30, 31, 32, 33, 34, 35, 36, 37, 38, 39, 40, 41, 42, 43, 44, 45, 46, 47, 48, 49, 50, 51] (by decide +kernel) (by decide +kernel)
set_option maxRecDepth 20000 in
theorem gX6_day_X6_bad : GoodIn wsX6_day (wsV RX6 67 RX6 yX6_bad wsX6_bad) := goodIn_app (goodIn_of _ (by decide +kernel)) ggX6_day_X6_bad
set_option maxRecDepth 20000 in
theorem ggX6_drop_X6_bad : GoodIn wsX6_drop wsX6_bad := goodIn_r _ [8, 1, 9, 10, 11, 12, 13, 14, 15, 16, 17, 18, 19, 20, 21, 22, 23, 24, 25, 26, 27, 28, 29, 30, 31, 32, 33, 34, 35, 36, 37, 38, 39, 40, 41, 42, 43, 44] (by decide +kernel) (by decide +kernel)
set_option maxRecDepth 20000 in
theorem gX6_drop_X6_bad : GoodIn wsX6_drop (wsV RX6 67 RX6 yX6_bad wsX6_bad) := goodIn_app (goodIn_of _ (by decide +kernel)) ggX6_drop_X6_bad
set_option maxRecDepth 20000 in
theorem ggX6_markOf_X6_counts : GoodIn wsX6_markOf wsX6_counts := goodIn_r _ [10, 1, 2, 3, 4, 11, 12, 13, 14, 15, 16, 17, 18, 19, 20, 21, 22, 23, 24, 25, 26, 27, 28, 29, 30, 31, 32, 33, 34, 35, 36, 37, 38, 39, 40, 41, 42, 43, 44, 45, 46, 47, 48, 49, 50] (by decide +kernel) (by decide +kernel)
set_option maxRecDepth 20000 in
theorem gX6_markOf_X6_counts : GoodIn wsX6_markOf (wsV RX6 93 RX6 yX6_counts wsX6_counts) := goodIn_app (goodIn_of _ (by decide +kernel)) ggX6_markOf_X6_counts
set_option maxRecDepth 20000 in
theorem ggX6_leavesOf_X6_markOf : GoodIn wsX6_leavesOf wsX6_markOf := goodIn_r _ [5, 6, 7, 8, 9, 10, 11, 12, 13, 4, 14, 15, 16, 17, 18, 22, 23, 24, 25, 26, 27, 28, 29, 30, 31, 32, 33, 34, 35, 36, 37, 38, 39, 40, 41, 42, 43, 44, 45, 46, 47, 48, 49, 50, 51, 52, 53, 54, 55, 56, 57] (by decide +kernel) (by decide +kernel)
set_option maxRecDepth 20000 in
theorem gX6_leavesOf_X6_markOf : GoodIn wsX6_leavesOf (wsV RX6 99 RX6 yX6_markOf wsX6_markOf) := goodIn_app (goodIn_of _ (by decide +kernel)) ggX6_leavesOf_X6_markOf
set_option maxRecDepth 20000 in
theorem ggX6_leavesOf_X6_leavesOf : GoodIn wsX6_leavesOf wsX6_leavesOf := goodIn_r _ [0, 1, 2, 3, 4, 5, 6, 7, 8, 9, 10, 11, 12, 13, 14, 15, 16, 17, 18, 19, 20, 21, 22, 23, 24, 25, 26, 27, 28, 29, 30, 31, 32, 33, 34, 35, 36, 37, 38, 39, 40, 41, 42, 43, 44, 45, 46, 47, 48, 49, 50, 51, 52, 53, 54, 55, 56, 57] (by decide +kernel) (by decide +kernel)
set_option maxRecDepth 20000 in
theorem gX6_leavesOf_X6_leavesOf : GoodIn wsX6_leavesOf (wsV RX6 103 RX6 yX6_leavesOf wsX6_leavesOf) := goodIn_app (goodIn_of _ (by decide +kernel)) ggX6_leavesOf_X6_leavesOf
set_option maxRecDepth 20000 in
theorem ggX6_leaves_X6_isMeal : GoodIn wsX6_leaves wsX6_isMeal := goodIn_r _ [5, 6, 7, 29, 30, 31, 32, 33, 34, 35, 36, 37, 38, 39, 40, 41, 42, 43, 44, 45, 46, 47, 48, 49, 50, 51, 52, 53, 54, 55, 56, 57, 58, 59, 60, 61, 62, 63, 64] (by decide +kernel) (by decide +kernel)
set_option maxRecDepth 20000 in
theorem gX6_leaves_X6_isMeal : GoodIn wsX6_leaves (wsV RX6 74 RX6 yX6_isMeal wsX6_isMeal) := goodIn_app (goodIn_of _ (by decide +kernel)) ggX6_leaves_X6_isMeal
set_option maxRecDepth 20000 in
theorem ggX6_leaves_X6_leavesOf : GoodIn wsX6_leaves wsX6_leavesOf := goodIn_r _ [11, 12, 13, 14, 4, 15, 16, 17, 18, 19, 20, 21, 22, 23, 24, 25, 26, 27, 28, 8, 9, 10, 29, 30, 31, 32, 33, 34, 35, 36, 37, 38, 39, 40, 41, 42, 43, 44, 45, 46, 47, 48, 49, 50, 51, 52, 53, 54, 55, 56, 57, 58, 59, 60, 61, 62, 63, 64] (by decide +kernel) (by decide +kernel)
set_option maxRecDepth 20000 in
theorem gX6_leaves_X6_leavesOf : GoodIn wsX6_leaves (wsV RX6 103 RX6 yX6_leavesOf wsX6_leavesOf) := goodIn_app (goodIn_of _ (by decide +kernel)) ggX6_leaves_X6_leavesOf
set_option maxRecDepth 20000 in
theorem ggX6_goes_X6_markOf : GoodIn wsX6_goes wsX6_markOf := goodIn_r _ [9, 10, 11, 12, 13, 14, 15, 16, 17, 8, 18, 19, 20, 21, 22, 23, 24, 25, 26, 27, 28, 29, 30, 31, 32, 33, 34, 35, 36, 37, 38, 39, 40, 41, 42, 43, 44, 45, 46, 47, 48, 49, 50, 51, 52, 53, 54, 55, 56, 57, 58] (by decide +kernel) (by decide +kernel)
set_option maxRecDepth 20000 in
theorem gX6_goes_X6_markOf : GoodIn wsX6_goes (wsV RX6 99 RX6 yX6_markOf wsX6_markOf) := goodIn_app (goodIn_of _ (by decide +kernel)) ggX6_goes_X6_markOf
set_option maxRecDepth 20000 in
theorem ggX6_split_X6_isMeal : GoodIn wsX6_split wsX6_isMeal := goodIn_r _ [7, 8, 9, 40, 41, 42, 43, 44, 45, 46, 47, 48, 49, 50, 51, 52, 53, 54, 55, 56, 57, 58, 59, 60, 61, 62, 63, 64, 65, 66, 67, 68, 69, 70, 71, 72, 73, 74, 75] (by decide +kernel) (by decide +kernel)
set_option maxRecDepth 20000 in
theorem gX6_split_X6_isMeal : GoodIn wsX6_split (wsV RX6 74 RX6 yX6_isMeal wsX6_isMeal) := goodIn_app (goodIn_of _ (by decide +kernel)) ggX6_split_X6_isMeal
set_option maxRecDepth 20000 in
theorem ggX6_split_X6_isBits : GoodIn wsX6_split wsX6_isBits := goodIn_r _ [12] (by decide +kernel) (by decide +kernel)
set_option maxRecDepth 20000 in
theorem gX6_split_X6_isBits : GoodIn wsX6_split (va_wsS RX6 63 yX6_isBits wsX6_isBits) := goodIn_app (goodIn_of _ (by decide +kernel)) ggX6_split_X6_isBits
set_option maxRecDepth 20000 in
theorem ggX6_split_X6_bad : GoodIn wsX6_split wsX6_bad := goodIn_r _ [16, 9, 40, 41, 42, 43, 44, 45, 46, 47, 48, 49, 50, 51, 52, 53, 54, 55, 56, 57, 58, 59, 60, 61, 62, 63, 64, 65, 66, 67, 68, 69, 70, 71, 72, 73, 74, 75] (by decide +kernel) (by decide +kernel)
set_option maxRecDepth 20000 in
theorem gX6_split_X6_bad : GoodIn wsX6_split (wsV RX6 67 RX6 yX6_bad wsX6_bad) := goodIn_app (goodIn_of _ (by decide +kernel)) ggX6_split_X6_bad
set_option maxRecDepth 20000 in
theorem ggX6_split_X6_goes : GoodIn wsX6_split wsX6_goes := goodIn_r _ [20, 21, 22, 1, 2, 23, 24, 25, 6, 26, 27, 28, 29, 30, 31, 32, 33, 34, 35, 36, 37, 38, 39, 40, 41, 42, 43, 44, 45, 46, 47, 48, 49, 50, 51, 52, 53, 54, 55, 56, 57, 58, 59, 60, 61, 62, 63, 64, 65, 66, 67, 68, 69, 70, 71, 72, 73, 74, 75] (by decide +kernel) (by decide +kernel)
set_option maxRecDepth 20000 in
theorem gX6_split_X6_goes : GoodIn wsX6_split (wsV RX6 115 RX6 yX6_goes wsX6_goes) := goodIn_app (goodIn_of _ (by decide +kernel)) ggX6_split_X6_goes
set_option maxRecDepth 20000 in
theorem ggX6_leaf_X6_isMeal : GoodIn wsX6_leaf wsX6_isMeal := goodIn_r _ [7, 8, 9, 44, 45, 46, 47, 48, 49, 50, 51, 52, 53, 54, 55, 56, 57, 58, 59, 60, 61, 62, 63, 64, 65, 66, 67, 68, 69, 70, 71, 72, 73, 74, 75, 76, 77, 78, 79] (by decide +kernel) (by decide +kernel)
set_option maxRecDepth 20000 in
theorem gX6_leaf_X6_isMeal : GoodIn wsX6_leaf (wsV RX6 74 RX6 yX6_isMeal wsX6_isMeal) := goodIn_app (goodIn_of _ (by decide +kernel)) ggX6_leaf_X6_isMeal
set_option maxRecDepth 20000 in
theorem ggX6_leaf_X6_isBits : GoodIn wsX6_leaf wsX6_isBits := goodIn_r _ [12] (by decide +kernel) (by decide +kernel)
set_option maxRecDepth 20000 in
theorem gX6_leaf_X6_isBits : GoodIn wsX6_leaf (va_wsS RX6 63 yX6_isBits wsX6_isBits) := goodIn_app (goodIn_of _ (by decide +kernel)) ggX6_leaf_X6_isBits
set_option maxRecDepth 20000 in
theorem ggX6_leaf_X6_bad : GoodIn wsX6_leaf wsX6_bad := goodIn_r _ [16, 9, 44, 45, 46, 47, 48, 49, 50, 51, 52, 53, 54, 55, 56, 57, 58, 59, 60, 61, 62, 63, 64, 65, 66, 67, 68, 69, 70, 71, 72, 73, 74, 75, 76, 77, 78, 79] (by decide +kernel) (by decide +kernel)
set_option maxRecDepth 20000 in
theorem gX6_leaf_X6_bad : GoodIn wsX6_leaf (wsV RX6 67 RX6 yX6_bad wsX6_bad) := goodIn_app (goodIn_of _ (by decide +kernel)) ggX6_leaf_X6_bad
set_option maxRecDepth 20000 in
theorem ggX6_leaf_X6_goes : GoodIn wsX6_leaf wsX6_goes := goodIn_r _ [20, 21, 22, 23, 24, 25, 26, 27, 6, 28, 29, 30, 31, 32, 33, 34, 35, 36, 37, 1, 38, 39, 2, 44, 45, 46, 47, 48, 49, 50, 51, 52, 53, 54, 55, 56, 57, 58, 59, 60, 61, 62, 63, 64, 65, 66, 67, 68, 69, 70, 71, 72, 73, 74, 75, 76, 77, 78, 79] (by decide +kernel) (by decide +kernel)
set_option maxRecDepth 20000 in
theorem gX6_leaf_X6_goes : GoodIn wsX6_leaf (wsV RX6 115 RX6 yX6_goes wsX6_goes) := goodIn_app (goodIn_of _ (by decide +kernel)) ggX6_leaf_X6_goes
set_option maxRecDepth 20000 in
theorem ggX6_leaf_X6_isLeafOf : GoodIn wsX6_leaf wsX6_isLeafOf := goodIn_r _ [43, 38, 39, 21, 22, 44, 45, 46, 47, 48, 49, 50, 51, 52, 53, 54, 55, 56, 57, 58, 59, 60, 61, 62, 63, 64, 65, 66, 67, 68, 69, 70, 71, 72, 73, 74, 75, 76, 77, 78, 79] (by decide +kernel) (by decide +kernel)
set_option maxRecDepth 20000 in
theorem gX6_leaf_X6_isLeafOf : GoodIn wsX6_leaf (wsV RX6 119 RX6 yX6_isLeafOf wsX6_isLeafOf) := goodIn_app (goodIn_of _ (by decide +kernel)) ggX6_leaf_X6_isLeafOf
set_option maxRecDepth 20000 in
theorem ggX6_size_X6_bad : GoodIn wsX6_size wsX6_bad := goodIn_r _ [9, 1, 10, 11, 12, 13, 14, 15, 16, 17, 18, 19, 20, 21, 22, 23, 24, 25, 26, 27, 28, 29, 30, 31, 32, 33, 34, 35, 36, 37, 38, 39, 40, 41, 42, 43, 44, 45] (by decide +kernel) (by decide +kernel)
set_option maxRecDepth 20000 in
theorem gX6_size_X6_bad : GoodIn wsX6_size (wsV RX6 67 RX6 yX6_bad wsX6_bad) := goodIn_app (goodIn_of _ (by decide +kernel)) ggX6_size_X6_bad
set_option maxRecDepth 20000 in
theorem ggX6_prices_X6_bad : GoodIn wsX6_prices wsX6_bad := goodIn_r _ [8, 1, 9, 10, 11, 12, 13, 14, 15, 16, 17, 18, 19, 20, 21, 22, 23, 24, 25, 26, 27, 28, 29, 30, 31, 32, 33, 34, 35, 36, 37, 38, 39, 40, 41, 42, 43, 44] (by decide +kernel) (by decide +kernel)
set_option maxRecDepth 20000 in
theorem gX6_prices_X6_bad : GoodIn wsX6_prices (wsV RX6 67 RX6 yX6_bad wsX6_bad) := goodIn_app (goodIn_of _ (by decide +kernel)) ggX6_prices_X6_bad
set_option maxRecDepth 20000 in
theorem ggX6_costOf_X6_isLeafOf : GoodIn wsX6_costOf wsX6_isLeafOf := goodIn_r _ [9, 10, 11, 12, 13, 14, 15, 16, 17, 18, 19, 20, 21, 22, 23, 24, 25, 26, 27, 28, 29, 30, 31, 32, 33, 34, 35, 36, 37, 38, 39, 40, 41, 42, 43, 44, 45, 46, 47, 48, 49] (by decide +kernel) (by decide +kernel)
set_option maxRecDepth 20000 in
theorem gX6_costOf_X6_isLeafOf : GoodIn wsX6_costOf (wsV RX6 119 RX6 yX6_isLeafOf wsX6_isLeafOf) := goodIn_app (goodIn_of _ (by decide +kernel)) ggX6_costOf_X6_isLeafOf
set_option maxRecDepth 20000 in
theorem ggX6_chooses_X6_goes : GoodIn wsX6_chooses wsX6_goes := goodIn_r _ [12, 13, 14, 15, 16, 17, 18, 19, 11, 20, 21, 22, 23, 24, 25, 26, 27, 28, 29, 1, 30, 31, 32, 58, 59, 60, 61, 62, 63, 64, 65, 66, 67, 68, 69, 70, 71, 72, 73, 74, 75, 76, 77, 78, 79, 80, 81, 82, 83, 84, 85, 86, 87, 88, 89, 90, 91, 92, 93] (by decide +kernel) (by decide +kernel)
set_option maxRecDepth 20000 in
theorem gX6_chooses_X6_goes : GoodIn wsX6_chooses (wsV RX6 115 RX6 yX6_goes wsX6_goes) := goodIn_app (goodIn_of _ (by decide +kernel)) ggX6_chooses_X6_goes
set_option maxRecDepth 20000 in
theorem ggX6_chooses_X6_isLeafOf : GoodIn wsX6_chooses wsX6_isLeafOf := goodIn_r _ [36, 30, 31, 13, 14, 58, 59, 60, 61, 62, 63, 64, 65, 66, 67, 68, 69, 70, 71, 72, 73, 74, 75, 76, 77, 78, 79, 80, 81, 82, 83, 84, 85, 86, 87, 88, 89, 90, 91, 92, 93] (by decide +kernel) (by decide +kernel)
set_option maxRecDepth 20000 in
theorem gX6_chooses_X6_isLeafOf : GoodIn wsX6_chooses (wsV RX6 119 RX6 yX6_isLeafOf wsX6_isLeafOf) := goodIn_app (goodIn_of _ (by decide +kernel)) ggX6_chooses_X6_isLeafOf
set_option maxRecDepth 20000 in
theorem ggX6_chooses_X6_costOf : GoodIn wsX6_chooses wsX6_costOf := goodIn_r _ [40, 1, 32, 41, 42, 33, 34, 35, 11, 36, 30, 31, 13, 14, 58, 59, 60, 61, 62, 63, 64, 65, 66, 67, 68, 69, 70, 71, 72, 73, 74, 75, 76, 77, 78, 79, 80, 81, 82, 83, 84, 85, 86, 87, 88, 89, 90, 91, 92, 93] (by decide +kernel) (by decide +kernel)
set_option maxRecDepth 20000 in
theorem gX6_chooses_X6_costOf : GoodIn wsX6_chooses (wsV RX6 130 RX6 yX6_costOf wsX6_costOf) := goodIn_app (goodIn_of _ (by decide +kernel)) ggX6_chooses_X6_costOf
set_option maxRecDepth 20000 in
theorem ggX6_chooses_X6_takes : GoodIn wsX6_chooses wsX6_takes := goodIn_r _ [46, 3, 47, 48, 49, 4, 50, 51, 52, 11, 53, 5, 58, 59, 60, 61, 62, 63, 64, 65, 66, 67, 68, 69, 70, 71, 72, 73, 74, 75, 76, 77, 78, 79, 80, 81, 82, 83, 84, 85, 86, 87, 88, 89, 90, 91, 92, 93] (by decide +kernel) (by decide +kernel)
set_option maxRecDepth 20000 in
theorem gX6_chooses_X6_takes : GoodIn wsX6_chooses (wsV RX6 134 RX6 yX6_takes wsX6_takes) := goodIn_app (goodIn_of _ (by decide +kernel)) ggX6_chooses_X6_takes
set_option maxRecDepth 20000 in
theorem ggX6_chooses_X6_upTo : GoodIn wsX6_chooses wsX6_upTo := goodIn_r _ [57, 4, 58, 59, 60, 61, 62, 63, 64, 65, 66, 67, 68, 69, 70, 71, 72, 73, 74, 75, 76, 77, 78, 79, 80, 81, 82, 83, 84, 85, 86, 87, 88, 89, 90, 91, 92, 93] (by decide +kernel) (by decide +kernel)
set_option maxRecDepth 20000 in
theorem gX6_chooses_X6_upTo : GoodIn wsX6_chooses (wsV RX6 138 RX6 yX6_upTo wsX6_upTo) := goodIn_app (goodIn_of _ (by decide +kernel)) ggX6_chooses_X6_upTo
set_option maxRecDepth 20000 in
theorem ggX6_takes_X6_isMore : GoodIn wsX6_takes wsX6_isMore := goodIn_r _ [10, 11, 5, 4, 12, 13, 14, 15, 16, 17, 18, 19, 20, 21, 22, 23, 24, 25, 26, 27, 28, 29, 30, 31, 32, 33, 34, 35, 36, 37, 38, 39, 40, 41, 42, 43, 44, 45, 46, 47] (by decide +kernel) (by decide +kernel)
set_option maxRecDepth 20000 in
theorem gX6_takes_X6_isMore : GoodIn wsX6_takes (wsV RX6 148 RX6 yX6_isMore wsX6_isMore) := goodIn_app (goodIn_of _ (by decide +kernel)) ggX6_takes_X6_isMore
set_option maxRecDepth 20000 in
theorem ggX6_isAsked_X6_isMeal : GoodIn wsX6_isAsked wsX6_isMeal := goodIn_r _ [5, 6, 7, 15, 16, 17, 18, 19, 20, 21, 22, 23, 24, 25, 26, 27, 28, 29, 30, 31, 32, 33, 34, 35, 36, 37, 38, 39, 40, 41, 42, 43, 44, 45, 46, 47, 48, 49, 50] (by decide +kernel) (by decide +kernel)
set_option maxRecDepth 20000 in
theorem gX6_isAsked_X6_isMeal : GoodIn wsX6_isAsked (wsV RX6 74 RX6 yX6_isMeal wsX6_isMeal) := goodIn_app (goodIn_of _ (by decide +kernel)) ggX6_isAsked_X6_isMeal
set_option maxRecDepth 20000 in
theorem ggX6_isAsked_X6_isBits : GoodIn wsX6_isAsked wsX6_isBits := goodIn_r _ [10] (by decide +kernel) (by decide +kernel)
set_option maxRecDepth 20000 in
theorem gX6_isAsked_X6_isBits : GoodIn wsX6_isAsked (va_wsS RX6 63 yX6_isBits wsX6_isBits) := goodIn_app (goodIn_of _ (by decide +kernel)) ggX6_isAsked_X6_isBits
set_option maxRecDepth 20000 in
theorem ggX6_isAsked_X6_bad : GoodIn wsX6_isAsked wsX6_bad := goodIn_r _ [14, 7, 15, 16, 17, 18, 19, 20, 21, 22, 23, 24, 25, 26, 27, 28, 29, 30, 31, 32, 33, 34, 35, 36, 37, 38, 39, 40, 41, 42, 43, 44, 45, 46, 47, 48, 49, 50] (by decide +kernel) (by decide +kernel)
set_option maxRecDepth 20000 in
theorem gX6_isAsked_X6_bad : GoodIn wsX6_isAsked (wsV RX6 67 RX6 yX6_bad wsX6_bad) := goodIn_app (goodIn_of _ (by decide +kernel)) ggX6_isAsked_X6_bad
set_option maxRecDepth 20000 in
theorem ggX6_cost_X6_isAsked : GoodIn wsX6_cost wsX6_isAsked := goodIn_r _ [7, 8, 9, 10, 6, 11, 12, 13, 14, 15, 16, 17, 18, 19, 20, 79, 80, 81, 82, 83, 84, 85, 86, 87, 88, 89, 90, 91, 92, 93, 94, 95, 96, 97, 98, 99, 100, 101, 102, 103, 104, 105, 106, 107, 108, 109, 110, 111, 112, 113, 114] (by decide +kernel) (by decide +kernel)
set_option maxRecDepth 20000 in
theorem gX6_cost_X6_isAsked : GoodIn wsX6_cost (wsV RX6 152 RX6 yX6_isAsked wsX6_isAsked) := goodIn_app (goodIn_of _ (by decide +kernel)) ggX6_cost_X6_isAsked
set_option maxRecDepth 20000 in
theorem ggX6_cost_X6_chooses : GoodIn wsX6_cost wsX6_chooses := goodIn_r _ [24, 25, 2, 1, 26, 27, 28, 29, 30, 31, 32, 6, 33, 34, 35, 36, 37, 38, 39, 40, 41, 42, 43, 44, 45, 46, 47, 48, 49, 50, 51, 52, 53, 54, 55, 56, 57, 58, 59, 60, 61, 62, 63, 64, 65, 66, 67, 68, 69, 70, 71, 72, 73, 74, 75, 76, 77, 78, 79, 80, 81, 82, 83, 84, 85, 86, 87, 88, 89, 90, 91, 92, 93, 94, 95, 96, 97, 98, 99, 100, 101, 102, 103, 104, 105, 106, 107, 108, 109, 110, 111, 112, 113, 114] (by decide +kernel) (by decide +kernel)
set_option maxRecDepth 20000 in
theorem gX6_cost_X6_chooses : GoodIn wsX6_cost (wsV RX6 156 RX6 yX6_chooses wsX6_chooses) := goodIn_app (goodIn_of _ (by decide +kernel)) ggX6_cost_X6_chooses
set_option maxRecDepth 20000 in
theorem ggX6_pots_X6_isAsked : GoodIn wsX6_pots wsX6_isAsked := goodIn_r _ [7, 8, 9, 10, 6, 11, 12, 13, 14, 15, 16, 17, 18, 19, 20, 79, 80, 81, 82, 83, 84, 85, 86, 87, 88, 89, 90, 91, 92, 93, 94, 95, 96, 97, 98, 99, 100, 101, 102, 103, 104, 105, 106, 107, 108, 109, 110, 111, 112, 113, 114] (by decide +kernel) (by decide +kernel)
set_option maxRecDepth 20000 in
theorem gX6_pots_X6_isAsked : GoodIn wsX6_pots (wsV RX6 152 RX6 yX6_isAsked wsX6_isAsked) := goodIn_app (goodIn_of _ (by decide +kernel)) ggX6_pots_X6_isAsked
set_option maxRecDepth 20000 in
theorem ggX6_pots_X6_chooses : GoodIn wsX6_pots wsX6_chooses := goodIn_r _ [24, 25, 26, 27, 28, 1, 29, 30, 31, 32, 33, 6, 34, 35, 36, 37, 38, 39, 40, 41, 42, 43, 44, 45, 46, 47, 48, 49, 50, 51, 52, 53, 54, 55, 56, 57, 58, 59, 60, 61, 62, 63, 64, 65, 66, 67, 68, 69, 70, 2, 71, 72, 73, 74, 75, 76, 77, 78, 79, 80, 81, 82, 83, 84, 85, 86, 87, 88, 89, 90, 91, 92, 93, 94, 95, 96, 97, 98, 99, 100, 101, 102, 103, 104, 105, 106, 107, 108, 109, 110, 111, 112, 113, 114] (by decide +kernel) (by decide +kernel)
set_option maxRecDepth 20000 in
theorem gX6_pots_X6_chooses : GoodIn wsX6_pots (wsV RX6 156 RX6 yX6_chooses wsX6_chooses) := goodIn_app (goodIn_of _ (by decide +kernel)) ggX6_pots_X6_chooses
set_option maxRecDepth 20000 in
theorem ggX6_shares_X6_isUnlike : GoodIn wsX6_shares wsX6_isUnlike := goodIn_r _ [9, 10, 11, 15, 16, 17, 18, 19, 20, 21, 22, 23, 24, 25, 26, 27, 28, 29, 30, 31, 32, 33, 34, 35, 36, 37, 38, 39, 40, 41, 42, 43, 44, 45, 46, 47, 48, 49, 50] (by decide +kernel) (by decide +kernel)
set_option maxRecDepth 20000 in
theorem gX6_shares_X6_isUnlike : GoodIn wsX6_shares (wsV RX6 162 RX6 yX6_isUnlike wsX6_isUnlike) := goodIn_app (goodIn_of _ (by decide +kernel)) ggX6_shares_X6_isUnlike
set_option maxRecDepth 20000 in
theorem ggX6_shares_X6_shares : GoodIn wsX6_shares wsX6_shares := goodIn_r _ [0, 1, 2, 3, 4, 5, 6, 7, 8, 9, 10, 11, 12, 13, 14, 15, 16, 17, 18, 19, 20, 21, 22, 23, 24, 25, 26, 27, 28, 29, 30, 31, 32, 33, 34, 35, 36, 37, 38, 39, 40, 41, 42, 43, 44, 45, 46, 47, 48, 49, 50] (by decide +kernel) (by decide +kernel)
set_option maxRecDepth 20000 in
theorem gX6_shares_X6_shares : GoodIn wsX6_shares (wsV RX6 166 RX6 yX6_shares wsX6_shares) := goodIn_app (goodIn_of _ (by decide +kernel)) ggX6_shares_X6_shares
set_option maxRecDepth 20000 in
theorem ggX6_ladlesAnew_X6_shares : GoodIn wsX6_ladlesAnew wsX6_shares := goodIn_r _ [9, 4, 1, 10, 11, 12, 13, 14, 8, 15, 2, 3, 5, 6, 7, 16, 17, 18, 19, 20, 21, 22, 23, 24, 25, 26, 27, 28, 29, 30, 31, 32, 33, 34, 35, 36, 37, 38, 39, 40, 41, 42, 43, 44, 45, 46, 47, 48, 49, 50, 51] (by decide +kernel) (by decide +kernel)
set_option maxRecDepth 20000 in
theorem gX6_ladlesAnew_X6_shares : GoodIn wsX6_ladlesAnew (wsV RX6 166 RX6 yX6_shares wsX6_shares) := goodIn_app (goodIn_of _ (by decide +kernel)) ggX6_ladlesAnew_X6_shares
set_option maxRecDepth 20000 in
theorem ggX6_ladles_X6_ladlesAnew : GoodIn wsX6_ladles wsX6_ladlesAnew := goodIn_r _ [7, 8, 9, 10, 2, 11, 12, 13, 6, 14, 15, 16, 17, 18, 19, 20, 21, 22, 23, 24, 25, 26, 27, 28, 29, 30, 31, 32, 33, 34, 35, 36, 37, 38, 39, 40, 41, 42, 43, 44, 45, 46, 47, 48, 49, 50, 51, 52, 53, 54, 55, 56] (by decide +kernel) (by decide +kernel)
set_option maxRecDepth 20000 in
theorem gX6_ladles_X6_ladlesAnew : GoodIn wsX6_ladles (wsV RX6 169 RX6 yX6_ladlesAnew wsX6_ladlesAnew) := goodIn_app (goodIn_of _ (by decide +kernel)) ggX6_ladles_X6_ladlesAnew
set_option maxRecDepth 20000 in
theorem ggX6_ladle_X6_isMeal : GoodIn wsX6_ladle wsX6_isMeal := goodIn_r _ [6, 7, 8, 25, 26, 27, 28, 29, 30, 31, 32, 33, 34, 35, 36, 37, 38, 39, 40, 41, 42, 43, 44, 45, 46, 47, 48, 49, 50, 51, 52, 53, 54, 55, 56, 57, 58, 59, 60] (by decide +kernel) (by decide +kernel)
set_option maxRecDepth 20000 in
theorem gX6_ladle_X6_isMeal : GoodIn wsX6_ladle (wsV RX6 74 RX6 yX6_isMeal wsX6_isMeal) := goodIn_app (goodIn_of _ (by decide +kernel)) ggX6_ladle_X6_isMeal
set_option maxRecDepth 20000 in
theorem ggX6_ladle_X6_ladlesAnew : GoodIn wsX6_ladle wsX6_ladlesAnew := goodIn_r _ [12, 7, 13, 14, 15, 16, 17, 18, 5, 19, 1, 20, 21, 22, 23, 24, 25, 26, 27, 28, 29, 30, 31, 32, 33, 34, 35, 36, 37, 38, 39, 40, 41, 42, 43, 44, 45, 46, 47, 48, 49, 50, 51, 52, 53, 54, 55, 56, 57, 58, 59, 60] (by decide +kernel) (by decide +kernel)
set_option maxRecDepth 20000 in
theorem gX6_ladle_X6_ladlesAnew : GoodIn wsX6_ladle (wsV RX6 169 RX6 yX6_ladlesAnew wsX6_ladlesAnew) := goodIn_app (goodIn_of _ (by decide +kernel)) ggX6_ladle_X6_ladlesAnew
set_option maxRecDepth 20000 in
theorem ggX6_come_X6_bad : GoodIn wsX6_come wsX6_bad := goodIn_r _ [8, 1, 9, 10, 11, 12, 13, 14, 15, 16, 17, 18, 19, 20, 21, 22, 23, 24, 25, 26, 27, 28, 29, 30, 31, 32, 33, 34, 35, 36, 37, 38, 39, 40, 41, 42, 43, 44] (by decide +kernel) (by decide +kernel)
set_option maxRecDepth 20000 in
theorem gX6_come_X6_bad : GoodIn wsX6_come (wsV RX6 67 RX6 yX6_bad wsX6_bad) := goodIn_app (goodIn_of _ (by decide +kernel)) ggX6_come_X6_bad
set_option maxRecDepth 20000 in
theorem ggX6_hatch_X6_bad : GoodIn wsX6_hatch wsX6_bad := goodIn_r _ [10, 1, 17, 18, 19, 20, 21, 22, 23, 24, 25, 26, 27, 28, 29, 30, 31, 32, 33, 34, 35, 36, 37, 38, 39, 40, 41, 42, 43, 44, 45, 46, 47, 48, 49, 50, 51, 52] (by decide +kernel) (by decide +kernel)
set_option maxRecDepth 20000 in
theorem gX6_hatch_X6_bad : GoodIn wsX6_hatch (wsV RX6 67 RX6 yX6_bad wsX6_bad) := goodIn_app (goodIn_of _ (by decide +kernel)) ggX6_hatch_X6_bad
set_option maxRecDepth 20000 in
theorem ggX6_hatch_X6_stands : GoodIn wsX6_hatch wsX6_stands := goodIn_r _ [14, 2, 3, 4, 5, 15, 16, 17, 18, 19, 20, 21, 22, 23, 24, 25, 26, 27, 28, 29, 30, 31, 32, 33, 34, 35, 36, 37, 38, 39, 40, 41, 42, 43, 44, 45, 46, 47, 48, 49, 50, 51, 52] (by decide +kernel) (by decide +kernel)
set_option maxRecDepth 20000 in
theorem gX6_hatch_X6_stands : GoodIn wsX6_hatch (wsV RX6 187 RX6 yX6_stands wsX6_stands) := goodIn_app (goodIn_of _ (by decide +kernel)) ggX6_hatch_X6_stands
set_option maxRecDepth 20000 in
theorem ggX6_serve_X6_bad : GoodIn wsX6_serve wsX6_bad := goodIn_r _ [7, 1, 17, 18, 19, 20, 21, 22, 23, 24, 25, 26, 27, 28, 29, 30, 31, 32, 33, 34, 35, 36, 37, 38, 39, 40, 41, 42, 43, 44, 45, 46, 47, 48, 49, 50, 51, 52] (by decide +kernel) (by decide +kernel)
set_option maxRecDepth 20000 in
theorem gX6_serve_X6_bad : GoodIn wsX6_serve (wsV RX6 67 RX6 yX6_bad wsX6_bad) := goodIn_app (goodIn_of _ (by decide +kernel)) ggX6_serve_X6_bad
set_option maxRecDepth 20000 in
theorem ggX6_serve_X6_stands : GoodIn wsX6_serve wsX6_stands := goodIn_r _ [11, 2, 12, 13, 14, 15, 16, 17, 18, 19, 20, 21, 22, 23, 24, 25, 26, 27, 28, 29, 30, 31, 32, 33, 34, 35, 36, 37, 38, 39, 40, 41, 42, 43, 44, 45, 46, 47, 48, 49, 50, 51, 52] (by decide +kernel) (by decide +kernel)
set_option maxRecDepth 20000 in
theorem gX6_serve_X6_stands : GoodIn wsX6_serve (wsV RX6 187 RX6 yX6_stands wsX6_stands) := goodIn_app (goodIn_of _ (by decide +kernel)) ggX6_serve_X6_stands
set_option maxRecDepth 20000 in
theorem ggL_meal_X5_meal : GoodIn wsL_meal wsX5_meal := goodIn_ca (goodIn_ca (goodIn_r _ [7, 8, 9, 10, 11, 12, 6, 13, 14, 15, 16, 17, 18, 19, 20, 21, 22, 23, 24, 25, 26, 27, 28, 29, 30, 31] (by decide +kernel) (by decide +kernel)) (goodIn_sub (fun _ h => List.mem_cons_of_mem _ (List.mem_append_left _ (List.mem_append_right _ h))) (by decide +kernel))) (goodIn_sub (fun _ h => List.mem_cons_of_mem _ (List.mem_append_right _ h)) (by decide +kernel))
set_option maxRecDepth 20000 in
theorem gL_meal_X5_meal : GoodIn wsL_meal (wsV RL 7 RX5 yX5_meal wsX5_meal) := goodIn_app (goodIn_of _ (by decide +kernel)) ggL_meal_X5_meal
set_option maxRecDepth 20000 in
theorem ggL_ate_X5_ate : GoodIn wsL_ate wsX5_ate := goodIn_ca (goodIn_ca (goodIn_r _ [7, 8, 9, 10, 11, 6, 12, 13, 14, 15, 16, 17, 18, 19, 20, 21, 22, 23, 24, 25, 26, 27, 28, 29, 30, 31, 32, 33, 34, 35, 36, 37, 38, 39, 40, 41] (by decide +kernel) (by decide +kernel)) (goodIn_sub (fun _ h => List.mem_cons_of_mem _ (List.mem_append_left _ (List.mem_append_right _ h))) (by decide +kernel))) (goodIn_sub (fun _ h => List.mem_cons_of_mem _ (List.mem_append_right _ h)) (by decide +kernel))
set_option maxRecDepth 20000 in
theorem gL_ate_X5_ate : GoodIn wsL_ate (wsV RL 17 RX5 yX5_ate wsX5_ate) := goodIn_app (goodIn_of _ (by decide +kernel)) ggL_ate_X5_ate
set_option maxRecDepth 20000 in
theorem ggL_day_X5_day : GoodIn wsL_day wsX5_day := goodIn_ca (goodIn_ca (goodIn_r _ [7, 8, 9, 10, 11, 12, 6, 13, 14, 15, 16, 17, 18, 19, 20, 21, 22, 23, 24, 25, 26, 27, 28, 29, 30, 31, 32, 33, 34, 35] (by decide +kernel) (by decide +kernel)) (goodIn_sub (fun _ h => List.mem_cons_of_mem _ (List.mem_append_left _ (List.mem_append_right _ h))) (by decide +kernel))) (goodIn_sub (fun _ h => List.mem_cons_of_mem _ (List.mem_append_right _ h)) (by decide +kernel))
set_option maxRecDepth 20000 in
theorem gL_day_X5_day : GoodIn wsL_day (wsV RL 22 RX5 yX5_day wsX5_day) := goodIn_app (goodIn_of _ (by decide +kernel)) ggL_day_X5_day
set_option maxRecDepth 20000 in
theorem ggL_drop_X5_drop : GoodIn wsL_drop wsX5_drop := goodIn_ca (goodIn_r _ [6, 7, 8, 9, 10, 11, 12, 13, 14, 15, 16, 17, 18, 19, 20, 21, 22, 23, 24, 25, 26, 27] (by decide +kernel) (by decide +kernel)) (goodIn_sub (fun _ h => List.mem_cons_of_mem _ (List.mem_append_right _ h)) (by decide +kernel))
set_option maxRecDepth 20000 in
theorem gL_drop_X5_drop : GoodIn wsL_drop (wsV RL 26 RX5 yX5_drop wsX5_drop) := goodIn_app (goodIn_of _ (by decide +kernel)) ggL_drop_X5_drop
set_option maxRecDepth 20000 in
theorem ggL_leaves_X5_leaves : GoodIn wsL_leaves wsX5_leaves := goodIn_ca (goodIn_r _ [6, 7, 8, 9, 10, 5, 11, 12, 13, 14, 15, 16, 17, 18, 19, 20, 21, 22, 23, 24, 25, 26, 27, 28, 29, 30, 31, 32, 33, 34, 35, 36, 37, 38, 39, 40, 41, 42, 43, 44, 45, 46, 47, 48, 49, 50, 51, 52, 53, 54, 55, 56, 57, 58, 59, 60, 61, 62, 63, 64, 65, 66, 67, 68, 69, 70, 71, 72, 73, 74, 75] (by decide +kernel) (by decide +kernel)) (goodIn_sub (fun _ h => List.mem_cons_of_mem _ (List.mem_append_right _ h)) (by decide +kernel))
set_option maxRecDepth 20000 in
theorem gL_leaves_X5_leaves : GoodIn wsL_leaves (wsV RL 30 RX5 yX5_leaves wsX5_leaves) := goodIn_app (goodIn_of _ (by decide +kernel)) ggL_leaves_X5_leaves
set_option maxRecDepth 20000 in
theorem ggL_split_X5_split : GoodIn wsL_split wsX5_split := goodIn_ca (goodIn_ca (goodIn_r _ [7, 8, 9, 10, 11, 6, 12, 13, 14, 15, 16, 17, 18, 19, 20, 21, 22, 23, 24, 25, 26, 27, 28, 29, 30, 31, 32, 33, 34, 35, 36, 37, 38, 39, 40, 41, 42, 43, 44, 45, 46, 47, 48, 49, 50, 51, 52, 53, 54, 55, 56, 57, 58, 59, 60, 61, 62, 63, 64, 65, 66, 67, 68, 69, 70, 71, 72, 73, 74, 75, 76, 77, 78, 79, 80] (by decide +kernel) (by decide +kernel)) (goodIn_sub (fun _ h => List.mem_cons_of_mem _ (List.mem_append_left _ (List.mem_append_right _ h))) (by decide +kernel))) (goodIn_sub (fun _ h => List.mem_cons_of_mem _ (List.mem_append_right _ h)) (by decide +kernel))
set_option maxRecDepth 20000 in
theorem gL_split_X5_split : GoodIn wsL_split (wsV RL 33 RX5 yX5_split wsX5_split) := goodIn_app (goodIn_of _ (by decide +kernel)) ggL_split_X5_split
set_option maxRecDepth 20000 in
theorem ggL_leaf_X5_leaf : GoodIn wsL_leaf wsX5_leaf := goodIn_ca (goodIn_ca (goodIn_r _ [7, 8, 9, 10, 11, 12, 6, 13, 14, 15, 16, 17, 18, 19, 20, 21, 22, 23, 24, 25, 26, 27, 28, 29, 30, 31, 32, 33, 34, 35, 36, 37, 38, 39, 40, 41, 42, 43, 44, 45, 46, 47, 48, 49, 50, 51, 52, 53, 54, 55, 56, 57, 58, 59, 60, 61, 62, 63, 64, 65, 66, 67, 68, 69, 70, 71, 72, 73, 74, 75, 76, 77, 78, 79, 80, 81, 82, 83, 84, 85, 86, 87, 88, 89, 90, 91, 92, 93, 94, 95, 96, 97] (by decide +kernel) (by decide +kernel)) (goodIn_sub (fun _ h => List.mem_cons_of_mem _ (List.mem_append_left _ (List.mem_append_right _ h))) (by decide +kernel))) (goodIn_sub (fun _ h => List.mem_cons_of_mem _ (List.mem_append_right _ h)) (by decide +kernel))
set_option maxRecDepth 20000 in
theorem gL_leaf_X5_leaf : GoodIn wsL_leaf (wsV RL 37 RX5 yX5_leaf wsX5_leaf) := goodIn_app (goodIn_of _ (by decide +kernel)) ggL_leaf_X5_leaf
set_option maxRecDepth 20000 in
theorem ggL_size_X5_size : GoodIn wsL_size wsX5_size := goodIn_ca (goodIn_ca (goodIn_r _ [7, 8, 9, 10, 11, 12, 6, 13, 14, 15, 16, 17, 18, 19, 20, 21, 22, 23, 24, 25, 26, 27, 28, 29, 30, 31, 32, 33, 34, 35, 36, 37, 38, 39, 40, 41, 42] (by decide +kernel) (by decide +kernel)) (goodIn_sub (fun _ h => List.mem_cons_of_mem _ (List.mem_append_left _ (List.mem_append_right _ h))) (by decide +kernel))) (goodIn_sub (fun _ h => List.mem_cons_of_mem _ (List.mem_append_right _ h)) (by decide +kernel))
set_option maxRecDepth 20000 in
theorem gL_size_X5_size : GoodIn wsL_size (wsV RL 40 RX5 yX5_size wsX5_size) := goodIn_app (goodIn_of _ (by decide +kernel)) ggL_size_X5_size
set_option maxRecDepth 20000 in
theorem ggL_prices_X5_prices : GoodIn wsL_prices wsX5_prices := goodIn_ca (goodIn_r _ [6, 7, 8, 9, 5, 10, 11, 12, 13, 14, 15, 16, 17, 18, 19, 20, 21, 22, 23, 24, 25, 26, 27, 28, 29, 30, 31, 32] (by decide +kernel) (by decide +kernel)) (goodIn_sub (fun _ h => List.mem_cons_of_mem _ (List.mem_append_right _ h)) (by decide +kernel))
set_option maxRecDepth 20000 in
theorem gL_prices_X5_prices : GoodIn wsL_prices (wsV RL 43 RX5 yX5_prices wsX5_prices) := goodIn_app (goodIn_of _ (by decide +kernel)) ggL_prices_X5_prices
set_option maxRecDepth 20000 in
theorem ggL_cost_X5_cost : GoodIn wsL_cost wsX5_cost := goodIn_ca (goodIn_ca (goodIn_r _ [7, 8, 9, 10, 11, 12, 6, 13, 14, 15, 16, 17, 18, 19, 20, 21, 22, 23, 24, 25, 26, 27, 28, 29, 30, 31, 32, 33, 34, 35, 36, 37, 38, 39, 40, 41, 42, 43, 44, 45, 46, 47, 48, 49, 50, 51, 52, 53, 54, 55, 56, 57, 58, 59, 60, 61, 62, 63, 64, 65, 66, 67, 68, 69, 70, 71, 72, 73, 74, 75, 76, 77, 78, 79, 80, 81, 82, 83, 84, 85, 86, 87, 88, 89, 90, 91, 92, 93, 94, 95, 96, 97, 98, 99, 100, 101, 102, 103, 104, 105, 106, 107, 108, 109, 110, 111, 112, 113, 114, 115, 116, 117, 118, 119, 120, 121, 122, 123, 124, 125, 126, 127, 128, 129, 130, 131, 132, 133, 134, 135, 136, 137, 138, 139, 140, 141, 142, 143, 144, 145, 146] (by decide +kernel) (by decide +kernel)) (goodIn_sub (fun _ h => List.mem_cons_of_mem _ (List.mem_append_left _ (List.mem_append_right _ h))) (by decide +kernel))) (goodIn_sub (fun _ h => List.mem_cons_of_mem _ (List.mem_append_right _ h)) (by decide +kernel))
set_option maxRecDepth 20000 in
theorem gL_cost_X5_cost : GoodIn wsL_cost (wsV RL 47 RX5 yX5_cost wsX5_cost) := goodIn_app (goodIn_of _ (by decide +kernel)) ggL_cost_X5_cost
set_option maxRecDepth 20000 in
theorem ggL_pots_X5_pots : GoodIn wsL_pots wsX5_pots := goodIn_ca (goodIn_ca (goodIn_r _ [7, 8, 9, 10, 11, 6, 12, 13, 14, 15, 16, 17, 18, 19, 20, 21, 22, 23, 24, 25, 26, 27, 28, 29, 30, 31, 32, 33, 34, 35, 36, 37, 38, 39, 40, 41, 42, 43, 44, 45, 46, 47, 48, 49, 50, 51, 52, 53, 54, 55, 56, 57, 58, 59, 60, 61, 62, 63, 64, 65, 66, 67, 68, 69, 70, 71, 72, 73, 74, 75, 76, 77, 78, 79, 80, 81, 82, 83, 84, 85, 86, 87, 88, 89, 90, 91, 92, 93, 94, 95, 96, 97, 98, 99, 100, 101, 102, 103, 104, 105, 106, 107, 108, 109, 110, 111, 112, 113, 114, 115, 116, 117, 118, 119, 120, 121, 122, 123, 124, 125, 126, 127, 128, 129, 130, 131, 132, 133, 134, 135, 136, 137, 138, 139, 140, 141, 142, 143, 144, 145, 146, 147, 148] (by decide +kernel) (by decide +kernel)) (goodIn_sub (fun _ h => List.mem_cons_of_mem _ (List.mem_append_left _ (List.mem_append_right _ h))) (by decide +kernel))) (goodIn_sub (fun _ h => List.mem_cons_of_mem _ (List.mem_append_right _ h)) (by decide +kernel))
set_option maxRecDepth 20000 in
theorem gL_pots_X5_pots : GoodIn wsL_pots (wsV RL 51 RX5 yX5_pots wsX5_pots) := goodIn_app (goodIn_of _ (by decide +kernel)) ggL_pots_X5_pots
set_option maxRecDepth 20000 in
theorem ggL_ladle_X5_ladle : GoodIn wsL_ladle wsX5_ladle := goodIn_ca (goodIn_r _ [6, 7, 8, 9, 10, 5, 11, 12, 13, 14, 15, 16, 17, 18, 19, 20, 21, 22, 23, 24, 25, 26, 27, 28, 29, 30, 31, 32, 33, 34, 35, 36, 37, 38, 39, 40, 41, 42, 43, 44, 45, 46] (by decide +kernel) (by decide +kernel)) (goodIn_sub (fun _ h => List.mem_cons_of_mem _ (List.mem_append_right _ h)) (by decide +kernel))
set_option maxRecDepth 20000 in
theorem gL_ladle_X5_ladle : GoodIn wsL_ladle (wsV RL 55 RX5 yX5_ladle wsX5_ladle) := goodIn_app (goodIn_of _ (by decide +kernel)) ggL_ladle_X5_ladle
set_option maxRecDepth 20000 in
theorem ggL_come_X5_come : GoodIn wsL_come wsX5_come := goodIn_ca (goodIn_r _ [6, 7, 8, 9, 5, 10, 11, 12, 13, 14, 15, 16, 17, 18, 19, 20, 21, 22, 23, 24, 25, 26] (by decide +kernel) (by decide +kernel)) (goodIn_sub (fun _ h => List.mem_cons_of_mem _ (List.mem_append_right _ h)) (by decide +kernel))
set_option maxRecDepth 20000 in
theorem gL_come_X5_come : GoodIn wsL_come (wsV RL 58 RX5 yX5_come wsX5_come) := goodIn_app (goodIn_of _ (by decide +kernel)) ggL_come_X5_come
set_option maxRecDepth 20000 in
theorem ggL_hatch_X5_hatch : GoodIn wsL_hatch wsX5_hatch := goodIn_ca (goodIn_r _ [6, 7, 8, 9, 5, 10, 11, 12, 13, 14, 15, 16, 17, 18, 19, 20, 21, 22, 23, 24, 25, 26, 27, 28, 29, 30, 31, 32, 33, 34, 35, 36, 37, 38, 39, 40, 41, 42] (by decide +kernel) (by decide +kernel)) (goodIn_sub (fun _ h => List.mem_cons_of_mem _ (List.mem_append_right _ h)) (by decide +kernel))
set_option maxRecDepth 20000 in
theorem gL_hatch_X5_hatch : GoodIn wsL_hatch (wsV RL 61 RX5 yX5_hatch wsX5_hatch) := goodIn_app (goodIn_of _ (by decide +kernel)) ggL_hatch_X5_hatch
set_option maxRecDepth 20000 in
theorem ggL_serve_X5_serve : GoodIn wsL_serve wsX5_serve := goodIn_ca (goodIn_r _ [6, 7, 8, 9, 10, 11, 12, 13, 14, 15, 16, 17, 18, 19, 20, 21, 22, 23, 24, 25, 26, 27, 28, 29, 30, 31, 32, 33, 34, 35, 36, 37, 38, 39, 40, 41, 42, 43] (by decide +kernel) (by decide +kernel)) (goodIn_sub (fun _ h => List.mem_cons_of_mem _ (List.mem_append_right _ h)) (by decide +kernel))
set_option maxRecDepth 20000 in
theorem gL_serve_X5_serve : GoodIn wsL_serve (wsV RL 64 RX5 yX5_serve wsX5_serve) := goodIn_app (goodIn_of _ (by decide +kernel)) ggL_serve_X5_serve
