theorem tb0 : ∀ w ∈ k2_sels lw_privs, w ∈ lw_tbl := fun w h => List.mem_append_left _ h
theorem tb1 : ∀ w ∈ tables_1_1, w ∈ lw_tbl := fun w h => List.mem_append_right _ (show w ∈ tables_1 from List.mem_append_left _ h)
theorem tb2 : ∀ w ∈ tables_1_2, w ∈ lw_tbl := fun w h => List.mem_append_right _ (show w ∈ tables_1 from List.mem_append_right _ (List.mem_append_left _ h))
theorem tb3 : ∀ w ∈ tables_1_3, w ∈ lw_tbl := fun w h => List.mem_append_right _ (show w ∈ tables_1 from List.mem_append_right _ (List.mem_append_right _ (List.mem_append_left _ h)))
theorem tb4 : ∀ w ∈ tables_1_4, w ∈ lw_tbl := fun w h => List.mem_append_right _ (show w ∈ tables_1 from List.mem_append_right _ (List.mem_append_right _ (List.mem_append_right _ (List.mem_append_left _ h))))
theorem tb5 : ∀ w ∈ tables_1_5, w ∈ lw_tbl := fun w h => List.mem_append_right _ (show w ∈ tables_1 from List.mem_append_right _ (List.mem_append_right _ (List.mem_append_right _ (List.mem_append_right _ (List.mem_append_left _ h)))))
theorem tb6 : ∀ w ∈ tables_1_6, w ∈ lw_tbl := fun w h => List.mem_append_right _ (show w ∈ tables_1 from List.mem_append_right _ (List.mem_append_right _ (List.mem_append_right _ (List.mem_append_right _ (List.mem_append_right _ (h))))))
theorem xpI : parseFieldDescriptor "I" = some .int := by decide +kernel
theorem xpA : parseFieldDescriptor "[I" = some (.array .int) := by decide +kernel
theorem xws_one {z : xM} {w0 : Cond} (h : xws z = [w0]) (h1 : w0 ∈ lw_tbl) (h2 : goodWord w0 = true) : ∀ w ∈ xws z, w ∈ lw_tbl ∧ goodWord w = true := by
  rw [h]
  intro w hw
  rw [List.mem_singleton.mp hw]
  exact ⟨h1, h2⟩
def m_X0_init : xM := (yX0_init, cX0_init, 1, none, [])
def m_X0_weigh : xM := (yX0_weigh, cX0_weigh, 6, none, [])
def m_X0_sumOfCut : xM := (yX0_sumOfCut, cX0_sumOfCut, 3, (some .int), [])
def m_X0_sumBothWays : xM := (yX0_sumBothWays, cX0_sumBothWays, 3, (some .int), [])
def m_X0_isCrowd : xM := (yX0_isCrowd, cX0_isCrowd, 3, (some .boolean), [])
def m_X0_isBroken : xM := (yX0_isBroken, cX0_isBroken, 5, (some .boolean), [])
def m_X0_findLeast : xM := (yX0_findLeast, cX0_findLeast, 7, none, [])
def m_X0_leastCrowd : xM := (yX0_leastCrowd, cX0_leastCrowd, 5, (some .int), [])
def m_X0_leastBreaker : xM := (yX0_leastBreaker, cX0_leastBreaker, 3, (some .int), [])
def m_X0_fewestApart : xM := (yX0_fewestApart, cX0_fewestApart, 8, (some .int), [])
def m_X1_init : xM := (yX1_init, cX1_init, 1, none, [])
def m_X1_start : xM := (yX1_start, cX1_start, 2, none, [])
def m_X1_add : xM := (yX1_add, cX1_add, 6, none, [])
def m_X1_setBounds : xM := (yX1_setBounds, cX1_setBounds, 4, none, [])
def m_X1_isNode : xM := (yX1_isNode, cX1_isNode, 2, (some .boolean), [])
def m_X1_isEdge : xM := (yX1_isEdge, cX1_isEdge, 2, (some .boolean), [])
def m_X1_numberOf : xM := (yX1_numberOf, cX1_numberOf, 2, (some .int), [])
def m_X1_keep : xM := (yX1_keep, cX1_keep, 2, none, [])
def m_X1_free : xM := (yX1_free, cX1_free, 2, none, [])
def m_X1_settle : xM := (yX1_settle, cX1_settle, 3, (some .boolean), [])
def m_X1_lower : xM := (yX1_lower, cX1_lower, 3, none, [])
def m_X1_push : xM := (yX1_push, cX1_push, 7, (some .int), [])
def m_X1_send : xM := (yX1_send, cX1_send, 7, (some .int), [])
def m_X1_setDistances : xM := (yX1_setDistances, cX1_setDistances, 7, none, [])
def m_X1_leastSign : xM := (yX1_leastSign, cX1_leastSign, 5, (some .int), [])
def m_X1_shift : xM := (yX1_shift, cX1_shift, 6, (some .int), [])
def m_X1_cheapen : xM := (yX1_cheapen, cX1_cheapen, 3, none, [])
def m_X1_lowerAll : xM := (yX1_lowerAll, cX1_lowerAll, 3, (some .int), [])
def m_X1_relax : xM := (yX1_relax, cX1_relax, 5, (some .int), [])
def m_X1_findRing : xM := (yX1_findRing, cX1_findRing, 4, (some .boolean), [])
def m_X1_cameFrom : xM := (yX1_cameFrom, cX1_cameFrom, 3, (some .int), [])
def m_X1_keepCheap : xM := (yX1_keepCheap, cX1_keepCheap, 2, none, [])
def m_X1_setLevelsFrom : xM := (yX1_setLevelsFrom, cX1_setLevelsFrom, 3, none, [])
def m_X1_levelOf : xM := (yX1_levelOf, cX1_levelOf, 2, (some .int), [])
def m_X1_sumOfCosts : xM := (yX1_sumOfCosts, cX1_sumOfCosts, 4, (some .int), [])
def m_X2_init : xM := (yX2_init, cX2_init, 1, none, [])
def m_X2_enter : xM := (yX2_enter, cX2_enter, 2, (some .int), [])
def m_X3_init : xM := (yX3_init, cX3_init, 2, none, [])
def m_X3_put : xM := (yX3_put, cX3_put, 6, (some .int), [])
def m_X3_set : xM := (yX3_set, cX3_set, 5, none, [])
def m_X3_hasLeast : xM := (yX3_hasLeast, cX3_hasLeast, 2, (some .boolean), [])
def m_X3_leadsStraight : xM := (yX3_leadsStraight, cX3_leadsStraight, 4, (some .boolean), [])
def m_X3_reachFrom : xM := (yX3_reachFrom, cX3_reachFrom, 7, (some .int), [])
def m_X3_sumOfAll : xM := (yX3_sumOfAll, cX3_sumOfAll, 4, (some .long), [])
def m_X4_init : xM := (yX4_init, cX4_init, 1, none, [])
def m_X4_gather : xM := (yX4_gather, cX4_gather, 4, none, [])
def m_X4_greatest : xM := (yX4_greatest, cX4_greatest, 7, (some .int), [])
def m_X4_tellLeastRow : xM := (yX4_tellLeastRow, cX4_tellLeastRow, 5, none, [])
def m_X4_leastRight : xM := (yX4_leastRight, cX4_leastRight, 5, (some .int), [])
def m_X4_likedByOthers : xM := (yX4_likedByOthers, cX4_likedByOthers, 2, (some .int), [])
def m_X4_leftOfCover : xM := (yX4_leftOfCover, cX4_leftOfCover, 5, (some .int), [])
def m_X4_isCovered : xM := (yX4_isCovered, cX4_isCovered, 6, (some .boolean), [])
def m_X5_init : xM := (yX5_init, cX5_init, 1, none, [])
def m_X5_put : xM := (yX5_put, cX5_put, 3, (some .int), [])
def m_X5_choose : xM := (yX5_choose, cX5_choose, 3, none, [])
def m_X5_worthOf : xM := (yX5_worthOf, cX5_worthOf, 5, (some .int), [])
def m_X6_init : xM := (yX6_init, cX6_init, 1, none, [])
def m_X6_lay : xM := (yX6_lay, cX6_lay, 4, none, [])
def m_X6_addEdges : xM := (yX6_addEdges, cX6_addEdges, 3, none, [])
def m_X6_fill : xM := (yX6_fill, cX6_fill, 1, (some .boolean), [])
def m_X6_numberOf : xM := (yX6_numberOf, cX6_numberOf, 2, (some .int), [])
def m_X6_leastOf : xM := (yX6_leastOf, cX6_leastOf, 2, (some .int), [])
def m_X6_tellLeastRow : xM := (yX6_tellLeastRow, cX6_tellLeastRow, 3, none, [])
def m_X6_cheapen : xM := (yX6_cheapen, cX6_cheapen, 1, none, [])
def m_X6_costOf : xM := (yX6_costOf, cX6_costOf, 2, (some .int), [])
def m_X6_setPrices : xM := (yX6_setPrices, cX6_setPrices, 4, none, [])
def m_X6_hasPrice : xM := (yX6_hasPrice, cX6_hasPrice, 2, (some .boolean), [])
def m_X6_priceOf : xM := (yX6_priceOf, cX6_priceOf, 2, (some .int), [])
def m_X6_goRounds : xM := (yX6_goRounds, cX6_goRounds, 7, (some .int), [])
def m_X6_waysByEdges : xM := (yX6_waysByEdges, cX6_waysByEdges, 5, (some .int), [])
def m_X6_waysByCorners : xM := (yX6_waysByCorners, cX6_waysByCorners, 5, (some .int), [])
def m_X6_meetDemands : xM := (yX6_meetDemands, cX6_meetDemands, 5, (some .boolean), [])
def m_X6_arriveBy : xM := (yX6_arriveBy, cX6_arriveBy, 6, (some .int), [])
def m_X6_fills : xM := (yX6_fills, cX6_fills, 6, (some .boolean), [])
def m_X6_arePricesRight : xM := (yX6_arePricesRight, cX6_arePricesRight, 6, (some .boolean), [])
def m_X7_init : xM := (yX7_init, cX7_init, 1, none, [])
def m_X7_start : xM := (yX7_start, cX7_start, 4, none, [])
def m_X7_placeOf : xM := (yX7_placeOf, cX7_placeOf, 3, (some .int), [])
def m_X7_addUp : xM := (yX7_addUp, cX7_addUp, 5, none, [])
def m_X7_roundBy : xM := (yX7_roundBy, cX7_roundBy, 6, none, [])
def m_X7_addRounded : xM := (yX7_addRounded, cX7_addRounded, 4, none, [])
def m_X7_isRounded : xM := (yX7_isRounded, cX7_isRounded, 3, (some .boolean), [])
def m_X7_sumOfTenths : xM := (yX7_sumOfTenths, cX7_sumOfTenths, 8, (some .int), [])
def m_X7_isNear : xM := (yX7_isNear, cX7_isNear, 2, (some .boolean), [])
def m_X8_init : xM := (yX8_init, cX8_init, 1, none, [])
def m_X8_measure : xM := (yX8_measure, cX8_measure, 5, none, [])
def m_X8_leastCut : xM := (yX8_leastCut, cX8_leastCut, 5, (some .int), [])
def m_X8_sideInAll : xM := (yX8_sideInAll, cX8_sideInAll, 6, (some .int), [])
def m_X8_grow : xM := (yX8_grow, cX8_grow, 5, none, [])
def m_X8_leastOnWay : xM := (yX8_leastOnWay, cX8_leastOnWay, 8, (some .int), [])
def m_X9_init : xM := (yX9_init, cX9_init, 1, none, [])
def m_X9_net : xM := (yX9_net, cX9_net, 2, (some .int), [])
def m_X9_edge : xM := (yX9_edge, cX9_edge, 8, (some .int), [])
def m_X9_change : xM := (yX9_change, cX9_change, 8, (some .int), [])
def m_X9_supply : xM := (yX9_supply, cX9_supply, 6, (some .int), [])
def m_X9_most : xM := (yX9_most, cX9_most, 5, (some .int), [])
def m_X9_flow : xM := (yX9_flow, cX9_flow, 6, (some .int), [])
def m_X9_crowd : xM := (yX9_crowd, cX9_crowd, 6, (some .int), [])
def m_X9_cut : xM := (yX9_cut, cX9_cut, 6, (some .int), [])
def m_X9_cutSum : xM := (yX9_cutSum, cX9_cutSum, 6, (some .int), [])
def m_X9_cuts : xM := (yX9_cuts, cX9_cuts, 5, (some .int), [])
def m_X9_isFull : xM := (yX9_isFull, cX9_isFull, 6, (some .boolean), [])
def m_X9_rounds : xM := (yX9_rounds, cX9_rounds, 5, (some .int), [])
def m_X9_roundAmount : xM := (yX9_roundAmount, cX9_roundAmount, 6, (some .int), [])
def m_X9_cost : xM := (yX9_cost, cX9_cost, 5, (some .int), [])
def m_X9_cheapest : xM := (yX9_cheapest, cX9_cheapest, 6, (some .int), [])
def m_X9_price : xM := (yX9_price, cX9_price, 6, (some .int), [])
def m_X9_edgeWays : xM := (yX9_edgeWays, cX9_edgeWays, 5, (some .int), [])
def m_X9_cornerWays : xM := (yX9_cornerWays, cX9_cornerWays, 5, (some .int), [])
def m_X9_apart : xM := (yX9_apart, cX9_apart, 5, (some .int), [])
def m_X9_holds : xM := (yX9_holds, cX9_holds, 2, (some .boolean), [])
def m_X9_meets : xM := (yX9_meets, cX9_meets, 4, (some .int), [])
def m_X9_breaks : xM := (yX9_breaks, cX9_breaks, 3, (some .int), [])
def m_X9_parent : xM := (yX9_parent, cX9_parent, 4, (some .int), [])
def m_X9_between : xM := (yX9_between, cX9_between, 5, (some .int), [])
def m_X9_inSteps : xM := (yX9_inSteps, cX9_inSteps, 6, (some .int), [])
def m_X9_likes : xM := (yX9_likes, cX9_likes, 4, (some .int), [])
def m_X9_pairs : xM := (yX9_pairs, cX9_pairs, 1, (some .int), [])
def m_X9_pairOf : xM := (yX9_pairOf, cX9_pairOf, 3, (some .int), [])
def m_X9_cover : xM := (yX9_cover, cX9_cover, 3, (some .int), [])
def m_X9_team : xM := (yX9_team, cX9_team, 2, (some .int), [])
def m_X9_table : xM := (yX9_table, cX9_table, 3, (some .int), [])
def m_X9_tell : xM := (yX9_tell, cX9_tell, 6, (some .int), [])
def m_X9_rounded : xM := (yX9_rounded, cX9_rounded, 3, (some .int), [])
def m_X9_project : xM := (yX9_project, cX9_project, 3, (some .int), [])
def m_X9_toolCost : xM := (yX9_toolCost, cX9_toolCost, 4, (some .int), [])
def m_X9_best : xM := (yX9_best, cX9_best, 1, (some .int), [])
def m_X9_chosen : xM := (yX9_chosen, cX9_chosen, 2, (some .int), [])
def m_X9_checksum : xM := (yX9_checksum, cX9_checksum, 2, (some .long), [])
def m_X9_isSound : xM := (yX9_isSound, cX9_isSound, 3, (some .boolean), [])
def m_X9_isFlowSound : xM := (yX9_isFlowSound, cX9_isFlowSound, 4, (some .boolean), [])
def m_X9_isCutSound : xM := (yX9_isCutSound, cX9_isCutSound, 4, (some .boolean), [])
def m_X9_areRoundsSound : xM := (yX9_areRoundsSound, cX9_areRoundsSound, 5, (some .boolean), [])
def m_X9_isTreeSound : xM := (yX9_isTreeSound, cX9_isTreeSound, 4, (some .boolean), [])
def m_X9_greatestAmount : xM := (yX9_greatestAmount, cX9_greatestAmount, 4, (some .int), [])
def m_X9_tellGreatest : xM := (yX9_tellGreatest, cX9_tellGreatest, 4, none, [])
def m_X9_tellCheapest : xM := (yX9_tellCheapest, cX9_tellCheapest, 4, none, [])
def m_X9_netAt : xM := (yX9_netAt, cX9_netAt, 3, (some (.object "CutsetWorks$Net")), [])
def m_X9_needEdge : xM := (yX9_needEdge, cX9_needEdge, 2, none, [])
def m_X9_needCorner : xM := (yX9_needCorner, cX9_needCorner, 2, none, [])
def m_X9_needEnds : xM := (yX9_needEnds, cX9_needEnds, 3, none, [])
def m_X9_needNumbers : xM := (yX9_needNumbers, cX9_needNumbers, 3, none, [])
def m_X9_needFlow : xM := (yX9_needFlow, cX9_needFlow, 1, none, [])
def m_X9_needNoLeasts : xM := (yX9_needNoLeasts, cX9_needNoLeasts, 1, none, [])
def m_X9_needRound : xM := (yX9_needRound, cX9_needRound, 5, none, [])
def m_X9_needLeft : xM := (yX9_needLeft, cX9_needLeft, 1, none, [])
def m_X9_needPlace : xM := (yX9_needPlace, cX9_needPlace, 3, none, [])
def m_X9_hasBit : xM := (yX9_hasBit, cX9_hasBit, 2, (some .boolean), [])
def m_X9_hasOneOf : xM := (yX9_hasOneOf, cX9_hasOneOf, 3, (some .boolean), [])
def m_J6_bitCount_0f7a4 : xM := (yJ6_bitCount_0f7a4, cJ6_bitCount_0f7a4, 1, (some .int), [])
def m_J9_max_7cf53 : xM := (yJ9_max_7cf53, cJ9_max_7cf53, 2, (some .int), [])
def m_J9_min_7cf53 : xM := (yJ9_min_7cf53, cJ9_min_7cf53, 2, (some .int), [])
def m_Jxa1e45_init_da8c8 : xM := (yJxa1e45_init_da8c8, cJxa1e45_init_da8c8, 1, none, [])
def m_Jxc12de_init_da8c8 : xM := (yJxc12de_init_da8c8, cJxc12de_init_da8c8, 1, none, [])
def m_Jx35411_init_45d68 : xM := (yJx35411_init_45d68, cJx35411_init_45d68, 2, none, [])
def m_Jx35411_hasNext_aae02 : xM := (yJx35411_hasNext_aae02, cJx35411_hasNext_aae02, 1, (some .boolean), [])
def m_Jx35411_next_0502b : xM := (yJx35411_next_0502b, cJx35411_next_0502b, 3, (some (.object "java/lang/Object")), [])
def m_Jx35411_checkForComodification_da8c8 : xM := (yJx35411_checkForComodification_da8c8, cJx35411_checkForComodification_da8c8, 1, none, [])
def m_Jx4a65c_init_da8c8 : xM := (yJx4a65c_init_da8c8, cJx4a65c_init_da8c8, 1, none, [])
def m_Jx4a65c_grow_92f84 : xM := (yJx4a65c_grow_92f84, cJx4a65c_grow_92f84, 4, (some (.array (.object "java/lang/Object"))), [])
def m_Jx4a65c_grow_d5877 : xM := (yJx4a65c_grow_d5877, cJx4a65c_grow_d5877, 1, (some (.array (.object "java/lang/Object"))), [])
def m_Jx4a65c_size_8abf5 : xM := (yJx4a65c_size_8abf5, cJx4a65c_size_8abf5, 1, (some .int), [])
def m_Jx4a65c_elementData_915e3 : xM := (yJx4a65c_elementData_915e3, cJx4a65c_elementData_915e3, 2, (some (.object "java/lang/Object")), [])
def m_Jx4a65c_get_915e3 : xM := (yJx4a65c_get_915e3, cJx4a65c_get_915e3, 2, (some (.object "java/lang/Object")), [])
def m_Jx4a65c_add_72be8 : xM := (yJx4a65c_add_72be8, cJx4a65c_add_72be8, 4, none, [])
def m_Jx4a65c_add_9ea2d : xM := (yJx4a65c_add_9ea2d, cJx4a65c_add_9ea2d, 2, (some .boolean), [])
def m_Jx4a65c_iterator_32c93 : xM := (yJx4a65c_iterator_32c93, cJx4a65c_iterator_32c93, 1, (some (.object "java/util/Iterator")), [])
def m_J7_copyOf_1904c : xM := (yJ7_copyOf_1904c, cJ7_copyOf_1904c, 2, (some (.array (.object "java/lang/Object"))), [])
def m_J7_copyOf_6403c : xM := (yJ7_copyOf_6403c, cJ7_copyOf_6403c, 4, (some (.array (.object "java/lang/Object"))), [])
def m_J15_checkIndex_7cf53 : xM := (yJ15_checkIndex_7cf53, cJ15_checkIndex_7cf53, 2, (some .int), [])
def m_J8_newLength_cabcc : xM := (yJ8_newLength_cabcc, cJ8_newLength_cabcc, 4, (some .int), [])
def m_J8_hugeLength_7cf53 : xM := (yJ8_hugeLength_7cf53, cJ8_hugeLength_7cf53, 3, (some .int), [])
def m_J3_checkIndex_8e157 : xM := (yJ3_checkIndex_8e157, cJ3_checkIndex_8e157, 3, (some .int), [])
def m_L_init : xM := (yL_init, cL_init, 1, none, [])
def m_L_cell : xM := (yL_cell, cL_cell, 2, (some .int), [])
def m_L_draw : xM := (yL_draw, cL_draw, 3, (some .int), [])
def m_L_stirred : xM := (yL_stirred, cL_stirred, 6, (some .int), [])
def m_L_mixed : xM := (yL_mixed, cL_mixed, 3, (some .int), [])
def m_L_has : xM := (yL_has, cL_has, 3, (some .boolean), [])
def m_L_netOn : xM := (yL_netOn, cL_netOn, 8, none, [])
def m_L_leaving : xM := (yL_leaving, cL_leaving, 5, (some .int), [])
def m_L_isFlow : xM := (yL_isFlow, cL_isFlow, 8, (some .boolean), [])
def m_L_out : xM := (yL_out, cL_out, 6, (some .int), [])
def m_L_into : xM := (yL_into, cL_into, 6, (some .int), [])
def m_L_isFilled : xM := (yL_isFilled, cL_isFilled, 6, (some .boolean), [])
def m_L_flowSo : xM := (yL_flowSo, cL_flowSo, 12, (some .boolean), [(29, 40, 43, 100)])
def m_L_pricesSo : xM := (yL_pricesSo, cL_pricesSo, 9, (some .boolean), [(28, 51, 54, 100)])
def m_L_roundsSo : xM := (yL_roundsSo, cL_roundsSo, 7, (some .boolean), [(0, 12, 15, 161)])
def m_L_waysSo : xM := (yL_waysSo, cL_waysSo, 8, (some .boolean), [(65, 94, 97, 161)])
def m_L_demandsSo : xM := (yL_demandsSo, cL_demandsSo, 6, (some .boolean), [])
def m_L_treeSo : xM := (yL_treeSo, cL_treeSo, 6, (some .boolean), [])
def m_L_pairsSo : xM := (yL_pairsSo, cL_pairsSo, 10, (some .boolean), [(166, 225, 228, 100)])
def m_L_othersSo : xM := (yL_othersSo, cL_othersSo, 14, (some .boolean), [])
def m_L_isNear : xM := (yL_isNear, cL_isNear, 2, (some .boolean), [])
def m_L_refusedSo : xM := (yL_refusedSo, cL_refusedSo, 6, (some .boolean), [(21, 135, 138, 246), (21, 135, 138, 248)])
def m_L_holdsAll : xM := (yL_holdsAll, cL_holdsAll, 5, (some .boolean), [])
theorem pl_X0_init : xPl m_X0_init 0 := ⟨by decide +kernel, ⟨by decide +kernel, by decide +kernel, by decide +kernel⟩, xws_one rfl (tb1 _ (List.mem_of_getElem? (i := 128) rfl)) rfl, tb1 _ (List.mem_of_getElem? (i := 4) rfl), by decide +kernel⟩
theorem pl_X0_weigh : xPl m_X0_weigh 2 := ⟨by decide +kernel, ⟨by decide +kernel, by decide +kernel, by decide +kernel⟩, xws_one rfl (tb4 _ (List.mem_of_getElem? (i := 97) rfl)) rfl, tb1 _ (List.mem_of_getElem? (i := 4) rfl), by decide +kernel⟩
theorem pl_X0_sumOfCut : xPl m_X0_sumOfCut 2 := ⟨by decide +kernel, ⟨by decide +kernel, by decide +kernel, by decide +kernel⟩, xws_one rfl (tb4 _ (List.mem_of_getElem? (i := 184) rfl)) rfl, tb1 _ (List.mem_of_getElem? (i := 4) rfl), by decide +kernel⟩
theorem pl_X0_sumBothWays : xPl m_X0_sumBothWays 2 := ⟨by decide +kernel, ⟨by decide +kernel, by decide +kernel, by decide +kernel⟩, xws_one rfl (tb5 _ (List.mem_of_getElem? (i := 239) rfl)) rfl, tb1 _ (List.mem_of_getElem? (i := 4) rfl), by decide +kernel⟩
theorem pl_X0_isCrowd : xPl m_X0_isCrowd 2 := ⟨by decide +kernel, ⟨by decide +kernel, by decide +kernel, by decide +kernel⟩, xws_one rfl (tb4 _ (List.mem_of_getElem? (i := 93) rfl)) rfl, tb1 _ (List.mem_of_getElem? (i := 4) rfl), by decide +kernel⟩
theorem pl_X0_isBroken : xPl m_X0_isBroken 2 := ⟨by decide +kernel, ⟨by decide +kernel, by decide +kernel, by decide +kernel⟩, xws_one rfl (tb5 _ (List.mem_of_getElem? (i := 217) rfl)) rfl, tb1 _ (List.mem_of_getElem? (i := 4) rfl), by decide +kernel⟩
theorem pl_X0_findLeast : xPl m_X0_findLeast 3 := ⟨by decide +kernel, ⟨by decide +kernel, by decide +kernel, by decide +kernel⟩, xws_one rfl (tb4 _ (List.mem_of_getElem? (i := 176) rfl)) rfl, tb1 _ (List.mem_of_getElem? (i := 4) rfl), by decide +kernel⟩
theorem pl_X0_leastCrowd : xPl m_X0_leastCrowd 3 := ⟨by decide +kernel, ⟨by decide +kernel, by decide +kernel, by decide +kernel⟩, xws_one rfl (tb4 _ (List.mem_of_getElem? (i := 86) rfl)) rfl, tb1 _ (List.mem_of_getElem? (i := 4) rfl), by decide +kernel⟩
theorem pl_X0_leastBreaker : xPl m_X0_leastBreaker 1 := ⟨by decide +kernel, ⟨by decide +kernel, by decide +kernel, by decide +kernel⟩, xws_one rfl (tb5 _ (List.mem_of_getElem? (i := 213) rfl)) rfl, tb1 _ (List.mem_of_getElem? (i := 4) rfl), by decide +kernel⟩
theorem pl_X0_fewestApart : xPl m_X0_fewestApart 3 := ⟨by decide +kernel, ⟨by decide +kernel, by decide +kernel, by decide +kernel⟩, xws_one rfl (tb5 _ (List.mem_of_getElem? (i := 172) rfl)) rfl, tb1 _ (List.mem_of_getElem? (i := 4) rfl), by decide +kernel⟩
theorem pl_X1_init : xPl m_X1_init 0 := ⟨by decide +kernel, ⟨by decide +kernel, by decide +kernel, by decide +kernel⟩, xws_one rfl (tb1 _ (List.mem_of_getElem? (i := 56) rfl)) rfl, tb1 _ (List.mem_of_getElem? (i := 3) rfl), by decide +kernel⟩
theorem pl_X1_start : xPl m_X1_start 1 := ⟨by decide +kernel, ⟨by decide +kernel, by decide +kernel, by decide +kernel⟩, xws_one rfl (tb3 _ (List.mem_of_getElem? (i := 233) rfl)) rfl, tb1 _ (List.mem_of_getElem? (i := 3) rfl), by decide +kernel⟩
theorem pl_X1_add : xPl m_X1_add 5 := ⟨by decide +kernel, ⟨by decide +kernel, by decide +kernel, by decide +kernel⟩, xws_one rfl (tb4 _ (List.mem_of_getElem? (i := 1) rfl)) rfl, tb1 _ (List.mem_of_getElem? (i := 3) rfl), by decide +kernel⟩
theorem pl_X1_setBounds : xPl m_X1_setBounds 3 := ⟨by decide +kernel, ⟨by decide +kernel, by decide +kernel, by decide +kernel⟩, xws_one rfl (tb4 _ (List.mem_of_getElem? (i := 9) rfl)) rfl, tb1 _ (List.mem_of_getElem? (i := 3) rfl), by decide +kernel⟩
theorem pl_X1_isNode : xPl m_X1_isNode 1 := ⟨by decide +kernel, ⟨by decide +kernel, by decide +kernel, by decide +kernel⟩, xws_one rfl (tb4 _ (List.mem_of_getElem? (i := 5) rfl)) rfl, tb1 _ (List.mem_of_getElem? (i := 3) rfl), by decide +kernel⟩
theorem pl_X1_isEdge : xPl m_X1_isEdge 1 := ⟨by decide +kernel, ⟨by decide +kernel, by decide +kernel, by decide +kernel⟩, xws_one rfl (tb4 _ (List.mem_of_getElem? (i := 13) rfl)) rfl, tb1 _ (List.mem_of_getElem? (i := 3) rfl), by decide +kernel⟩
theorem pl_X1_numberOf : xPl m_X1_numberOf 1 := ⟨by decide +kernel, ⟨by decide +kernel, by decide +kernel, by decide +kernel⟩, xws_one rfl (tb4 _ (List.mem_of_getElem? (i := 58) rfl)) rfl, tb1 _ (List.mem_of_getElem? (i := 3) rfl), by decide +kernel⟩
theorem pl_X1_keep : xPl m_X1_keep 1 := ⟨by decide +kernel, ⟨by decide +kernel, by decide +kernel, by decide +kernel⟩, xws_one rfl (tb4 _ (List.mem_of_getElem? (i := 27) rfl)) rfl, tb1 _ (List.mem_of_getElem? (i := 3) rfl), by decide +kernel⟩
theorem pl_X1_free : xPl m_X1_free 1 := ⟨by decide +kernel, ⟨by decide +kernel, by decide +kernel, by decide +kernel⟩, xws_one rfl (tb4 _ (List.mem_of_getElem? (i := 53) rfl)) rfl, tb1 _ (List.mem_of_getElem? (i := 3) rfl), by decide +kernel⟩
theorem pl_X1_settle : xPl m_X1_settle 0 := ⟨by decide +kernel, ⟨by decide +kernel, by decide +kernel, by decide +kernel⟩, xws_one rfl (tb4 _ (List.mem_of_getElem? (i := 23) rfl)) rfl, tb1 _ (List.mem_of_getElem? (i := 3) rfl), by decide +kernel⟩
theorem pl_X1_lower : xPl m_X1_lower 1 := ⟨by decide +kernel, ⟨by decide +kernel, by decide +kernel, by decide +kernel⟩, xws_one rfl (tb4 _ (List.mem_of_getElem? (i := 215) rfl)) rfl, tb1 _ (List.mem_of_getElem? (i := 3) rfl), by decide +kernel⟩
theorem pl_X1_push : xPl m_X1_push 3 := ⟨by decide +kernel, ⟨by decide +kernel, by decide +kernel, by decide +kernel⟩, xws_one rfl (tb4 _ (List.mem_of_getElem? (i := 31) rfl)) rfl, tb1 _ (List.mem_of_getElem? (i := 3) rfl), by decide +kernel⟩
theorem pl_X1_send : xPl m_X1_send 3 := ⟨by decide +kernel, ⟨by decide +kernel, by decide +kernel, by decide +kernel⟩, xws_one rfl (tb4 _ (List.mem_of_getElem? (i := 36) rfl)) rfl, tb1 _ (List.mem_of_getElem? (i := 3) rfl), by decide +kernel⟩
theorem pl_X1_setDistances : xPl m_X1_setDistances 2 := ⟨by decide +kernel, ⟨by decide +kernel, by decide +kernel, by decide +kernel⟩, xws_one rfl (tb4 _ (List.mem_of_getElem? (i := 40) rfl)) rfl, tb1 _ (List.mem_of_getElem? (i := 3) rfl), by decide +kernel⟩
theorem pl_X1_leastSign : xPl m_X1_leastSign 2 := ⟨by decide +kernel, ⟨by decide +kernel, by decide +kernel, by decide +kernel⟩, xws_one rfl (tb4 _ (List.mem_of_getElem? (i := 45) rfl)) rfl, tb1 _ (List.mem_of_getElem? (i := 3) rfl), by decide +kernel⟩
theorem pl_X1_shift : xPl m_X1_shift 1 := ⟨by decide +kernel, ⟨by decide +kernel, by decide +kernel, by decide +kernel⟩, xws_one rfl (tb4 _ (List.mem_of_getElem? (i := 49) rfl)) rfl, tb1 _ (List.mem_of_getElem? (i := 3) rfl), by decide +kernel⟩
theorem pl_X1_cheapen : xPl m_X1_cheapen 0 := ⟨by decide +kernel, ⟨by decide +kernel, by decide +kernel, by decide +kernel⟩, xws_one rfl (tb4 _ (List.mem_of_getElem? (i := 235) rfl)) rfl, tb1 _ (List.mem_of_getElem? (i := 3) rfl), by decide +kernel⟩
theorem pl_X1_lowerAll : xPl m_X1_lowerAll 0 := ⟨by decide +kernel, ⟨by decide +kernel, by decide +kernel, by decide +kernel⟩, xws_one rfl (tb4 _ (List.mem_of_getElem? (i := 239) rfl)) rfl, tb1 _ (List.mem_of_getElem? (i := 3) rfl), by decide +kernel⟩
theorem pl_X1_relax : xPl m_X1_relax 0 := ⟨by decide +kernel, ⟨by decide +kernel, by decide +kernel, by decide +kernel⟩, xws_one rfl (tb5 _ (List.mem_of_getElem? (i := 3) rfl)) rfl, tb1 _ (List.mem_of_getElem? (i := 3) rfl), by decide +kernel⟩
theorem pl_X1_findRing : xPl m_X1_findRing 1 := ⟨by decide +kernel, ⟨by decide +kernel, by decide +kernel, by decide +kernel⟩, xws_one rfl (tb5 _ (List.mem_of_getElem? (i := 7) rfl)) rfl, tb1 _ (List.mem_of_getElem? (i := 3) rfl), by decide +kernel⟩
theorem pl_X1_cameFrom : xPl m_X1_cameFrom 1 := ⟨by decide +kernel, ⟨by decide +kernel, by decide +kernel, by decide +kernel⟩, xws_one rfl (tb5 _ (List.mem_of_getElem? (i := 11) rfl)) rfl, tb1 _ (List.mem_of_getElem? (i := 3) rfl), by decide +kernel⟩
theorem pl_X1_keepCheap : xPl m_X1_keepCheap 0 := ⟨by decide +kernel, ⟨by decide +kernel, by decide +kernel, by decide +kernel⟩, xws_one rfl (tb5 _ (List.mem_of_getElem? (i := 15) rfl)) rfl, tb1 _ (List.mem_of_getElem? (i := 3) rfl), by decide +kernel⟩
theorem pl_X1_setLevelsFrom : xPl m_X1_setLevelsFrom 1 := ⟨by decide +kernel, ⟨by decide +kernel, by decide +kernel, by decide +kernel⟩, xws_one rfl (tb5 _ (List.mem_of_getElem? (i := 78) rfl)) rfl, tb1 _ (List.mem_of_getElem? (i := 3) rfl), by decide +kernel⟩
theorem pl_X1_levelOf : xPl m_X1_levelOf 1 := ⟨by decide +kernel, ⟨by decide +kernel, by decide +kernel, by decide +kernel⟩, xws_one rfl (tb5 _ (List.mem_of_getElem? (i := 86) rfl)) rfl, tb1 _ (List.mem_of_getElem? (i := 3) rfl), by decide +kernel⟩
theorem pl_X1_sumOfCosts : xPl m_X1_sumOfCosts 1 := ⟨by decide +kernel, ⟨by decide +kernel, by decide +kernel, by decide +kernel⟩, xws_one rfl (tb5 _ (List.mem_of_getElem? (i := 61) rfl)) rfl, tb1 _ (List.mem_of_getElem? (i := 3) rfl), by decide +kernel⟩
theorem pl_X2_init : xPl m_X2_init 0 := ⟨by decide +kernel, ⟨by decide +kernel, by decide +kernel, by decide +kernel⟩, xws_one rfl (tb1 _ (List.mem_of_getElem? (i := 197) rfl)) rfl, tb1 _ (List.mem_of_getElem? (i := 7) rfl), by decide +kernel⟩
theorem pl_X2_enter : xPl m_X2_enter 1 := ⟨by decide +kernel, ⟨by decide +kernel, by decide +kernel, by decide +kernel⟩, xws_one rfl (tb3 _ (List.mem_of_getElem? (i := 196) rfl)) rfl, tb1 _ (List.mem_of_getElem? (i := 7) rfl), by decide +kernel⟩
theorem pl_X3_init : xPl m_X3_init 1 := ⟨by decide +kernel, ⟨by decide +kernel, by decide +kernel, by decide +kernel⟩, xws_one rfl (tb2 _ (List.mem_of_getElem? (i := 231) rfl)) rfl, tb1 _ (List.mem_of_getElem? (i := 18) rfl), by decide +kernel⟩
theorem pl_X3_put : xPl m_X3_put 5 := ⟨by decide +kernel, ⟨by decide +kernel, by decide +kernel, by decide +kernel⟩, xws_one rfl (tb3 _ (List.mem_of_getElem? (i := 74) rfl)) rfl, tb1 _ (List.mem_of_getElem? (i := 18) rfl), by decide +kernel⟩
theorem pl_X3_set : xPl m_X3_set 4 := ⟨by decide +kernel, ⟨by decide +kernel, by decide +kernel, by decide +kernel⟩, xws_one rfl (tb3 _ (List.mem_of_getElem? (i := 78) rfl)) rfl, tb1 _ (List.mem_of_getElem? (i := 18) rfl), by decide +kernel⟩
theorem pl_X3_hasLeast : xPl m_X3_hasLeast 0 := ⟨by decide +kernel, ⟨by decide +kernel, by decide +kernel, by decide +kernel⟩, xws_one rfl (tb5 _ (List.mem_of_getElem? (i := 108) rfl)) rfl, tb1 _ (List.mem_of_getElem? (i := 18) rfl), by decide +kernel⟩
theorem pl_X3_leadsStraight : xPl m_X3_leadsStraight 2 := ⟨by decide +kernel, ⟨by decide +kernel, by decide +kernel, by decide +kernel⟩, xws_one rfl (tb5 _ (List.mem_of_getElem? (i := 167) rfl)) rfl, tb1 _ (List.mem_of_getElem? (i := 18) rfl), by decide +kernel⟩
theorem pl_X3_reachFrom : xPl m_X3_reachFrom 2 := ⟨by decide +kernel, ⟨by decide +kernel, by decide +kernel, by decide +kernel⟩, xws_one rfl (tb5 _ (List.mem_of_getElem? (i := 182) rfl)) rfl, tb1 _ (List.mem_of_getElem? (i := 18) rfl), by decide +kernel⟩
theorem pl_X3_sumOfAll : xPl m_X3_sumOfAll 0 := ⟨by decide +kernel, ⟨by decide +kernel, by decide +kernel, by decide +kernel⟩, xws_one rfl (tb3 _ (List.mem_of_getElem? (i := 157) rfl)) rfl, tb1 _ (List.mem_of_getElem? (i := 18) rfl), by decide +kernel⟩
theorem pl_X4_init : xPl m_X4_init 0 := ⟨by decide +kernel, ⟨by decide +kernel, by decide +kernel, by decide +kernel⟩, xws_one rfl (tb1 _ (List.mem_of_getElem? (i := 179) rfl)) rfl, tb1 _ (List.mem_of_getElem? (i := 6) rfl), by decide +kernel⟩
theorem pl_X4_gather : xPl m_X4_gather 0 := ⟨by decide +kernel, ⟨by decide +kernel, by decide +kernel, by decide +kernel⟩, xws_one rfl (tb6 _ (List.mem_of_getElem? (i := 33) rfl)) rfl, tb1 _ (List.mem_of_getElem? (i := 6) rfl), by decide +kernel⟩
theorem pl_X4_greatest : xPl m_X4_greatest 2 := ⟨by decide +kernel, ⟨by decide +kernel, by decide +kernel, by decide +kernel⟩, xws_one rfl (tb6 _ (List.mem_of_getElem? (i := 51) rfl)) rfl, tb1 _ (List.mem_of_getElem? (i := 6) rfl), by decide +kernel⟩
theorem pl_X4_tellLeastRow : xPl m_X4_tellLeastRow 0 := ⟨by decide +kernel, ⟨by decide +kernel, by decide +kernel, by decide +kernel⟩, xws_one rfl (tb6 _ (List.mem_of_getElem? (i := 59) rfl)) rfl, tb1 _ (List.mem_of_getElem? (i := 6) rfl), by decide +kernel⟩
theorem pl_X4_leastRight : xPl m_X4_leastRight 3 := ⟨by decide +kernel, ⟨by decide +kernel, by decide +kernel, by decide +kernel⟩, xws_one rfl (tb6 _ (List.mem_of_getElem? (i := 64) rfl)) rfl, tb1 _ (List.mem_of_getElem? (i := 6) rfl), by decide +kernel⟩
theorem pl_X4_likedByOthers : xPl m_X4_likedByOthers 1 := ⟨by decide +kernel, ⟨by decide +kernel, by decide +kernel, by decide +kernel⟩, xws_one rfl (tb6 _ (List.mem_of_getElem? (i := 42) rfl)) rfl, tb1 _ (List.mem_of_getElem? (i := 6) rfl), by decide +kernel⟩
theorem pl_X4_leftOfCover : xPl m_X4_leftOfCover 0 := ⟨by decide +kernel, ⟨by decide +kernel, by decide +kernel, by decide +kernel⟩, xws_one rfl (tb6 _ (List.mem_of_getElem? (i := 37) rfl)) rfl, tb1 _ (List.mem_of_getElem? (i := 6) rfl), by decide +kernel⟩
theorem pl_X4_isCovered : xPl m_X4_isCovered 0 := ⟨by decide +kernel, ⟨by decide +kernel, by decide +kernel, by decide +kernel⟩, xws_one rfl (tb6 _ (List.mem_of_getElem? (i := 174) rfl)) rfl, tb1 _ (List.mem_of_getElem? (i := 6) rfl), by decide +kernel⟩
theorem pl_X5_init : xPl m_X5_init 0 := ⟨by decide +kernel, ⟨by decide +kernel, by decide +kernel, by decide +kernel⟩, xws_one rfl (tb2 _ (List.mem_of_getElem? (i := 6) rfl)) rfl, tb1 _ (List.mem_of_getElem? (i := 9) rfl), by decide +kernel⟩
theorem pl_X5_put : xPl m_X5_put 2 := ⟨by decide +kernel, ⟨by decide +kernel, by decide +kernel, by decide +kernel⟩, xws_one rfl (tb3 _ (List.mem_of_getElem? (i := 206) rfl)) rfl, tb1 _ (List.mem_of_getElem? (i := 9) rfl), by decide +kernel⟩
theorem pl_X5_choose : xPl m_X5_choose 0 := ⟨by decide +kernel, ⟨by decide +kernel, by decide +kernel, by decide +kernel⟩, xws_one rfl (tb6 _ (List.mem_of_getElem? (i := 125) rfl)) rfl, tb1 _ (List.mem_of_getElem? (i := 9) rfl), by decide +kernel⟩
theorem pl_X5_worthOf : xPl m_X5_worthOf 1 := ⟨by decide +kernel, ⟨by decide +kernel, by decide +kernel, by decide +kernel⟩, xws_one rfl (tb6 _ (List.mem_of_getElem? (i := 129) rfl)) rfl, tb1 _ (List.mem_of_getElem? (i := 9) rfl), by decide +kernel⟩
theorem pl_X6_init : xPl m_X6_init 0 := ⟨by decide +kernel, ⟨by decide +kernel, by decide +kernel, by decide +kernel⟩, xws_one rfl (tb1 _ (List.mem_of_getElem? (i := 50) rfl)) rfl, tb1 _ (List.mem_of_getElem? (i := 2) rfl), by decide +kernel⟩
theorem pl_X6_lay : xPl m_X6_lay 3 := ⟨by decide +kernel, ⟨by decide +kernel, by decide +kernel, by decide +kernel⟩, xws_one rfl (tb3 _ (List.mem_of_getElem? (i := 229) rfl)) rfl, tb1 _ (List.mem_of_getElem? (i := 2) rfl), by decide +kernel⟩
theorem pl_X6_addEdges : xPl m_X6_addEdges 1 := ⟨by decide +kernel, ⟨by decide +kernel, by decide +kernel, by decide +kernel⟩, xws_one rfl (tb3 _ (List.mem_of_getElem? (i := 237) rfl)) rfl, tb1 _ (List.mem_of_getElem? (i := 2) rfl), by decide +kernel⟩
theorem pl_X6_fill : xPl m_X6_fill 0 := ⟨by decide +kernel, ⟨by decide +kernel, by decide +kernel, by decide +kernel⟩, xws_one rfl (tb4 _ (List.mem_of_getElem? (i := 19) rfl)) rfl, tb1 _ (List.mem_of_getElem? (i := 2) rfl), by decide +kernel⟩
theorem pl_X6_numberOf : xPl m_X6_numberOf 1 := ⟨by decide +kernel, ⟨by decide +kernel, by decide +kernel, by decide +kernel⟩, xws_one rfl (tb4 _ (List.mem_of_getElem? (i := 219) rfl)) rfl, tb1 _ (List.mem_of_getElem? (i := 2) rfl), by decide +kernel⟩
theorem pl_X6_leastOf : xPl m_X6_leastOf 1 := ⟨by decide +kernel, ⟨by decide +kernel, by decide +kernel, by decide +kernel⟩, xws_one rfl (tb5 _ (List.mem_of_getElem? (i := 37) rfl)) rfl, tb1 _ (List.mem_of_getElem? (i := 2) rfl), by decide +kernel⟩
theorem pl_X6_tellLeastRow : xPl m_X6_tellLeastRow 1 := ⟨by decide +kernel, ⟨by decide +kernel, by decide +kernel, by decide +kernel⟩, xws_one rfl (tb4 _ (List.mem_of_getElem? (i := 211) rfl)) rfl, tb1 _ (List.mem_of_getElem? (i := 2) rfl), by decide +kernel⟩
theorem pl_X6_cheapen : xPl m_X6_cheapen 0 := ⟨by decide +kernel, ⟨by decide +kernel, by decide +kernel, by decide +kernel⟩, xws_one rfl (tb4 _ (List.mem_of_getElem? (i := 231) rfl)) rfl, tb1 _ (List.mem_of_getElem? (i := 2) rfl), by decide +kernel⟩
theorem pl_X6_costOf : xPl m_X6_costOf 1 := ⟨by decide +kernel, ⟨by decide +kernel, by decide +kernel, by decide +kernel⟩, xws_one rfl (tb5 _ (List.mem_of_getElem? (i := 57) rfl)) rfl, tb1 _ (List.mem_of_getElem? (i := 2) rfl), by decide +kernel⟩
theorem pl_X6_setPrices : xPl m_X6_setPrices 2 := ⟨by decide +kernel, ⟨by decide +kernel, by decide +kernel, by decide +kernel⟩, xws_one rfl (tb5 _ (List.mem_of_getElem? (i := 73) rfl)) rfl, tb1 _ (List.mem_of_getElem? (i := 2) rfl), by decide +kernel⟩
theorem pl_X6_hasPrice : xPl m_X6_hasPrice 1 := ⟨by decide +kernel, ⟨by decide +kernel, by decide +kernel, by decide +kernel⟩, xws_one rfl (tb5 _ (List.mem_of_getElem? (i := 82) rfl)) rfl, tb1 _ (List.mem_of_getElem? (i := 2) rfl), by decide +kernel⟩
theorem pl_X6_priceOf : xPl m_X6_priceOf 1 := ⟨by decide +kernel, ⟨by decide +kernel, by decide +kernel, by decide +kernel⟩, xws_one rfl (tb5 _ (List.mem_of_getElem? (i := 92) rfl)) rfl, tb1 _ (List.mem_of_getElem? (i := 2) rfl), by decide +kernel⟩
theorem pl_X6_goRounds : xPl m_X6_goRounds 4 := ⟨by decide +kernel, ⟨by decide +kernel, by decide +kernel, by decide +kernel⟩, xws_one rfl (tb5 _ (List.mem_of_getElem? (i := 129) rfl)) rfl, tb1 _ (List.mem_of_getElem? (i := 2) rfl), by decide +kernel⟩
theorem pl_X6_waysByEdges : xPl m_X6_waysByEdges 3 := ⟨by decide +kernel, ⟨by decide +kernel, by decide +kernel, by decide +kernel⟩, xws_one rfl (tb5 _ (List.mem_of_getElem? (i := 159) rfl)) rfl, tb1 _ (List.mem_of_getElem? (i := 2) rfl), by decide +kernel⟩
theorem pl_X6_waysByCorners : xPl m_X6_waysByCorners 3 := ⟨by decide +kernel, ⟨by decide +kernel, by decide +kernel, by decide +kernel⟩, xws_one rfl (tb5 _ (List.mem_of_getElem? (i := 151) rfl)) rfl, tb1 _ (List.mem_of_getElem? (i := 2) rfl), by decide +kernel⟩
theorem pl_X6_meetDemands : xPl m_X6_meetDemands 1 := ⟨by decide +kernel, ⟨by decide +kernel, by decide +kernel, by decide +kernel⟩, xws_one rfl (tb5 _ (List.mem_of_getElem? (i := 205) rfl)) rfl, tb1 _ (List.mem_of_getElem? (i := 2) rfl), by decide +kernel⟩
theorem pl_X6_arriveBy : xPl m_X6_arriveBy 4 := ⟨by decide +kernel, ⟨by decide +kernel, by decide +kernel, by decide +kernel⟩, xws_one rfl (tb5 _ (List.mem_of_getElem? (i := 193) rfl)) rfl, tb1 _ (List.mem_of_getElem? (i := 2) rfl), by decide +kernel⟩
theorem pl_X6_fills : xPl m_X6_fills 2 := ⟨by decide +kernel, ⟨by decide +kernel, by decide +kernel, by decide +kernel⟩, xws_one rfl (tb6 _ (List.mem_of_getElem? (i := 151) rfl)) rfl, tb1 _ (List.mem_of_getElem? (i := 2) rfl), by decide +kernel⟩
theorem pl_X6_arePricesRight : xPl m_X6_arePricesRight 1 := ⟨by decide +kernel, ⟨by decide +kernel, by decide +kernel, by decide +kernel⟩, xws_one rfl (tb6 _ (List.mem_of_getElem? (i := 157) rfl)) rfl, tb1 _ (List.mem_of_getElem? (i := 2) rfl), by decide +kernel⟩
theorem pl_X7_init : xPl m_X7_init 0 := ⟨by decide +kernel, ⟨by decide +kernel, by decide +kernel, by decide +kernel⟩, xws_one rfl (tb1 _ (List.mem_of_getElem? (i := 214) rfl)) rfl, tb1 _ (List.mem_of_getElem? (i := 8) rfl), by decide +kernel⟩
theorem pl_X7_start : xPl m_X7_start 2 := ⟨by decide +kernel, ⟨by decide +kernel, by decide +kernel, by decide +kernel⟩, xws_one rfl (tb6 _ (List.mem_of_getElem? (i := 79) rfl)) rfl, tb1 _ (List.mem_of_getElem? (i := 8) rfl), by decide +kernel⟩
theorem pl_X7_placeOf : xPl m_X7_placeOf 2 := ⟨by decide +kernel, ⟨by decide +kernel, by decide +kernel, by decide +kernel⟩, xws_one rfl (tb6 _ (List.mem_of_getElem? (i := 93) rfl)) rfl, tb1 _ (List.mem_of_getElem? (i := 8) rfl), by decide +kernel⟩
theorem pl_X7_addUp : xPl m_X7_addUp 1 := ⟨by decide +kernel, ⟨by decide +kernel, by decide +kernel, by decide +kernel⟩, xws_one rfl (tb6 _ (List.mem_of_getElem? (i := 105) rfl)) rfl, tb1 _ (List.mem_of_getElem? (i := 8) rfl), by decide +kernel⟩
theorem pl_X7_roundBy : xPl m_X7_roundBy 1 := ⟨by decide +kernel, ⟨by decide +kernel, by decide +kernel, by decide +kernel⟩, xws_one rfl (tb6 _ (List.mem_of_getElem? (i := 101) rfl)) rfl, tb1 _ (List.mem_of_getElem? (i := 8) rfl), by decide +kernel⟩
theorem pl_X7_addRounded : xPl m_X7_addRounded 4 := ⟨by decide +kernel, ⟨by decide +kernel, by decide +kernel, by decide +kernel⟩, xws_one rfl (tb6 _ (List.mem_of_getElem? (i := 110) rfl)) rfl, tb1 _ (List.mem_of_getElem? (i := 8) rfl), by decide +kernel⟩
theorem pl_X7_isRounded : xPl m_X7_isRounded 0 := ⟨by decide +kernel, ⟨by decide +kernel, by decide +kernel, by decide +kernel⟩, xws_one rfl (tb6 _ (List.mem_of_getElem? (i := 179) rfl)) rfl, tb1 _ (List.mem_of_getElem? (i := 8) rfl), by decide +kernel⟩
theorem pl_X7_sumOfTenths : xPl m_X7_sumOfTenths 4 := ⟨by decide +kernel, ⟨by decide +kernel, by decide +kernel, by decide +kernel⟩, xws_one rfl (tb6 _ (List.mem_of_getElem? (i := 186) rfl)) rfl, tb1 _ (List.mem_of_getElem? (i := 8) rfl), by decide +kernel⟩
theorem pl_X7_isNear : xPl m_X7_isNear 2 := ⟨by decide +kernel, ⟨by decide +kernel, by decide +kernel, by decide +kernel⟩, xws_one rfl (tb6 _ (List.mem_of_getElem? (i := 182) rfl)) rfl, tb1 _ (List.mem_of_getElem? (i := 8) rfl), by decide +kernel⟩
theorem pl_X8_init : xPl m_X8_init 0 := ⟨by decide +kernel, ⟨by decide +kernel, by decide +kernel, by decide +kernel⟩, xws_one rfl (tb1 _ (List.mem_of_getElem? (i := 159) rfl)) rfl, tb1 _ (List.mem_of_getElem? (i := 5) rfl), by decide +kernel⟩
theorem pl_X8_measure : xPl m_X8_measure 2 := ⟨by decide +kernel, ⟨by decide +kernel, by decide +kernel, by decide +kernel⟩, xws_one rfl (tb5 _ (List.mem_of_getElem? (i := 235) rfl)) rfl, tb1 _ (List.mem_of_getElem? (i := 5) rfl), by decide +kernel⟩
theorem pl_X8_leastCut : xPl m_X8_leastCut 2 := ⟨by decide +kernel, ⟨by decide +kernel, by decide +kernel, by decide +kernel⟩, xws_one rfl (tb6 _ (List.mem_of_getElem? (i := 3) rfl)) rfl, tb1 _ (List.mem_of_getElem? (i := 5) rfl), by decide +kernel⟩
theorem pl_X8_sideInAll : xPl m_X8_sideInAll 3 := ⟨by decide +kernel, ⟨by decide +kernel, by decide +kernel, by decide +kernel⟩, xws_one rfl (tb6 _ (List.mem_of_getElem? (i := 20) rfl)) rfl, tb1 _ (List.mem_of_getElem? (i := 5) rfl), by decide +kernel⟩
theorem pl_X8_grow : xPl m_X8_grow 0 := ⟨by decide +kernel, ⟨by decide +kernel, by decide +kernel, by decide +kernel⟩, xws_one rfl (tb6 _ (List.mem_of_getElem? (i := 15) rfl)) rfl, tb1 _ (List.mem_of_getElem? (i := 5) rfl), by decide +kernel⟩
theorem pl_X8_leastOnWay : xPl m_X8_leastOnWay 2 := ⟨by decide +kernel, ⟨by decide +kernel, by decide +kernel, by decide +kernel⟩, xws_one rfl (tb6 _ (List.mem_of_getElem? (i := 170) rfl)) rfl, tb1 _ (List.mem_of_getElem? (i := 5) rfl), by decide +kernel⟩
theorem pl_X9_init : xPl m_X9_init 0 := ⟨by decide +kernel, ⟨by decide +kernel, by decide +kernel, by decide +kernel⟩, xws_one rfl (tb1 _ (List.mem_of_getElem? (i := 42) rfl)) rfl, tb1 _ (List.mem_of_getElem? (i := 1) rfl), by decide +kernel⟩
theorem pl_X9_net : xPl m_X9_net 1 := ⟨by decide +kernel, ⟨by decide +kernel, by decide +kernel, by decide +kernel⟩, xws_one rfl (tb2 _ (List.mem_of_getElem? (i := 141) rfl)) rfl, tb1 _ (List.mem_of_getElem? (i := 1) rfl), by decide +kernel⟩
theorem pl_X9_edge : xPl m_X9_edge 6 := ⟨by decide +kernel, ⟨by decide +kernel, by decide +kernel, by decide +kernel⟩, xws_one rfl (tb3 _ (List.mem_of_getElem? (i := 41) rfl)) rfl, tb1 _ (List.mem_of_getElem? (i := 1) rfl), by decide +kernel⟩
theorem pl_X9_change : xPl m_X9_change 5 := ⟨by decide +kernel, ⟨by decide +kernel, by decide +kernel, by decide +kernel⟩, xws_one rfl (tb3 _ (List.mem_of_getElem? (i := 163) rfl)) rfl, tb1 _ (List.mem_of_getElem? (i := 1) rfl), by decide +kernel⟩
theorem pl_X9_supply : xPl m_X9_supply 3 := ⟨by decide +kernel, ⟨by decide +kernel, by decide +kernel, by decide +kernel⟩, xws_one rfl (tb3 _ (List.mem_of_getElem? (i := 172) rfl)) rfl, tb1 _ (List.mem_of_getElem? (i := 1) rfl), by decide +kernel⟩
theorem pl_X9_most : xPl m_X9_most 3 := ⟨by decide +kernel, ⟨by decide +kernel, by decide +kernel, by decide +kernel⟩, xws_one rfl (tb3 _ (List.mem_of_getElem? (i := 221) rfl)) rfl, tb1 _ (List.mem_of_getElem? (i := 1) rfl), by decide +kernel⟩
theorem pl_X9_flow : xPl m_X9_flow 4 := ⟨by decide +kernel, ⟨by decide +kernel, by decide +kernel, by decide +kernel⟩, xws_one rfl (tb4 _ (List.mem_of_getElem? (i := 203) rfl)) rfl, tb1 _ (List.mem_of_getElem? (i := 1) rfl), by decide +kernel⟩
theorem pl_X9_crowd : xPl m_X9_crowd 3 := ⟨by decide +kernel, ⟨by decide +kernel, by decide +kernel, by decide +kernel⟩, xws_one rfl (tb4 _ (List.mem_of_getElem? (i := 82) rfl)) rfl, tb1 _ (List.mem_of_getElem? (i := 1) rfl), by decide +kernel⟩
theorem pl_X9_cut : xPl m_X9_cut 4 := ⟨by decide +kernel, ⟨by decide +kernel, by decide +kernel, by decide +kernel⟩, xws_one rfl (tb4 _ (List.mem_of_getElem? (i := 172) rfl)) rfl, tb1 _ (List.mem_of_getElem? (i := 1) rfl), by decide +kernel⟩
theorem pl_X9_cutSum : xPl m_X9_cutSum 4 := ⟨by decide +kernel, ⟨by decide +kernel, by decide +kernel, by decide +kernel⟩, xws_one rfl (tb4 _ (List.mem_of_getElem? (i := 188) rfl)) rfl, tb1 _ (List.mem_of_getElem? (i := 1) rfl), by decide +kernel⟩
theorem pl_X9_cuts : xPl m_X9_cuts 3 := ⟨by decide +kernel, ⟨by decide +kernel, by decide +kernel, by decide +kernel⟩, xws_one rfl (tb4 _ (List.mem_of_getElem? (i := 195) rfl)) rfl, tb1 _ (List.mem_of_getElem? (i := 1) rfl), by decide +kernel⟩
theorem pl_X9_isFull : xPl m_X9_isFull 4 := ⟨by decide +kernel, ⟨by decide +kernel, by decide +kernel, by decide +kernel⟩, xws_one rfl (tb5 _ (List.mem_of_getElem? (i := 33) rfl)) rfl, tb1 _ (List.mem_of_getElem? (i := 1) rfl), by decide +kernel⟩
theorem pl_X9_rounds : xPl m_X9_rounds 3 := ⟨by decide +kernel, ⟨by decide +kernel, by decide +kernel, by decide +kernel⟩, xws_one rfl (tb5 _ (List.mem_of_getElem? (i := 101) rfl)) rfl, tb1 _ (List.mem_of_getElem? (i := 1) rfl), by decide +kernel⟩
theorem pl_X9_roundAmount : xPl m_X9_roundAmount 4 := ⟨by decide +kernel, ⟨by decide +kernel, by decide +kernel, by decide +kernel⟩, xws_one rfl (tb5 _ (List.mem_of_getElem? (i := 134) rfl)) rfl, tb1 _ (List.mem_of_getElem? (i := 1) rfl), by decide +kernel⟩
theorem pl_X9_cost : xPl m_X9_cost 3 := ⟨by decide +kernel, ⟨by decide +kernel, by decide +kernel, by decide +kernel⟩, xws_one rfl (tb5 _ (List.mem_of_getElem? (i := 53) rfl)) rfl, tb1 _ (List.mem_of_getElem? (i := 1) rfl), by decide +kernel⟩
theorem pl_X9_cheapest : xPl m_X9_cheapest 4 := ⟨by decide +kernel, ⟨by decide +kernel, by decide +kernel, by decide +kernel⟩, xws_one rfl (tb4 _ (List.mem_of_getElem? (i := 223) rfl)) rfl, tb1 _ (List.mem_of_getElem? (i := 1) rfl), by decide +kernel⟩
theorem pl_X9_price : xPl m_X9_price 4 := ⟨by decide +kernel, ⟨by decide +kernel, by decide +kernel, by decide +kernel⟩, xws_one rfl (tb5 _ (List.mem_of_getElem? (i := 69) rfl)) rfl, tb1 _ (List.mem_of_getElem? (i := 1) rfl), by decide +kernel⟩
theorem pl_X9_edgeWays : xPl m_X9_edgeWays 3 := ⟨by decide +kernel, ⟨by decide +kernel, by decide +kernel, by decide +kernel⟩, xws_one rfl (tb5 _ (List.mem_of_getElem? (i := 155) rfl)) rfl, tb1 _ (List.mem_of_getElem? (i := 1) rfl), by decide +kernel⟩
theorem pl_X9_cornerWays : xPl m_X9_cornerWays 3 := ⟨by decide +kernel, ⟨by decide +kernel, by decide +kernel, by decide +kernel⟩, xws_one rfl (tb5 _ (List.mem_of_getElem? (i := 147) rfl)) rfl, tb1 _ (List.mem_of_getElem? (i := 1) rfl), by decide +kernel⟩
theorem pl_X9_apart : xPl m_X9_apart 3 := ⟨by decide +kernel, ⟨by decide +kernel, by decide +kernel, by decide +kernel⟩, xws_one rfl (tb5 _ (List.mem_of_getElem? (i := 163) rfl)) rfl, tb1 _ (List.mem_of_getElem? (i := 1) rfl), by decide +kernel⟩
theorem pl_X9_holds : xPl m_X9_holds 1 := ⟨by decide +kernel, ⟨by decide +kernel, by decide +kernel, by decide +kernel⟩, xws_one rfl (tb5 _ (List.mem_of_getElem? (i := 201) rfl)) rfl, tb1 _ (List.mem_of_getElem? (i := 1) rfl), by decide +kernel⟩
theorem pl_X9_meets : xPl m_X9_meets 2 := ⟨by decide +kernel, ⟨by decide +kernel, by decide +kernel, by decide +kernel⟩, xws_one rfl (tb5 _ (List.mem_of_getElem? (i := 222) rfl)) rfl, tb1 _ (List.mem_of_getElem? (i := 1) rfl), by decide +kernel⟩
theorem pl_X9_breaks : xPl m_X9_breaks 1 := ⟨by decide +kernel, ⟨by decide +kernel, by decide +kernel, by decide +kernel⟩, xws_one rfl (tb5 _ (List.mem_of_getElem? (i := 209) rfl)) rfl, tb1 _ (List.mem_of_getElem? (i := 1) rfl), by decide +kernel⟩
theorem pl_X9_parent : xPl m_X9_parent 2 := ⟨by decide +kernel, ⟨by decide +kernel, by decide +kernel, by decide +kernel⟩, xws_one rfl (tb6 _ (List.mem_of_getElem? (i := 10) rfl)) rfl, tb1 _ (List.mem_of_getElem? (i := 1) rfl), by decide +kernel⟩
theorem pl_X9_between : xPl m_X9_between 3 := ⟨by decide +kernel, ⟨by decide +kernel, by decide +kernel, by decide +kernel⟩, xws_one rfl (tb5 _ (List.mem_of_getElem? (i := 231) rfl)) rfl, tb1 _ (List.mem_of_getElem? (i := 1) rfl), by decide +kernel⟩
theorem pl_X9_inSteps : xPl m_X9_inSteps 4 := ⟨by decide +kernel, ⟨by decide +kernel, by decide +kernel, by decide +kernel⟩, xws_one rfl (tb5 _ (List.mem_of_getElem? (i := 188) rfl)) rfl, tb1 _ (List.mem_of_getElem? (i := 1) rfl), by decide +kernel⟩
theorem pl_X9_likes : xPl m_X9_likes 2 := ⟨by decide +kernel, ⟨by decide +kernel, by decide +kernel, by decide +kernel⟩, xws_one rfl (tb3 _ (List.mem_of_getElem? (i := 181) rfl)) rfl, tb1 _ (List.mem_of_getElem? (i := 1) rfl), by decide +kernel⟩
theorem pl_X9_pairs : xPl m_X9_pairs 0 := ⟨by decide +kernel, ⟨by decide +kernel, by decide +kernel, by decide +kernel⟩, xws_one rfl (tb6 _ (List.mem_of_getElem? (i := 47) rfl)) rfl, tb1 _ (List.mem_of_getElem? (i := 1) rfl), by decide +kernel⟩
theorem pl_X9_pairOf : xPl m_X9_pairOf 1 := ⟨by decide +kernel, ⟨by decide +kernel, by decide +kernel, by decide +kernel⟩, xws_one rfl (tb6 _ (List.mem_of_getElem? (i := 55) rfl)) rfl, tb1 _ (List.mem_of_getElem? (i := 1) rfl), by decide +kernel⟩
theorem pl_X9_cover : xPl m_X9_cover 1 := ⟨by decide +kernel, ⟨by decide +kernel, by decide +kernel, by decide +kernel⟩, xws_one rfl (tb6 _ (List.mem_of_getElem? (i := 29) rfl)) rfl, tb1 _ (List.mem_of_getElem? (i := 1) rfl), by decide +kernel⟩
theorem pl_X9_team : xPl m_X9_team 1 := ⟨by decide +kernel, ⟨by decide +kernel, by decide +kernel, by decide +kernel⟩, xws_one rfl (tb3 _ (List.mem_of_getElem? (i := 190) rfl)) rfl, tb1 _ (List.mem_of_getElem? (i := 1) rfl), by decide +kernel⟩
theorem pl_X9_table : xPl m_X9_table 2 := ⟨by decide +kernel, ⟨by decide +kernel, by decide +kernel, by decide +kernel⟩, xws_one rfl (tb6 _ (List.mem_of_getElem? (i := 74) rfl)) rfl, tb1 _ (List.mem_of_getElem? (i := 1) rfl), by decide +kernel⟩
theorem pl_X9_tell : xPl m_X9_tell 3 := ⟨by decide +kernel, ⟨by decide +kernel, by decide +kernel, by decide +kernel⟩, xws_one rfl (tb6 _ (List.mem_of_getElem? (i := 83) rfl)) rfl, tb1 _ (List.mem_of_getElem? (i := 1) rfl), by decide +kernel⟩
theorem pl_X9_rounded : xPl m_X9_rounded 2 := ⟨by decide +kernel, ⟨by decide +kernel, by decide +kernel, by decide +kernel⟩, xws_one rfl (tb6 _ (List.mem_of_getElem? (i := 97) rfl)) rfl, tb1 _ (List.mem_of_getElem? (i := 1) rfl), by decide +kernel⟩
theorem pl_X9_project : xPl m_X9_project 2 := ⟨by decide +kernel, ⟨by decide +kernel, by decide +kernel, by decide +kernel⟩, xws_one rfl (tb3 _ (List.mem_of_getElem? (i := 200) rfl)) rfl, tb1 _ (List.mem_of_getElem? (i := 1) rfl), by decide +kernel⟩
theorem pl_X9_toolCost : xPl m_X9_toolCost 2 := ⟨by decide +kernel, ⟨by decide +kernel, by decide +kernel, by decide +kernel⟩, xws_one rfl (tb3 _ (List.mem_of_getElem? (i := 210) rfl)) rfl, tb1 _ (List.mem_of_getElem? (i := 1) rfl), by decide +kernel⟩
theorem pl_X9_best : xPl m_X9_best 0 := ⟨by decide +kernel, ⟨by decide +kernel, by decide +kernel, by decide +kernel⟩, xws_one rfl (tb6 _ (List.mem_of_getElem? (i := 121) rfl)) rfl, tb1 _ (List.mem_of_getElem? (i := 1) rfl), by decide +kernel⟩
theorem pl_X9_chosen : xPl m_X9_chosen 1 := ⟨by decide +kernel, ⟨by decide +kernel, by decide +kernel, by decide +kernel⟩, xws_one rfl (tb6 _ (List.mem_of_getElem? (i := 134) rfl)) rfl, tb1 _ (List.mem_of_getElem? (i := 1) rfl), by decide +kernel⟩
theorem pl_X9_checksum : xPl m_X9_checksum 1 := ⟨by decide +kernel, ⟨by decide +kernel, by decide +kernel, by decide +kernel⟩, xws_one rfl (tb3 _ (List.mem_of_getElem? (i := 153) rfl)) rfl, tb1 _ (List.mem_of_getElem? (i := 1) rfl), by decide +kernel⟩
theorem pl_X9_isSound : xPl m_X9_isSound 0 := ⟨by decide +kernel, ⟨by decide +kernel, by decide +kernel, by decide +kernel⟩, xws_one rfl (tb6 _ (List.mem_of_getElem? (i := 138) rfl)) rfl, tb1 _ (List.mem_of_getElem? (i := 1) rfl), by decide +kernel⟩
theorem pl_X9_isFlowSound : xPl m_X9_isFlowSound 1 := ⟨by decide +kernel, ⟨by decide +kernel, by decide +kernel, by decide +kernel⟩, xws_one rfl (tb6 _ (List.mem_of_getElem? (i := 142) rfl)) rfl, tb1 _ (List.mem_of_getElem? (i := 1) rfl), by decide +kernel⟩
theorem pl_X9_isCutSound : xPl m_X9_isCutSound 3 := ⟨by decide +kernel, ⟨by decide +kernel, by decide +kernel, by decide +kernel⟩, xws_one rfl (tb6 _ (List.mem_of_getElem? (i := 147) rfl)) rfl, tb1 _ (List.mem_of_getElem? (i := 1) rfl), by decide +kernel⟩
theorem pl_X9_areRoundsSound : xPl m_X9_areRoundsSound 3 := ⟨by decide +kernel, ⟨by decide +kernel, by decide +kernel, by decide +kernel⟩, xws_one rfl (tb6 _ (List.mem_of_getElem? (i := 162) rfl)) rfl, tb1 _ (List.mem_of_getElem? (i := 1) rfl), by decide +kernel⟩
theorem pl_X9_isTreeSound : xPl m_X9_isTreeSound 1 := ⟨by decide +kernel, ⟨by decide +kernel, by decide +kernel, by decide +kernel⟩, xws_one rfl (tb6 _ (List.mem_of_getElem? (i := 166) rfl)) rfl, tb1 _ (List.mem_of_getElem? (i := 1) rfl), by decide +kernel⟩
theorem pl_X9_greatestAmount : xPl m_X9_greatestAmount 3 := ⟨by decide +kernel, ⟨by decide +kernel, by decide +kernel, by decide +kernel⟩, xws_one rfl (tb3 _ (List.mem_of_getElem? (i := 225) rfl)) rfl, tb1 _ (List.mem_of_getElem? (i := 1) rfl), by decide +kernel⟩
theorem pl_X9_tellGreatest : xPl m_X9_tellGreatest 3 := ⟨by decide +kernel, ⟨by decide +kernel, by decide +kernel, by decide +kernel⟩, xws_one rfl (tb4 _ (List.mem_of_getElem? (i := 207) rfl)) rfl, tb1 _ (List.mem_of_getElem? (i := 1) rfl), by decide +kernel⟩
theorem pl_X9_tellCheapest : xPl m_X9_tellCheapest 3 := ⟨by decide +kernel, ⟨by decide +kernel, by decide +kernel, by decide +kernel⟩, xws_one rfl (tb4 _ (List.mem_of_getElem? (i := 227) rfl)) rfl, tb1 _ (List.mem_of_getElem? (i := 1) rfl), by decide +kernel⟩
theorem pl_X9_netAt : xPl m_X9_netAt 1 := ⟨by decide +kernel, ⟨by decide +kernel, by decide +kernel, by decide +kernel⟩, xws_one rfl (tb3 _ (List.mem_of_getElem? (i := 45) rfl)) rfl, tb1 _ (List.mem_of_getElem? (i := 1) rfl), by decide +kernel⟩
theorem pl_X9_needEdge : xPl m_X9_needEdge 2 := ⟨by decide +kernel, ⟨by decide +kernel, by decide +kernel, by decide +kernel⟩, xws_one rfl (tb3 _ (List.mem_of_getElem? (i := 166) rfl)) rfl, tb1 _ (List.mem_of_getElem? (i := 1) rfl), by decide +kernel⟩
theorem pl_X9_needCorner : xPl m_X9_needCorner 2 := ⟨by decide +kernel, ⟨by decide +kernel, by decide +kernel, by decide +kernel⟩, xws_one rfl (tb3 _ (List.mem_of_getElem? (i := 175) rfl)) rfl, tb1 _ (List.mem_of_getElem? (i := 1) rfl), by decide +kernel⟩
theorem pl_X9_needEnds : xPl m_X9_needEnds 3 := ⟨by decide +kernel, ⟨by decide +kernel, by decide +kernel, by decide +kernel⟩, xws_one rfl (tb3 _ (List.mem_of_getElem? (i := 64) rfl)) rfl, tb1 _ (List.mem_of_getElem? (i := 1) rfl), by decide +kernel⟩
theorem pl_X9_needNumbers : xPl m_X9_needNumbers 3 := ⟨by decide +kernel, ⟨by decide +kernel, by decide +kernel, by decide +kernel⟩, xws_one rfl (tb3 _ (List.mem_of_getElem? (i := 68) rfl)) rfl, tb1 _ (List.mem_of_getElem? (i := 1) rfl), by decide +kernel⟩
theorem pl_X9_needFlow : xPl m_X9_needFlow 1 := ⟨by decide +kernel, ⟨by decide +kernel, by decide +kernel, by decide +kernel⟩, xws_one rfl (tb4 _ (List.mem_of_getElem? (i := 62) rfl)) rfl, tb1 _ (List.mem_of_getElem? (i := 1) rfl), by decide +kernel⟩
theorem pl_X9_needNoLeasts : xPl m_X9_needNoLeasts 1 := ⟨by decide +kernel, ⟨by decide +kernel, by decide +kernel, by decide +kernel⟩, xws_one rfl (tb5 _ (List.mem_of_getElem? (i := 104) rfl)) rfl, tb1 _ (List.mem_of_getElem? (i := 1) rfl), by decide +kernel⟩
theorem pl_X9_needRound : xPl m_X9_needRound 4 := ⟨by decide +kernel, ⟨by decide +kernel, by decide +kernel, by decide +kernel⟩, xws_one rfl (tb5 _ (List.mem_of_getElem? (i := 138) rfl)) rfl, tb1 _ (List.mem_of_getElem? (i := 1) rfl), by decide +kernel⟩
theorem pl_X9_needLeft : xPl m_X9_needLeft 1 := ⟨by decide +kernel, ⟨by decide +kernel, by decide +kernel, by decide +kernel⟩, xws_one rfl (tb3 _ (List.mem_of_getElem? (i := 184) rfl)) rfl, tb1 _ (List.mem_of_getElem? (i := 1) rfl), by decide +kernel⟩
theorem pl_X9_needPlace : xPl m_X9_needPlace 2 := ⟨by decide +kernel, ⟨by decide +kernel, by decide +kernel, by decide +kernel⟩, xws_one rfl (tb6 _ (List.mem_of_getElem? (i := 87) rfl)) rfl, tb1 _ (List.mem_of_getElem? (i := 1) rfl), by decide +kernel⟩
theorem pl_X9_hasBit : xPl m_X9_hasBit 2 := ⟨by decide +kernel, ⟨by decide +kernel, by decide +kernel, by decide +kernel⟩, xws_one rfl (tb4 _ (List.mem_of_getElem? (i := 89) rfl)) rfl, tb1 _ (List.mem_of_getElem? (i := 1) rfl), by decide +kernel⟩
theorem pl_X9_hasOneOf : xPl m_X9_hasOneOf 3 := ⟨by decide +kernel, ⟨by decide +kernel, by decide +kernel, by decide +kernel⟩, xws_one rfl (tb4 _ (List.mem_of_getElem? (i := 179) rfl)) rfl, tb1 _ (List.mem_of_getElem? (i := 1) rfl), by decide +kernel⟩
theorem pl_J6_bitCount_0f7a4 : xPl m_J6_bitCount_0f7a4 1 := ⟨by decide +kernel, ⟨by decide +kernel, by decide +kernel, by decide +kernel⟩, xws_one rfl (tb5 _ (List.mem_of_getElem? (i := 175) rfl)) rfl, tb1 _ (List.mem_of_getElem? (i := 29) rfl), by decide +kernel⟩
theorem pl_Jxa1e45_init_da8c8 : xPl m_Jxa1e45_init_da8c8 0 := ⟨by decide +kernel, ⟨by decide +kernel, by decide +kernel, by decide +kernel⟩, xws_one rfl (tb2 _ (List.mem_of_getElem? (i := 73) rfl)) rfl, tb1 _ (List.mem_of_getElem? (i := 10) rfl), by decide +kernel⟩
theorem pl_Jxc12de_init_da8c8 : xPl m_Jxc12de_init_da8c8 0 := ⟨by decide +kernel, ⟨by decide +kernel, by decide +kernel, by decide +kernel⟩, xws_one rfl (tb2 _ (List.mem_of_getElem? (i := 70) rfl)) rfl, tb1 _ (List.mem_of_getElem? (i := 11) rfl), by decide +kernel⟩
theorem pl_Jx35411_init_45d68 : xPl m_Jx35411_init_45d68 1 := ⟨by decide +kernel, ⟨by decide +kernel, by decide +kernel, by decide +kernel⟩, xws_one rfl (tb4 _ (List.mem_of_getElem? (i := 115) rfl)) rfl, tb1 _ (List.mem_of_getElem? (i := 25) rfl), by decide +kernel⟩
theorem pl_Jx35411_hasNext_aae02 : xPl m_Jx35411_hasNext_aae02 0 := ⟨by decide +kernel, ⟨by decide +kernel, by decide +kernel, by decide +kernel⟩, xws_one rfl (tb4 _ (List.mem_of_getElem? (i := 139) rfl)) rfl, tb1 _ (List.mem_of_getElem? (i := 25) rfl), by decide +kernel⟩
theorem pl_Jx35411_next_0502b : xPl m_Jx35411_next_0502b 0 := ⟨by decide +kernel, ⟨by decide +kernel, by decide +kernel, by decide +kernel⟩, xws_one rfl (tb4 _ (List.mem_of_getElem? (i := 148) rfl)) rfl, tb1 _ (List.mem_of_getElem? (i := 25) rfl), by decide +kernel⟩
theorem pl_Jx35411_checkForComodification_da8c8 : xPl m_Jx35411_checkForComodification_da8c8 0 := ⟨by decide +kernel, ⟨by decide +kernel, by decide +kernel, by decide +kernel⟩, xws_one rfl (tb4 _ (List.mem_of_getElem? (i := 152) rfl)) rfl, tb1 _ (List.mem_of_getElem? (i := 25) rfl), by decide +kernel⟩
theorem pl_Jx4a65c_init_da8c8 : xPl m_Jx4a65c_init_da8c8 0 := ⟨by decide +kernel, ⟨by decide +kernel, by decide +kernel, by decide +kernel⟩, xws_one rfl (tb2 _ (List.mem_of_getElem? (i := 67) rfl)) rfl, tb1 _ (List.mem_of_getElem? (i := 12) rfl), by decide +kernel⟩
theorem pl_Jx4a65c_grow_92f84 : xPl m_Jx4a65c_grow_92f84 1 := ⟨by decide +kernel, ⟨by decide +kernel, by decide +kernel, by decide +kernel⟩, xws_one rfl (tb3 _ (List.mem_of_getElem? (i := 94) rfl)) rfl, tb1 _ (List.mem_of_getElem? (i := 12) rfl), by decide +kernel⟩
theorem pl_Jx4a65c_grow_d5877 : xPl m_Jx4a65c_grow_d5877 0 := ⟨by decide +kernel, ⟨by decide +kernel, by decide +kernel, by decide +kernel⟩, xws_one rfl (tb3 _ (List.mem_of_getElem? (i := 90) rfl)) rfl, tb1 _ (List.mem_of_getElem? (i := 12) rfl), by decide +kernel⟩
theorem pl_Jx4a65c_size_8abf5 : xPl m_Jx4a65c_size_8abf5 0 := ⟨by decide +kernel, ⟨by decide +kernel, by decide +kernel, by decide +kernel⟩, xws_one rfl (tb4 _ (List.mem_of_getElem? (i := 199) rfl)) rfl, tb1 _ (List.mem_of_getElem? (i := 12) rfl), by decide +kernel⟩
theorem pl_Jx4a65c_elementData_915e3 : xPl m_Jx4a65c_elementData_915e3 1 := ⟨by decide +kernel, ⟨by decide +kernel, by decide +kernel, by decide +kernel⟩, xws_one rfl (tb5 _ (List.mem_of_getElem? (i := 29) rfl)) rfl, tb1 _ (List.mem_of_getElem? (i := 12) rfl), by decide +kernel⟩
theorem pl_Jx4a65c_get_915e3 : xPl m_Jx4a65c_get_915e3 1 := ⟨by decide +kernel, ⟨by decide +kernel, by decide +kernel, by decide +kernel⟩, xws_one rfl (tb5 _ (List.mem_of_getElem? (i := 19) rfl)) rfl, tb1 _ (List.mem_of_getElem? (i := 12) rfl), by decide +kernel⟩
theorem pl_Jx4a65c_add_72be8 : xPl m_Jx4a65c_add_72be8 3 := ⟨by decide +kernel, ⟨by decide +kernel, by decide +kernel, by decide +kernel⟩, xws_one rfl (tb3 _ (List.mem_of_getElem? (i := 86) rfl)) rfl, tb1 _ (List.mem_of_getElem? (i := 12) rfl), by decide +kernel⟩
theorem pl_Jx4a65c_add_9ea2d : xPl m_Jx4a65c_add_9ea2d 1 := ⟨by decide +kernel, ⟨by decide +kernel, by decide +kernel, by decide +kernel⟩, xws_one rfl (tb3 _ (List.mem_of_getElem? (i := 82) rfl)) rfl, tb1 _ (List.mem_of_getElem? (i := 12) rfl), by decide +kernel⟩
theorem pl_Jx4a65c_iterator_32c93 : xPl m_Jx4a65c_iterator_32c93 0 := ⟨by decide +kernel, ⟨by decide +kernel, by decide +kernel, by decide +kernel⟩, xws_one rfl (tb4 _ (List.mem_of_getElem? (i := 110) rfl)) rfl, tb1 _ (List.mem_of_getElem? (i := 12) rfl), by decide +kernel⟩
theorem pl_J7_copyOf_1904c : xPl m_J7_copyOf_1904c 2 := ⟨by decide +kernel, ⟨by decide +kernel, by decide +kernel, by decide +kernel⟩, xws_one rfl (tb3 _ (List.mem_of_getElem? (i := 107) rfl)) rfl, tb1 _ (List.mem_of_getElem? (i := 22) rfl), by decide +kernel⟩
theorem pl_J7_copyOf_6403c : xPl m_J7_copyOf_6403c 3 := ⟨by decide +kernel, ⟨by decide +kernel, by decide +kernel, by decide +kernel⟩, xws_one rfl (tb3 _ (List.mem_of_getElem? (i := 132) rfl)) rfl, tb1 _ (List.mem_of_getElem? (i := 22) rfl), by decide +kernel⟩
theorem pl_J15_checkIndex_7cf53 : xPl m_J15_checkIndex_7cf53 2 := ⟨by decide +kernel, ⟨by decide +kernel, by decide +kernel, by decide +kernel⟩, xws_one rfl (tb5 _ (List.mem_of_getElem? (i := 22) rfl)) rfl, tb1 _ (List.mem_of_getElem? (i := 26) rfl), by decide +kernel⟩
theorem pl_J8_newLength_cabcc : xPl m_J8_newLength_cabcc 3 := ⟨by decide +kernel, ⟨by decide +kernel, by decide +kernel, by decide +kernel⟩, xws_one rfl (tb3 _ (List.mem_of_getElem? (i := 97) rfl)) rfl, tb1 _ (List.mem_of_getElem? (i := 20) rfl), by decide +kernel⟩
theorem pl_J8_hugeLength_7cf53 : xPl m_J8_hugeLength_7cf53 2 := ⟨by decide +kernel, ⟨by decide +kernel, by decide +kernel, by decide +kernel⟩, xws_one rfl (tb3 _ (List.mem_of_getElem? (i := 104) rfl)) rfl, tb1 _ (List.mem_of_getElem? (i := 20) rfl), by decide +kernel⟩
theorem pl_J3_checkIndex_8e157 : xPl m_J3_checkIndex_8e157 3 := ⟨by decide +kernel, ⟨by decide +kernel, by decide +kernel, by decide +kernel⟩, xws_one rfl (tb5 _ (List.mem_of_getElem? (i := 25) rfl)) rfl, tb1 _ (List.mem_of_getElem? (i := 27) rfl), by decide +kernel⟩
theorem pl_L_init : xPl m_L_init 0 := ⟨by decide +kernel, ⟨by decide +kernel, by decide +kernel, by decide +kernel⟩, xws_one rfl (tb1 _ (List.mem_of_getElem? (i := 34) rfl)) rfl, tb1 _ (List.mem_of_getElem? (i := 0) rfl), by decide +kernel⟩
theorem pl_L_cell : xPl m_L_cell 2 := ⟨by decide +kernel, ⟨by decide +kernel, by decide +kernel, by decide +kernel⟩, xws_one rfl (tb2 _ (List.mem_of_getElem? (i := 130) rfl)) rfl, tb1 _ (List.mem_of_getElem? (i := 0) rfl), by decide +kernel⟩
theorem pl_L_draw : xPl m_L_draw 1 := ⟨by decide +kernel, ⟨by decide +kernel, by decide +kernel, by decide +kernel⟩, xws_one rfl (tb2 _ (List.mem_of_getElem? (i := 122) rfl)) rfl, tb1 _ (List.mem_of_getElem? (i := 0) rfl), by decide +kernel⟩
theorem pl_L_stirred : xPl m_L_stirred 1 := ⟨by decide +kernel, ⟨by decide +kernel, by decide +kernel, by decide +kernel⟩, xws_one rfl (tb2 _ (List.mem_of_getElem? (i := 125) rfl)) rfl, tb1 _ (List.mem_of_getElem? (i := 0) rfl), by decide +kernel⟩
theorem pl_L_mixed : xPl m_L_mixed 2 := ⟨by decide +kernel, ⟨by decide +kernel, by decide +kernel, by decide +kernel⟩, xws_one rfl (tb2 _ (List.mem_of_getElem? (i := 133) rfl)) rfl, tb1 _ (List.mem_of_getElem? (i := 0) rfl), by decide +kernel⟩
theorem pl_L_has : xPl m_L_has 2 := ⟨by decide +kernel, ⟨by decide +kernel, by decide +kernel, by decide +kernel⟩, xws_one rfl (tb4 _ (List.mem_of_getElem? (i := 102) rfl)) rfl, tb1 _ (List.mem_of_getElem? (i := 0) rfl), by decide +kernel⟩
theorem pl_L_netOn : xPl m_L_netOn 0 := ⟨by decide +kernel, ⟨by decide +kernel, by decide +kernel, by decide +kernel⟩, xws_one rfl (tb2 _ (List.mem_of_getElem? (i := 118) rfl)) rfl, tb1 _ (List.mem_of_getElem? (i := 0) rfl), by decide +kernel⟩
theorem pl_L_leaving : xPl m_L_leaving 2 := ⟨by decide +kernel, ⟨by decide +kernel, by decide +kernel, by decide +kernel⟩, xws_one rfl (tb5 _ (List.mem_of_getElem? (i := 45) rfl)) rfl, tb1 _ (List.mem_of_getElem? (i := 0) rfl), by decide +kernel⟩
theorem pl_L_isFlow : xPl m_L_isFlow 4 := ⟨by decide +kernel, ⟨by decide +kernel, by decide +kernel, by decide +kernel⟩, xws_one rfl (tb5 _ (List.mem_of_getElem? (i := 41) rfl)) rfl, tb1 _ (List.mem_of_getElem? (i := 0) rfl), by decide +kernel⟩
theorem pl_L_out : xPl m_L_out 2 := ⟨by decide +kernel, ⟨by decide +kernel, by decide +kernel, by decide +kernel⟩, xws_one rfl (tb4 _ (List.mem_of_getElem? (i := 106) rfl)) rfl, tb1 _ (List.mem_of_getElem? (i := 0) rfl), by decide +kernel⟩
theorem pl_L_into : xPl m_L_into 2 := ⟨by decide +kernel, ⟨by decide +kernel, by decide +kernel, by decide +kernel⟩, xws_one rfl (tb4 _ (List.mem_of_getElem? (i := 168) rfl)) rfl, tb1 _ (List.mem_of_getElem? (i := 0) rfl), by decide +kernel⟩
theorem pl_L_isFilled : xPl m_L_isFilled 2 := ⟨by decide +kernel, ⟨by decide +kernel, by decide +kernel, by decide +kernel⟩, xws_one rfl (tb5 _ (List.mem_of_getElem? (i := 49) rfl)) rfl, tb1 _ (List.mem_of_getElem? (i := 0) rfl), by decide +kernel⟩
theorem pl_L_flowSo : xPl m_L_flowSo 0 := ⟨by decide +kernel, ⟨by decide +kernel, by decide +kernel, by decide +kernel⟩, xws_one rfl (tb3 _ (List.mem_of_getElem? (i := 216) rfl)) rfl, tb1 _ (List.mem_of_getElem? (i := 0) rfl), by decide +kernel⟩
theorem pl_L_pricesSo : xPl m_L_pricesSo 3 := ⟨by decide +kernel, ⟨by decide +kernel, by decide +kernel, by decide +kernel⟩, xws_one rfl (tb5 _ (List.mem_of_getElem? (i := 65) rfl)) rfl, tb1 _ (List.mem_of_getElem? (i := 0) rfl), by decide +kernel⟩
theorem pl_L_roundsSo : xPl m_L_roundsSo 3 := ⟨by decide +kernel, ⟨by decide +kernel, by decide +kernel, by decide +kernel⟩, xws_one rfl (tb5 _ (List.mem_of_getElem? (i := 96) rfl)) rfl, tb1 _ (List.mem_of_getElem? (i := 0) rfl), by decide +kernel⟩
theorem pl_L_waysSo : xPl m_L_waysSo 0 := ⟨by decide +kernel, ⟨by decide +kernel, by decide +kernel, by decide +kernel⟩, xws_one rfl (tb5 _ (List.mem_of_getElem? (i := 143) rfl)) rfl, tb1 _ (List.mem_of_getElem? (i := 0) rfl), by decide +kernel⟩
theorem pl_L_demandsSo : xPl m_L_demandsSo 0 := ⟨by decide +kernel, ⟨by decide +kernel, by decide +kernel, by decide +kernel⟩, xws_one rfl (tb5 _ (List.mem_of_getElem? (i := 197) rfl)) rfl, tb1 _ (List.mem_of_getElem? (i := 0) rfl), by decide +kernel⟩
theorem pl_L_treeSo : xPl m_L_treeSo 0 := ⟨by decide +kernel, ⟨by decide +kernel, by decide +kernel, by decide +kernel⟩, xws_one rfl (tb5 _ (List.mem_of_getElem? (i := 227) rfl)) rfl, tb1 _ (List.mem_of_getElem? (i := 0) rfl), by decide +kernel⟩
theorem pl_L_pairsSo : xPl m_L_pairsSo 0 := ⟨by decide +kernel, ⟨by decide +kernel, by decide +kernel, by decide +kernel⟩, xws_one rfl (tb6 _ (List.mem_of_getElem? (i := 25) rfl)) rfl, tb1 _ (List.mem_of_getElem? (i := 0) rfl), by decide +kernel⟩
theorem pl_L_othersSo : xPl m_L_othersSo 0 := ⟨by decide +kernel, ⟨by decide +kernel, by decide +kernel, by decide +kernel⟩, xws_one rfl (tb6 _ (List.mem_of_getElem? (i := 70) rfl)) rfl, tb1 _ (List.mem_of_getElem? (i := 0) rfl), by decide +kernel⟩
theorem pl_L_isNear : xPl m_L_isNear 2 := ⟨by decide +kernel, ⟨by decide +kernel, by decide +kernel, by decide +kernel⟩, xws_one rfl (tb6 _ (List.mem_of_getElem? (i := 117) rfl)) rfl, tb1 _ (List.mem_of_getElem? (i := 0) rfl), by decide +kernel⟩
theorem pl_L_refusedSo : xPl m_L_refusedSo 0 := ⟨by decide +kernel, ⟨by decide +kernel, by decide +kernel, by decide +kernel⟩, xws_one rfl (tb3 _ (List.mem_of_getElem? (i := 147) rfl)) rfl, tb1 _ (List.mem_of_getElem? (i := 0) rfl), by decide +kernel⟩
theorem pl_L_holdsAll : xPl m_L_holdsAll 1 := ⟨by decide +kernel, ⟨by decide +kernel, by decide +kernel, by decide +kernel⟩, xws_one rfl (tb2 _ (List.mem_of_getElem? (i := 114) rfl)) rfl, tb1 _ (List.mem_of_getElem? (i := 0) rfl), by decide +kernel⟩
theorem lk_RX9_83 : xLk RX9 (.invokevirtual 83) m_X9_netAt true := Or.inl ⟨_, rfl, rfl, tb3 _ (List.mem_of_getElem? (i := 44) rfl), tb0 _ (List.mem_of_getElem? (i := 4) rfl), Or.inl (tb3 _ (List.mem_of_getElem? (i := 42) rfl))⟩
theorem lk_RX9_87 : xLk RX9 (.invokestatic 87) m_X9_needEnds false := Or.inr (Or.inl ⟨_, rfl, rfl, tb3 _ (List.mem_of_getElem? (i := 63) rfl), Or.inl ⟨tb3 _ (List.mem_of_getElem? (i := 62) rfl), rfl⟩⟩)
theorem lk_RX9_91 : xLk RX9 (.invokestatic 91) m_X9_needNumbers false := Or.inr (Or.inl ⟨_, rfl, rfl, tb3 _ (List.mem_of_getElem? (i := 67) rfl), Or.inl ⟨tb3 _ (List.mem_of_getElem? (i := 66) rfl), rfl⟩⟩)
theorem lk_RX9_100 : xLk RX9 (.invokevirtual 100) m_X3_put true := Or.inl ⟨_, rfl, rfl, tb3 _ (List.mem_of_getElem? (i := 72) rfl), tb3 _ (List.mem_of_getElem? (i := 73) rfl), Or.inl (tb3 _ (List.mem_of_getElem? (i := 71) rfl))⟩
theorem lk_RX9_104 : xLk RX9 (.invokestatic 104) m_X9_needEdge false := Or.inr (Or.inl ⟨_, rfl, rfl, tb3 _ (List.mem_of_getElem? (i := 165) rfl), Or.inl ⟨tb3 _ (List.mem_of_getElem? (i := 164) rfl), rfl⟩⟩)
theorem lk_RX9_112 : xLk RX9 (.invokevirtual 112) m_X3_set true := Or.inl ⟨_, rfl, rfl, tb3 _ (List.mem_of_getElem? (i := 76) rfl), tb3 _ (List.mem_of_getElem? (i := 77) rfl), Or.inl (tb3 _ (List.mem_of_getElem? (i := 168) rfl))⟩
theorem lk_RX9_119 : xLk RX9 (.invokestatic 119) m_X9_needCorner false := Or.inr (Or.inl ⟨_, rfl, rfl, tb3 _ (List.mem_of_getElem? (i := 174) rfl), Or.inl ⟨tb3 _ (List.mem_of_getElem? (i := 173) rfl), rfl⟩⟩)
theorem lk_RX9_127 : xLk RX9 (.invokevirtual 127) m_X9_greatestAmount true := Or.inl ⟨_, rfl, rfl, tb3 _ (List.mem_of_getElem? (i := 224) rfl), tb0 _ (List.mem_of_getElem? (i := 10) rfl), Or.inl (tb3 _ (List.mem_of_getElem? (i := 222) rfl))⟩
theorem lk_RX9_131 : xLk RX9 (.invokevirtual 131) m_X9_tellGreatest true := Or.inl ⟨_, rfl, rfl, tb4 _ (List.mem_of_getElem? (i := 206) rfl), tb0 _ (List.mem_of_getElem? (i := 19) rfl), Or.inl (tb4 _ (List.mem_of_getElem? (i := 204) rfl))⟩
theorem lk_RX9_134 : xLk RX9 (.invokevirtual 134) m_X6_numberOf true := Or.inl ⟨_, rfl, rfl, tb4 _ (List.mem_of_getElem? (i := 217) rfl), tb4 _ (List.mem_of_getElem? (i := 218) rfl), Or.inl (tb4 _ (List.mem_of_getElem? (i := 216) rfl))⟩
theorem lk_RX9_138 : xLk RX9 (.invokevirtual 138) m_X0_leastCrowd true := Or.inl ⟨_, rfl, rfl, tb4 _ (List.mem_of_getElem? (i := 84) rfl), tb4 _ (List.mem_of_getElem? (i := 85) rfl), Or.inl (tb4 _ (List.mem_of_getElem? (i := 83) rfl))⟩
theorem lk_RX9_146 : xLk RX9 (.invokevirtual 146) m_X0_findLeast true := Or.inl ⟨_, rfl, rfl, tb4 _ (List.mem_of_getElem? (i := 174) rfl), tb4 _ (List.mem_of_getElem? (i := 175) rfl), Or.inl (tb4 _ (List.mem_of_getElem? (i := 173) rfl))⟩
theorem lk_RX9_158 : xLk RX9 (.invokestatic 158) m_X9_hasOneOf false := Or.inr (Or.inl ⟨_, rfl, rfl, tb4 _ (List.mem_of_getElem? (i := 178) rfl), Or.inl ⟨tb4 _ (List.mem_of_getElem? (i := 189) rfl), rfl⟩⟩)
theorem lk_RX9_164 : xLk RX9 (.invokevirtual 164) m_X0_sumOfCut true := Or.inl ⟨_, rfl, rfl, tb4 _ (List.mem_of_getElem? (i := 182) rfl), tb4 _ (List.mem_of_getElem? (i := 183) rfl), Or.inl (tb4 _ (List.mem_of_getElem? (i := 191) rfl))⟩
theorem lk_RX9_171 : xLk RX9 (.invokevirtual 171) m_X6_leastOf true := Or.inl ⟨_, rfl, rfl, tb5 _ (List.mem_of_getElem? (i := 35) rfl), tb5 _ (List.mem_of_getElem? (i := 36) rfl), Or.inl (tb5 _ (List.mem_of_getElem? (i := 34) rfl))⟩
theorem lk_RX9_174 : xLk RX9 (.invokestatic 174) m_X9_needNoLeasts false := Or.inr (Or.inl ⟨_, rfl, rfl, tb5 _ (List.mem_of_getElem? (i := 103) rfl), Or.inl ⟨tb5 _ (List.mem_of_getElem? (i := 102) rfl), rfl⟩⟩)
theorem lk_RX9_178 : xLk RX9 (.invokevirtual 178) m_X6_goRounds true := Or.inl ⟨_, rfl, rfl, tb5 _ (List.mem_of_getElem? (i := 127) rfl), tb5 _ (List.mem_of_getElem? (i := 128) rfl), Or.inl (tb5 _ (List.mem_of_getElem? (i := 126) rfl))⟩
theorem lk_RX9_182 : xLk RX9 (.invokevirtual 182) m_X9_needRound true := Or.inl ⟨_, rfl, rfl, tb5 _ (List.mem_of_getElem? (i := 137) rfl), tb0 _ (List.mem_of_getElem? (i := 30) rfl), Or.inl (tb5 _ (List.mem_of_getElem? (i := 135) rfl))⟩
theorem lk_RX9_194 : xLk RX9 (.invokevirtual 194) m_X9_tellCheapest true := Or.inl ⟨_, rfl, rfl, tb4 _ (List.mem_of_getElem? (i := 226) rfl), tb0 _ (List.mem_of_getElem? (i := 20) rfl), Or.inl (tb4 _ (List.mem_of_getElem? (i := 224) rfl))⟩
theorem lk_RX9_197 : xLk RX9 (.invokevirtual 197) m_X6_costOf true := Or.inl ⟨_, rfl, rfl, tb5 _ (List.mem_of_getElem? (i := 55) rfl), tb5 _ (List.mem_of_getElem? (i := 56) rfl), Or.inl (tb5 _ (List.mem_of_getElem? (i := 54) rfl))⟩
theorem lk_RX9_200 : xLk RX9 (.invokevirtual 200) m_X6_setPrices true := Or.inl ⟨_, rfl, rfl, tb5 _ (List.mem_of_getElem? (i := 71) rfl), tb5 _ (List.mem_of_getElem? (i := 72) rfl), Or.inl (tb5 _ (List.mem_of_getElem? (i := 70) rfl))⟩
theorem lk_RX9_204 : xLk RX9 (.invokevirtual 204) m_X6_hasPrice true := Or.inl ⟨_, rfl, rfl, tb5 _ (List.mem_of_getElem? (i := 80) rfl), tb5 _ (List.mem_of_getElem? (i := 81) rfl), Or.inl (tb5 _ (List.mem_of_getElem? (i := 79) rfl))⟩
theorem lk_RX9_210 : xLk RX9 (.invokevirtual 210) m_X6_priceOf true := Or.inl ⟨_, rfl, rfl, tb5 _ (List.mem_of_getElem? (i := 90) rfl), tb5 _ (List.mem_of_getElem? (i := 91) rfl), Or.inl (tb5 _ (List.mem_of_getElem? (i := 89) rfl))⟩
theorem lk_RX9_213 : xLk RX9 (.invokevirtual 213) m_X6_waysByEdges true := Or.inl ⟨_, rfl, rfl, tb5 _ (List.mem_of_getElem? (i := 157) rfl), tb5 _ (List.mem_of_getElem? (i := 158) rfl), Or.inl (tb5 _ (List.mem_of_getElem? (i := 156) rfl))⟩
theorem lk_RX9_216 : xLk RX9 (.invokevirtual 216) m_X6_waysByCorners true := Or.inl ⟨_, rfl, rfl, tb5 _ (List.mem_of_getElem? (i := 149) rfl), tb5 _ (List.mem_of_getElem? (i := 150) rfl), Or.inl (tb5 _ (List.mem_of_getElem? (i := 148) rfl))⟩
theorem lk_RX9_219 : xLk RX9 (.invokevirtual 219) m_X3_leadsStraight true := Or.inl ⟨_, rfl, rfl, tb5 _ (List.mem_of_getElem? (i := 165) rfl), tb5 _ (List.mem_of_getElem? (i := 166) rfl), Or.inl (tb5 _ (List.mem_of_getElem? (i := 164) rfl))⟩
theorem lk_RX9_228 : xLk RX9 (.invokevirtual 228) m_X0_fewestApart true := Or.inl ⟨_, rfl, rfl, tb5 _ (List.mem_of_getElem? (i := 170) rfl), tb5 _ (List.mem_of_getElem? (i := 171) rfl), Or.inl (tb5 _ (List.mem_of_getElem? (i := 169) rfl))⟩
theorem lk_RX9_231 : xLk RX9 (.invokevirtual 231) m_X6_lay true := Or.inl ⟨_, rfl, rfl, tb3 _ (List.mem_of_getElem? (i := 227) rfl), tb3 _ (List.mem_of_getElem? (i := 228) rfl), Or.inl (tb3 _ (List.mem_of_getElem? (i := 226) rfl))⟩
theorem lk_RX9_240 : xLk RX9 (.invokevirtual 240) m_X6_fill true := Or.inl ⟨_, rfl, rfl, tb4 _ (List.mem_of_getElem? (i := 17) rfl), tb4 _ (List.mem_of_getElem? (i := 18) rfl), Or.inl (tb4 _ (List.mem_of_getElem? (i := 16) rfl))⟩
theorem lk_RX9_244 : xLk RX9 (.invokestatic 244) m_X9_needFlow false := Or.inr (Or.inl ⟨_, rfl, rfl, tb4 _ (List.mem_of_getElem? (i := 61) rfl), Or.inl ⟨tb4 _ (List.mem_of_getElem? (i := 60) rfl), rfl⟩⟩)
theorem lk_RX9_248 : xLk RX9 (.invokevirtual 248) m_X6_meetDemands true := Or.inl ⟨_, rfl, rfl, tb5 _ (List.mem_of_getElem? (i := 203) rfl), tb5 _ (List.mem_of_getElem? (i := 204) rfl), Or.inl (tb5 _ (List.mem_of_getElem? (i := 202) rfl))⟩
theorem lk_RX9_254 : xLk RX9 (.invokevirtual 254) m_X6_tellLeastRow true := Or.inl ⟨_, rfl, rfl, tb4 _ (List.mem_of_getElem? (i := 209) rfl), tb4 _ (List.mem_of_getElem? (i := 210) rfl), Or.inl (tb4 _ (List.mem_of_getElem? (i := 208) rfl))⟩
theorem lk_RX9_257 : xLk RX9 (.invokevirtual 257) m_X0_leastBreaker true := Or.inl ⟨_, rfl, rfl, tb5 _ (List.mem_of_getElem? (i := 211) rfl), tb5 _ (List.mem_of_getElem? (i := 212) rfl), Or.inl (tb5 _ (List.mem_of_getElem? (i := 210) rfl))⟩
theorem lk_RX9_265 : xLk RX9 (.invokevirtual 265) m_X8_measure true := Or.inl ⟨_, rfl, rfl, tb5 _ (List.mem_of_getElem? (i := 233) rfl), tb5 _ (List.mem_of_getElem? (i := 234) rfl), Or.inl (tb5 _ (List.mem_of_getElem? (i := 232) rfl))⟩
theorem lk_RX9_269 : xLk RX9 (.invokevirtual 269) m_X8_grow true := Or.inl ⟨_, rfl, rfl, tb6 _ (List.mem_of_getElem? (i := 13) rfl), tb6 _ (List.mem_of_getElem? (i := 14) rfl), Or.inl (tb6 _ (List.mem_of_getElem? (i := 12) rfl))⟩
theorem lk_RX9_275 : xLk RX9 (.invokevirtual 275) m_X8_leastCut true := Or.inl ⟨_, rfl, rfl, tb6 _ (List.mem_of_getElem? (i := 1) rfl), tb6 _ (List.mem_of_getElem? (i := 2) rfl), Or.inl (tb6 _ (List.mem_of_getElem? (i := 0) rfl))⟩
theorem lk_RX9_281 : xLk RX9 (.invokevirtual 281) m_X6_arriveBy true := Or.inl ⟨_, rfl, rfl, tb5 _ (List.mem_of_getElem? (i := 191) rfl), tb5 _ (List.mem_of_getElem? (i := 192) rfl), Or.inl (tb5 _ (List.mem_of_getElem? (i := 190) rfl))⟩
theorem lk_RX9_284 : xLk RX9 (.invokestatic 284) m_X9_needLeft false := Or.inr (Or.inl ⟨_, rfl, rfl, tb3 _ (List.mem_of_getElem? (i := 183) rfl), Or.inl ⟨tb3 _ (List.mem_of_getElem? (i := 182) rfl), rfl⟩⟩)
theorem lk_RX9_292 : xLk RX9 (.invokevirtual 292) m_X4_gather true := Or.inl ⟨_, rfl, rfl, tb6 _ (List.mem_of_getElem? (i := 31) rfl), tb6 _ (List.mem_of_getElem? (i := 32) rfl), Or.inl (tb6 _ (List.mem_of_getElem? (i := 30) rfl))⟩
theorem lk_RX9_295 : xLk RX9 (.invokevirtual 295) m_X4_greatest true := Or.inl ⟨_, rfl, rfl, tb6 _ (List.mem_of_getElem? (i := 49) rfl), tb6 _ (List.mem_of_getElem? (i := 50) rfl), Or.inl (tb6 _ (List.mem_of_getElem? (i := 48) rfl))⟩
theorem lk_RX9_298 : xLk RX9 (.invokevirtual 298) m_X4_tellLeastRow true := Or.inl ⟨_, rfl, rfl, tb6 _ (List.mem_of_getElem? (i := 57) rfl), tb6 _ (List.mem_of_getElem? (i := 58) rfl), Or.inl (tb6 _ (List.mem_of_getElem? (i := 56) rfl))⟩
theorem lk_RX9_305 : xLk RX9 (.invokevirtual 305) m_X4_leftOfCover true := Or.inl ⟨_, rfl, rfl, tb6 _ (List.mem_of_getElem? (i := 35) rfl), tb6 _ (List.mem_of_getElem? (i := 36) rfl), Or.inl (tb6 _ (List.mem_of_getElem? (i := 34) rfl))⟩
theorem lk_RX9_309 : xLk RX9 (.invokevirtual 309) m_X4_likedByOthers true := Or.inl ⟨_, rfl, rfl, tb6 _ (List.mem_of_getElem? (i := 40) rfl), tb6 _ (List.mem_of_getElem? (i := 41) rfl), Or.inl (tb6 _ (List.mem_of_getElem? (i := 43) rfl))⟩
theorem lk_RX9_323 : xLk RX9 (.invokevirtual 323) m_X2_enter true := Or.inl ⟨_, rfl, rfl, tb3 _ (List.mem_of_getElem? (i := 194) rfl), tb3 _ (List.mem_of_getElem? (i := 195) rfl), Or.inl (tb3 _ (List.mem_of_getElem? (i := 193) rfl))⟩
theorem lk_RX9_346 : xLk RX9 (.invokevirtual 346) m_X7_start true := Or.inl ⟨_, rfl, rfl, tb6 _ (List.mem_of_getElem? (i := 77) rfl), tb6 _ (List.mem_of_getElem? (i := 78) rfl), Or.inl (tb6 _ (List.mem_of_getElem? (i := 76) rfl))⟩
theorem lk_RX9_349 : xLk RX9 (.invokevirtual 349) m_X9_needPlace true := Or.inl ⟨_, rfl, rfl, tb6 _ (List.mem_of_getElem? (i := 86) rfl), tb0 _ (List.mem_of_getElem? (i := 38) rfl), Or.inl (tb6 _ (List.mem_of_getElem? (i := 84) rfl))⟩
theorem lk_RX9_354 : xLk RX9 (.invokevirtual 354) m_X7_placeOf true := Or.inl ⟨_, rfl, rfl, tb6 _ (List.mem_of_getElem? (i := 91) rfl), tb6 _ (List.mem_of_getElem? (i := 92) rfl), Or.inl (tb6 _ (List.mem_of_getElem? (i := 90) rfl))⟩
theorem lk_RX9_364 : xLk RX9 (.invokevirtual 364) m_X7_roundBy true := Or.inl ⟨_, rfl, rfl, tb6 _ (List.mem_of_getElem? (i := 99) rfl), tb6 _ (List.mem_of_getElem? (i := 100) rfl), Or.inl (tb6 _ (List.mem_of_getElem? (i := 98) rfl))⟩
theorem lk_RX9_378 : xLk RX9 (.invokevirtual 378) m_X5_put true := Or.inl ⟨_, rfl, rfl, tb3 _ (List.mem_of_getElem? (i := 204) rfl), tb3 _ (List.mem_of_getElem? (i := 205) rfl), Or.inl (tb3 _ (List.mem_of_getElem? (i := 203) rfl))⟩
theorem lk_RX9_390 : xLk RX9 (.invokevirtual 390) m_X5_choose true := Or.inl ⟨_, rfl, rfl, tb6 _ (List.mem_of_getElem? (i := 123) rfl), tb6 _ (List.mem_of_getElem? (i := 124) rfl), Or.inl (tb6 _ (List.mem_of_getElem? (i := 122) rfl))⟩
theorem lk_RX9_401 : xLk RX9 (.invokevirtual 401) m_X3_sumOfAll true := Or.inl ⟨_, rfl, rfl, tb3 _ (List.mem_of_getElem? (i := 155) rfl), tb3 _ (List.mem_of_getElem? (i := 156) rfl), Or.inl (tb3 _ (List.mem_of_getElem? (i := 154) rfl))⟩
theorem lk_RX9_408 : xLk RX9 (.invokevirtual 408) m_X9_isFlowSound true := Or.inl ⟨_, rfl, rfl, tb6 _ (List.mem_of_getElem? (i := 141) rfl), tb0 _ (List.mem_of_getElem? (i := 41) rfl), Or.inl (tb6 _ (List.mem_of_getElem? (i := 139) rfl))⟩
theorem lk_RX9_411 : xLk RX9 (.invokevirtual 411) m_X9_isTreeSound true := Or.inl ⟨_, rfl, rfl, tb6 _ (List.mem_of_getElem? (i := 165) rfl), tb0 _ (List.mem_of_getElem? (i := 44) rfl), Or.inl (tb6 _ (List.mem_of_getElem? (i := 163) rfl))⟩
theorem lk_RX9_414 : xLk RX9 (.invokevirtual 414) m_X4_isCovered true := Or.inl ⟨_, rfl, rfl, tb6 _ (List.mem_of_getElem? (i := 172) rfl), tb6 _ (List.mem_of_getElem? (i := 173) rfl), Or.inl (tb6 _ (List.mem_of_getElem? (i := 171) rfl))⟩
theorem lk_RX9_417 : xLk RX9 (.invokevirtual 417) m_X7_isRounded true := Or.inl ⟨_, rfl, rfl, tb6 _ (List.mem_of_getElem? (i := 177) rfl), tb6 _ (List.mem_of_getElem? (i := 178) rfl), Or.inl (tb6 _ (List.mem_of_getElem? (i := 176) rfl))⟩
theorem lk_RX9_420 : xLk RX9 (.invokestatic 420) m_X9_hasBit false := Or.inr (Or.inl ⟨_, rfl, rfl, tb4 _ (List.mem_of_getElem? (i := 88) rfl), Or.inl ⟨tb4 _ (List.mem_of_getElem? (i := 180) rfl), rfl⟩⟩)
theorem lk_RX9_423 : xLk RX9 (.invokevirtual 423) m_X0_isCrowd true := Or.inl ⟨_, rfl, rfl, tb4 _ (List.mem_of_getElem? (i := 91) rfl), tb4 _ (List.mem_of_getElem? (i := 92) rfl), Or.inl (tb6 _ (List.mem_of_getElem? (i := 143) rfl))⟩
theorem lk_RX9_427 : xLk RX9 (.invokevirtual 427) m_X9_isCutSound true := Or.inl ⟨_, rfl, rfl, tb6 _ (List.mem_of_getElem? (i := 146) rfl), tb0 _ (List.mem_of_getElem? (i := 42) rfl), Or.inl (tb6 _ (List.mem_of_getElem? (i := 144) rfl))⟩
theorem lk_RX9_431 : xLk RX9 (.invokevirtual 431) m_X6_cheapen true := Or.inl ⟨_, rfl, rfl, tb4 _ (List.mem_of_getElem? (i := 229) rfl), tb4 _ (List.mem_of_getElem? (i := 230) rfl), Or.inl (tb4 _ (List.mem_of_getElem? (i := 228) rfl))⟩
theorem lk_RX9_434 : xLk RX9 (.invokevirtual 434) m_X6_arePricesRight true := Or.inl ⟨_, rfl, rfl, tb6 _ (List.mem_of_getElem? (i := 155) rfl), tb6 _ (List.mem_of_getElem? (i := 156) rfl), Or.inl (tb6 _ (List.mem_of_getElem? (i := 154) rfl))⟩
theorem lk_RX9_437 : xLk RX9 (.invokevirtual 437) m_X9_areRoundsSound true := Or.inl ⟨_, rfl, rfl, tb6 _ (List.mem_of_getElem? (i := 161) rfl), tb0 _ (List.mem_of_getElem? (i := 43) rfl), Or.inl (tb6 _ (List.mem_of_getElem? (i := 159) rfl))⟩
theorem lk_RX9_440 : xLk RX9 (.invokevirtual 440) m_X6_fills true := Or.inl ⟨_, rfl, rfl, tb6 _ (List.mem_of_getElem? (i := 149) rfl), tb6 _ (List.mem_of_getElem? (i := 150) rfl), Or.inl (tb6 _ (List.mem_of_getElem? (i := 148) rfl))⟩
theorem lk_RX9_443 : xLk RX9 (.invokevirtual 443) m_X3_hasLeast true := Or.inl ⟨_, rfl, rfl, tb5 _ (List.mem_of_getElem? (i := 106) rfl), tb5 _ (List.mem_of_getElem? (i := 107) rfl), Or.inl (tb5 _ (List.mem_of_getElem? (i := 105) rfl))⟩
theorem lk_RX9_449 : xLk RX9 (.invokevirtual 449) m_X8_leastOnWay true := Or.inl ⟨_, rfl, rfl, tb6 _ (List.mem_of_getElem? (i := 168) rfl), tb6 _ (List.mem_of_getElem? (i := 169) rfl), Or.inl (tb6 _ (List.mem_of_getElem? (i := 167) rfl))⟩
theorem lk_RX0_42 : xLk RX0 (.invokevirtual 42) m_X0_weigh true := Or.inl ⟨_, rfl, rfl, tb4 _ (List.mem_of_getElem? (i := 96) rfl), tb0 _ (List.mem_of_getElem? (i := 15) rfl), Or.inl (tb4 _ (List.mem_of_getElem? (i := 94) rfl))⟩
theorem lk_RX0_69 : xLk RX0 (.invokevirtual 69) m_X0_sumOfCut true := Or.inl ⟨_, rfl, rfl, tb4 _ (List.mem_of_getElem? (i := 182) rfl), tb4 _ (List.mem_of_getElem? (i := 183) rfl), Or.inl (tb4 _ (List.mem_of_getElem? (i := 181) rfl))⟩
theorem lk_RX0_73 : xLk RX0 (.invokevirtual 73) m_X0_isCrowd true := Or.inl ⟨_, rfl, rfl, tb4 _ (List.mem_of_getElem? (i := 91) rfl), tb4 _ (List.mem_of_getElem? (i := 92) rfl), Or.inl (tb4 _ (List.mem_of_getElem? (i := 90) rfl))⟩
theorem lk_RX0_77 : xLk RX0 (.invokevirtual 77) m_X0_isBroken true := Or.inl ⟨_, rfl, rfl, tb5 _ (List.mem_of_getElem? (i := 215) rfl), tb5 _ (List.mem_of_getElem? (i := 216) rfl), Or.inl (tb5 _ (List.mem_of_getElem? (i := 214) rfl))⟩
theorem lk_RX0_80 : xLk RX0 (.invokestatic 80) m_J6_bitCount_0f7a4 false := Or.inr (Or.inl ⟨_, rfl, rfl, tb5 _ (List.mem_of_getElem? (i := 174) rfl), Or.inl ⟨tb5 _ (List.mem_of_getElem? (i := 173) rfl), rfl⟩⟩)
theorem lk_RX0_86 : xLk RX0 (.invokevirtual 86) m_X3_reachFrom true := Or.inl ⟨_, rfl, rfl, tb5 _ (List.mem_of_getElem? (i := 180) rfl), tb5 _ (List.mem_of_getElem? (i := 181) rfl), Or.inl (tb5 _ (List.mem_of_getElem? (i := 179) rfl))⟩
theorem lk_RX1_55 : xLk RX1 (.invokevirtual 55) m_X1_isNode true := Or.inl ⟨_, rfl, rfl, tb4 _ (List.mem_of_getElem? (i := 3) rfl), tb4 _ (List.mem_of_getElem? (i := 4) rfl), Or.inl (tb4 _ (List.mem_of_getElem? (i := 2) rfl))⟩
theorem lk_RX1_59 : xLk RX1 (.invokevirtual 59) m_X1_setBounds true := Or.inl ⟨_, rfl, rfl, tb4 _ (List.mem_of_getElem? (i := 7) rfl), tb4 _ (List.mem_of_getElem? (i := 8) rfl), Or.inl (tb4 _ (List.mem_of_getElem? (i := 6) rfl))⟩
theorem lk_RX1_63 : xLk RX1 (.invokevirtual 63) m_X1_isEdge true := Or.inl ⟨_, rfl, rfl, tb4 _ (List.mem_of_getElem? (i := 11) rfl), tb4 _ (List.mem_of_getElem? (i := 12) rfl), Or.inl (tb4 _ (List.mem_of_getElem? (i := 10) rfl))⟩
theorem lk_RX1_66 : xLk RX1 (.invokevirtual 66) m_X1_keep true := Or.inl ⟨_, rfl, rfl, tb4 _ (List.mem_of_getElem? (i := 25) rfl), tb4 _ (List.mem_of_getElem? (i := 26) rfl), Or.inl (tb4 _ (List.mem_of_getElem? (i := 24) rfl))⟩
theorem lk_RX1_70 : xLk RX1 (.invokevirtual 70) m_X1_push true := Or.inl ⟨_, rfl, rfl, tb4 _ (List.mem_of_getElem? (i := 29) rfl), tb4 _ (List.mem_of_getElem? (i := 30) rfl), Or.inl (tb4 _ (List.mem_of_getElem? (i := 28) rfl))⟩
theorem lk_RX1_74 : xLk RX1 (.invokevirtual 74) m_X1_free true := Or.inl ⟨_, rfl, rfl, tb4 _ (List.mem_of_getElem? (i := 51) rfl), tb4 _ (List.mem_of_getElem? (i := 52) rfl), Or.inl (tb4 _ (List.mem_of_getElem? (i := 50) rfl))⟩
theorem lk_RX1_78 : xLk RX1 (.invokevirtual 78) m_X1_send true := Or.inl ⟨_, rfl, rfl, tb4 _ (List.mem_of_getElem? (i := 34) rfl), tb4 _ (List.mem_of_getElem? (i := 35) rfl), Or.inl (tb4 _ (List.mem_of_getElem? (i := 33) rfl))⟩
theorem lk_RX1_81 : xLk RX1 (.invokevirtual 81) m_X1_setDistances true := Or.inl ⟨_, rfl, rfl, tb4 _ (List.mem_of_getElem? (i := 39) rfl), tb0 _ (List.mem_of_getElem? (i := 12) rfl), Or.inl (tb4 _ (List.mem_of_getElem? (i := 37) rfl))⟩
theorem lk_RX1_86 : xLk RX1 (.invokevirtual 86) m_X1_leastSign true := Or.inl ⟨_, rfl, rfl, tb4 _ (List.mem_of_getElem? (i := 44) rfl), tb0 _ (List.mem_of_getElem? (i := 13) rfl), Or.inl (tb4 _ (List.mem_of_getElem? (i := 42) rfl))⟩
theorem lk_RX1_90 : xLk RX1 (.invokevirtual 90) m_X1_shift true := Or.inl ⟨_, rfl, rfl, tb4 _ (List.mem_of_getElem? (i := 48) rfl), tb0 _ (List.mem_of_getElem? (i := 14) rfl), Or.inl (tb4 _ (List.mem_of_getElem? (i := 46) rfl))⟩
theorem lk_RX1_94 : xLk RX1 (.invokevirtual 94) m_X1_lowerAll true := Or.inl ⟨_, rfl, rfl, tb4 _ (List.mem_of_getElem? (i := 238) rfl), tb0 _ (List.mem_of_getElem? (i := 21) rfl), Or.inl (tb4 _ (List.mem_of_getElem? (i := 236) rfl))⟩
theorem lk_RX1_98 : xLk RX1 (.invokevirtual 98) m_X1_findRing true := Or.inl ⟨_, rfl, rfl, tb5 _ (List.mem_of_getElem? (i := 6) rfl), tb0 _ (List.mem_of_getElem? (i := 23) rfl), Or.inl (tb5 _ (List.mem_of_getElem? (i := 4) rfl))⟩
theorem lk_RX1_101 : xLk RX1 (.invokevirtual 101) m_X1_relax true := Or.inl ⟨_, rfl, rfl, tb5 _ (List.mem_of_getElem? (i := 2) rfl), tb0 _ (List.mem_of_getElem? (i := 22) rfl), Or.inl (tb5 _ (List.mem_of_getElem? (i := 0) rfl))⟩
theorem lk_RX1_104 : xLk RX1 (.invokevirtual 104) m_X1_cameFrom true := Or.inl ⟨_, rfl, rfl, tb5 _ (List.mem_of_getElem? (i := 10) rfl), tb0 _ (List.mem_of_getElem? (i := 24) rfl), Or.inl (tb5 _ (List.mem_of_getElem? (i := 8) rfl))⟩
theorem lk_RX3_37 : xLk RX3 (.invokevirtual 37) m_X3_set true := Or.inl ⟨_, rfl, rfl, tb3 _ (List.mem_of_getElem? (i := 76) rfl), tb3 _ (List.mem_of_getElem? (i := 77) rfl), Or.inl (tb3 _ (List.mem_of_getElem? (i := 75) rfl))⟩
theorem lk_RX4_19 : xLk RX4 (.invokestatic 19) m_J6_bitCount_0f7a4 false := Or.inr (Or.inl ⟨_, rfl, rfl, tb5 _ (List.mem_of_getElem? (i := 174) rfl), Or.inl ⟨tb6 _ (List.mem_of_getElem? (i := 38) rfl), rfl⟩⟩)
theorem lk_RX4_25 : xLk RX4 (.invokevirtual 25) m_X4_greatest true := Or.inl ⟨_, rfl, rfl, tb6 _ (List.mem_of_getElem? (i := 49) rfl), tb6 _ (List.mem_of_getElem? (i := 50) rfl), Or.inl (tb6 _ (List.mem_of_getElem? (i := 60) rfl))⟩
theorem lk_RX4_29 : xLk RX4 (.invokevirtual 29) m_X4_leastRight true := Or.inl ⟨_, rfl, rfl, tb6 _ (List.mem_of_getElem? (i := 63) rfl), tb0 _ (List.mem_of_getElem? (i := 36) rfl), Or.inl (tb6 _ (List.mem_of_getElem? (i := 61) rfl))⟩
theorem lk_RX4_39 : xLk RX4 (.invokevirtual 39) m_X4_likedByOthers true := Or.inl ⟨_, rfl, rfl, tb6 _ (List.mem_of_getElem? (i := 40) rfl), tb6 _ (List.mem_of_getElem? (i := 41) rfl), Or.inl (tb6 _ (List.mem_of_getElem? (i := 39) rfl))⟩
theorem lk_RX4_42 : xLk RX4 (.invokevirtual 42) m_X4_leftOfCover true := Or.inl ⟨_, rfl, rfl, tb6 _ (List.mem_of_getElem? (i := 35) rfl), tb6 _ (List.mem_of_getElem? (i := 36) rfl), Or.inl (tb6 _ (List.mem_of_getElem? (i := 175) rfl))⟩
theorem lk_RX5_34 : xLk RX5 (.invokevirtual 34) m_X5_worthOf true := Or.inl ⟨_, rfl, rfl, tb6 _ (List.mem_of_getElem? (i := 128) rfl), tb0 _ (List.mem_of_getElem? (i := 40) rfl), Or.inl (tb6 _ (List.mem_of_getElem? (i := 126) rfl))⟩
theorem lk_RX6_30 : xLk RX6 (.invokevirtual 30) m_X1_start true := Or.inl ⟨_, rfl, rfl, tb3 _ (List.mem_of_getElem? (i := 231) rfl), tb3 _ (List.mem_of_getElem? (i := 232) rfl), Or.inl (tb3 _ (List.mem_of_getElem? (i := 230) rfl))⟩
theorem lk_RX6_34 : xLk RX6 (.invokevirtual 34) m_X6_addEdges true := Or.inl ⟨_, rfl, rfl, tb3 _ (List.mem_of_getElem? (i := 236) rfl), tb0 _ (List.mem_of_getElem? (i := 11) rfl), Or.inl (tb3 _ (List.mem_of_getElem? (i := 234) rfl))⟩
theorem lk_RX6_46 : xLk RX6 (.invokevirtual 46) m_X1_add true := Or.inl ⟨_, rfl, rfl, tb3 _ (List.mem_of_getElem? (i := 239) rfl), tb4 _ (List.mem_of_getElem? (i := 0) rfl), Or.inl (tb3 _ (List.mem_of_getElem? (i := 238) rfl))⟩
theorem lk_RX6_70 : xLk RX6 (.invokevirtual 70) m_X1_settle true := Or.inl ⟨_, rfl, rfl, tb4 _ (List.mem_of_getElem? (i := 21) rfl), tb4 _ (List.mem_of_getElem? (i := 22) rfl), Or.inl (tb4 _ (List.mem_of_getElem? (i := 20) rfl))⟩
theorem lk_RX6_74 : xLk RX6 (.invokevirtual 74) m_X1_keep true := Or.inl ⟨_, rfl, rfl, tb4 _ (List.mem_of_getElem? (i := 25) rfl), tb4 _ (List.mem_of_getElem? (i := 26) rfl), Or.inl (tb4 _ (List.mem_of_getElem? (i := 54) rfl))⟩
theorem lk_RX6_77 : xLk RX6 (.invokevirtual 77) m_X1_numberOf true := Or.inl ⟨_, rfl, rfl, tb4 _ (List.mem_of_getElem? (i := 56) rfl), tb4 _ (List.mem_of_getElem? (i := 57) rfl), Or.inl (tb4 _ (List.mem_of_getElem? (i := 55) rfl))⟩
theorem lk_RX6_81 : xLk RX6 (.invokevirtual 81) m_X1_push true := Or.inl ⟨_, rfl, rfl, tb4 _ (List.mem_of_getElem? (i := 29) rfl), tb4 _ (List.mem_of_getElem? (i := 30) rfl), Or.inl (tb4 _ (List.mem_of_getElem? (i := 59) rfl))⟩
theorem lk_RX6_88 : xLk RX6 (.invokevirtual 88) m_X1_lower true := Or.inl ⟨_, rfl, rfl, tb4 _ (List.mem_of_getElem? (i := 213) rfl), tb4 _ (List.mem_of_getElem? (i := 214) rfl), Or.inl (tb4 _ (List.mem_of_getElem? (i := 212) rfl))⟩
theorem lk_RX6_91 : xLk RX6 (.invokevirtual 91) m_X1_cheapen true := Or.inl ⟨_, rfl, rfl, tb4 _ (List.mem_of_getElem? (i := 233) rfl), tb4 _ (List.mem_of_getElem? (i := 234) rfl), Or.inl (tb4 _ (List.mem_of_getElem? (i := 232) rfl))⟩
theorem lk_RX6_94 : xLk RX6 (.invokevirtual 94) m_X1_keepCheap true := Or.inl ⟨_, rfl, rfl, tb5 _ (List.mem_of_getElem? (i := 13) rfl), tb5 _ (List.mem_of_getElem? (i := 14) rfl), Or.inl (tb5 _ (List.mem_of_getElem? (i := 12) rfl))⟩
theorem lk_RX6_97 : xLk RX6 (.invokevirtual 97) m_X1_sumOfCosts true := Or.inl ⟨_, rfl, rfl, tb5 _ (List.mem_of_getElem? (i := 59) rfl), tb5 _ (List.mem_of_getElem? (i := 60) rfl), Or.inl (tb5 _ (List.mem_of_getElem? (i := 58) rfl))⟩
theorem lk_RX6_100 : xLk RX6 (.invokevirtual 100) m_X1_free true := Or.inl ⟨_, rfl, rfl, tb4 _ (List.mem_of_getElem? (i := 51) rfl), tb4 _ (List.mem_of_getElem? (i := 52) rfl), Or.inl (tb5 _ (List.mem_of_getElem? (i := 74) rfl))⟩
theorem lk_RX6_103 : xLk RX6 (.invokevirtual 103) m_X1_setLevelsFrom true := Or.inl ⟨_, rfl, rfl, tb5 _ (List.mem_of_getElem? (i := 76) rfl), tb5 _ (List.mem_of_getElem? (i := 77) rfl), Or.inl (tb5 _ (List.mem_of_getElem? (i := 75) rfl))⟩
theorem lk_RX6_106 : xLk RX6 (.invokevirtual 106) m_X1_levelOf true := Or.inl ⟨_, rfl, rfl, tb5 _ (List.mem_of_getElem? (i := 84) rfl), tb5 _ (List.mem_of_getElem? (i := 85) rfl), Or.inl (tb5 _ (List.mem_of_getElem? (i := 83) rfl))⟩
theorem lk_RX6_113 : xLk RX6 (.invokevirtual 113) m_X1_send true := Or.inl ⟨_, rfl, rfl, tb4 _ (List.mem_of_getElem? (i := 34) rfl), tb4 _ (List.mem_of_getElem? (i := 35) rfl), Or.inl (tb5 _ (List.mem_of_getElem? (i := 130) rfl))⟩
theorem lk_RX6_126 : xLk RX6 (.invokevirtual 126) m_X6_numberOf true := Or.inl ⟨_, rfl, rfl, tb4 _ (List.mem_of_getElem? (i := 217) rfl), tb4 _ (List.mem_of_getElem? (i := 218) rfl), Or.inl (tb6 _ (List.mem_of_getElem? (i := 153) rfl))⟩
theorem lk_RX6_127 : xLk RX6 (.invokevirtual 127) m_X6_priceOf true := Or.inl ⟨_, rfl, rfl, tb5 _ (List.mem_of_getElem? (i := 90) rfl), tb5 _ (List.mem_of_getElem? (i := 91) rfl), Or.inl (tb6 _ (List.mem_of_getElem? (i := 158) rfl))⟩
theorem lk_RX7_32 : xLk RX7 (.invokevirtual 32) m_X7_placeOf true := Or.inl ⟨_, rfl, rfl, tb6 _ (List.mem_of_getElem? (i := 91) rfl), tb6 _ (List.mem_of_getElem? (i := 92) rfl), Or.inl (tb6 _ (List.mem_of_getElem? (i := 106) rfl))⟩
theorem lk_RX7_36 : xLk RX7 (.invokevirtual 36) m_X7_addUp true := Or.inl ⟨_, rfl, rfl, tb6 _ (List.mem_of_getElem? (i := 104) rfl), tb0 _ (List.mem_of_getElem? (i := 39) rfl), Or.inl (tb6 _ (List.mem_of_getElem? (i := 102) rfl))⟩
theorem lk_RX7_40 : xLk RX7 (.invokevirtual 40) m_X1_start true := Or.inl ⟨_, rfl, rfl, tb3 _ (List.mem_of_getElem? (i := 231) rfl), tb3 _ (List.mem_of_getElem? (i := 232) rfl), Or.inl (tb6 _ (List.mem_of_getElem? (i := 107) rfl))⟩
theorem lk_RX7_46 : xLk RX7 (.invokestatic 46) m_X7_addRounded false := Or.inr (Or.inl ⟨_, rfl, rfl, tb6 _ (List.mem_of_getElem? (i := 109) rfl), Or.inl ⟨tb6 _ (List.mem_of_getElem? (i := 108) rfl), rfl⟩⟩)
theorem lk_RX7_50 : xLk RX7 (.invokevirtual 50) m_X1_settle true := Or.inl ⟨_, rfl, rfl, tb4 _ (List.mem_of_getElem? (i := 21) rfl), tb4 _ (List.mem_of_getElem? (i := 22) rfl), Or.inl (tb6 _ (List.mem_of_getElem? (i := 112) rfl))⟩
theorem lk_RX7_54 : xLk RX7 (.invokevirtual 54) m_X1_lower true := Or.inl ⟨_, rfl, rfl, tb4 _ (List.mem_of_getElem? (i := 213) rfl), tb4 _ (List.mem_of_getElem? (i := 214) rfl), Or.inl (tb6 _ (List.mem_of_getElem? (i := 113) rfl))⟩
theorem lk_RX7_57 : xLk RX7 (.invokevirtual 57) m_X1_numberOf true := Or.inl ⟨_, rfl, rfl, tb4 _ (List.mem_of_getElem? (i := 56) rfl), tb4 _ (List.mem_of_getElem? (i := 57) rfl), Or.inl (tb6 _ (List.mem_of_getElem? (i := 114) rfl))⟩
theorem lk_RX7_61 : xLk RX7 (.invokevirtual 61) m_X1_add true := Or.inl ⟨_, rfl, rfl, tb3 _ (List.mem_of_getElem? (i := 239) rfl), tb4 _ (List.mem_of_getElem? (i := 0) rfl), Or.inl (tb6 _ (List.mem_of_getElem? (i := 111) rfl))⟩
theorem lk_RX7_65 : xLk RX7 (.invokestatic 65) m_X7_isNear false := Or.inr (Or.inl ⟨_, rfl, rfl, tb6 _ (List.mem_of_getElem? (i := 181) rfl), Or.inl ⟨tb6 _ (List.mem_of_getElem? (i := 180) rfl), rfl⟩⟩)
theorem lk_RX7_69 : xLk RX7 (.invokevirtual 69) m_X7_sumOfTenths true := Or.inl ⟨_, rfl, rfl, tb6 _ (List.mem_of_getElem? (i := 185) rfl), tb0 _ (List.mem_of_getElem? (i := 45) rfl), Or.inl (tb6 _ (List.mem_of_getElem? (i := 183) rfl))⟩
theorem lk_RX8_28 : xLk RX8 (.invokevirtual 28) m_X0_sumBothWays true := Or.inl ⟨_, rfl, rfl, tb5 _ (List.mem_of_getElem? (i := 237) rfl), tb5 _ (List.mem_of_getElem? (i := 238) rfl), Or.inl (tb5 _ (List.mem_of_getElem? (i := 236) rfl))⟩
theorem lk_RX8_41 : xLk RX8 (.invokevirtual 41) m_X8_leastCut true := Or.inl ⟨_, rfl, rfl, tb6 _ (List.mem_of_getElem? (i := 1) rfl), tb6 _ (List.mem_of_getElem? (i := 2) rfl), Or.inl (tb6 _ (List.mem_of_getElem? (i := 16) rfl))⟩
theorem lk_RX8_45 : xLk RX8 (.invokevirtual 45) m_X8_sideInAll true := Or.inl ⟨_, rfl, rfl, tb6 _ (List.mem_of_getElem? (i := 19) rfl), tb0 _ (List.mem_of_getElem? (i := 34) rfl), Or.inl (tb6 _ (List.mem_of_getElem? (i := 17) rfl))⟩
theorem lk_RL_9 : xLk RL (.invokespecial 9) m_X9_init true := Or.inr (Or.inr ⟨_, rfl, rfl, rfl, rfl, rfl, tb1 _ (List.mem_of_getElem? (i := 41) rfl), Or.inl (tb1 _ (List.mem_of_getElem? (i := 40) rfl))⟩)
theorem lk_RL_18 : xLk RL (.invokespecial 18) m_Jx4a65c_init_da8c8 true := Or.inr (Or.inr ⟨_, rfl, rfl, rfl, rfl, rfl, tb2 _ (List.mem_of_getElem? (i := 66) rfl), Or.inl (tb2 _ (List.mem_of_getElem? (i := 65) rfl))⟩)
theorem lk_RL_32 : xLk RL (.invokestatic 32) m_L_stirred false := Or.inr (Or.inl ⟨_, rfl, rfl, tb2 _ (List.mem_of_getElem? (i := 124) rfl), Or.inl ⟨tb2 _ (List.mem_of_getElem? (i := 123) rfl), rfl⟩⟩)
theorem lk_RL_39 : xLk RL (.invokestatic 39) m_L_cell false := Or.inr (Or.inl ⟨_, rfl, rfl, tb2 _ (List.mem_of_getElem? (i := 129) rfl), Or.inl ⟨tb2 _ (List.mem_of_getElem? (i := 128) rfl), rfl⟩⟩)
theorem lk_RL_43 : xLk RL (.invokestatic 43) m_L_mixed false := Or.inr (Or.inl ⟨_, rfl, rfl, tb2 _ (List.mem_of_getElem? (i := 132) rfl), Or.inl ⟨tb2 _ (List.mem_of_getElem? (i := 131) rfl), rfl⟩⟩)
theorem lk_RL_52 : xLk RL (.invokevirtual 52) m_L_draw true := Or.inl ⟨_, rfl, rfl, tb2 _ (List.mem_of_getElem? (i := 121) rfl), tb0 _ (List.mem_of_getElem? (i := 2) rfl), Or.inl (tb2 _ (List.mem_of_getElem? (i := 119) rfl))⟩
theorem lk_RL_59 : xLk RL (.invokevirtual 59) m_X9_net true := Or.inl ⟨_, rfl, rfl, tb2 _ (List.mem_of_getElem? (i := 139) rfl), tb2 _ (List.mem_of_getElem? (i := 140) rfl), Or.inl (tb2 _ (List.mem_of_getElem? (i := 138) rfl))⟩
theorem lk_RL_62 : xLk RL (.invokevirtual 62) m_X9_edge true := Or.inl ⟨_, rfl, rfl, tb3 _ (List.mem_of_getElem? (i := 39) rfl), tb3 _ (List.mem_of_getElem? (i := 40) rfl), Or.inl (tb3 _ (List.mem_of_getElem? (i := 38) rfl))⟩
theorem lk_RL_66 : xLk RL (.invokevirtual 66) m_Jx4a65c_add_9ea2d true := Or.inl ⟨_, rfl, rfl, tb3 _ (List.mem_of_getElem? (i := 80) rfl), tb3 _ (List.mem_of_getElem? (i := 81) rfl), Or.inl (tb3 _ (List.mem_of_getElem? (i := 79) rfl))⟩
theorem lk_RL_70 : xLk RL (.invokevirtual 70) m_Jx4a65c_get_915e3 true := Or.inl ⟨_, rfl, rfl, tb5 _ (List.mem_of_getElem? (i := 17) rfl), tb5 _ (List.mem_of_getElem? (i := 18) rfl), Or.inl (tb5 _ (List.mem_of_getElem? (i := 16) rfl))⟩
theorem lk_RL_75 : xLk RL (.invokevirtual 75) m_L_leaving true := Or.inl ⟨_, rfl, rfl, tb5 _ (List.mem_of_getElem? (i := 44) rfl), tb0 _ (List.mem_of_getElem? (i := 26) rfl), Or.inl (tb5 _ (List.mem_of_getElem? (i := 42) rfl))⟩
theorem lk_RL_78 : xLk RL (.invokevirtual 78) m_Jx4a65c_iterator_32c93 true := Or.inl ⟨_, rfl, rfl, tb4 _ (List.mem_of_getElem? (i := 108) rfl), tb4 _ (List.mem_of_getElem? (i := 109) rfl), Or.inl (tb4 _ (List.mem_of_getElem? (i := 107) rfl))⟩
theorem lk_RL_92 : xLk RL (.invokevirtual 92) m_L_has true := Or.inl ⟨_, rfl, rfl, tb4 _ (List.mem_of_getElem? (i := 101) rfl), tb0 _ (List.mem_of_getElem? (i := 16) rfl), Or.inl (tb4 _ (List.mem_of_getElem? (i := 99) rfl))⟩
theorem lk_RL_96 : xLk RL (.invokevirtual 96) m_X9_most true := Or.inl ⟨_, rfl, rfl, tb3 _ (List.mem_of_getElem? (i := 219) rfl), tb3 _ (List.mem_of_getElem? (i := 220) rfl), Or.inl (tb3 _ (List.mem_of_getElem? (i := 218) rfl))⟩
theorem lk_RL_102 : xLk RL (.invokevirtual 102) m_X9_crowd true := Or.inl ⟨_, rfl, rfl, tb4 _ (List.mem_of_getElem? (i := 80) rfl), tb4 _ (List.mem_of_getElem? (i := 81) rfl), Or.inl (tb4 _ (List.mem_of_getElem? (i := 79) rfl))⟩
theorem lk_RL_105 : xLk RL (.invokevirtual 105) m_L_out true := Or.inl ⟨_, rfl, rfl, tb4 _ (List.mem_of_getElem? (i := 105) rfl), tb0 _ (List.mem_of_getElem? (i := 17) rfl), Or.inl (tb4 _ (List.mem_of_getElem? (i := 103) rfl))⟩
theorem lk_RL_108 : xLk RL (.invokevirtual 108) m_L_into true := Or.inl ⟨_, rfl, rfl, tb4 _ (List.mem_of_getElem? (i := 167) rfl), tb0 _ (List.mem_of_getElem? (i := 18) rfl), Or.inl (tb4 _ (List.mem_of_getElem? (i := 165) rfl))⟩
theorem lk_RL_111 : xLk RL (.invokevirtual 111) m_X9_cut true := Or.inl ⟨_, rfl, rfl, tb4 _ (List.mem_of_getElem? (i := 170) rfl), tb4 _ (List.mem_of_getElem? (i := 171) rfl), Or.inl (tb4 _ (List.mem_of_getElem? (i := 169) rfl))⟩
theorem lk_RL_115 : xLk RL (.invokevirtual 115) m_X9_cutSum true := Or.inl ⟨_, rfl, rfl, tb4 _ (List.mem_of_getElem? (i := 186) rfl), tb4 _ (List.mem_of_getElem? (i := 187) rfl), Or.inl (tb4 _ (List.mem_of_getElem? (i := 185) rfl))⟩
theorem lk_RL_119 : xLk RL (.invokevirtual 119) m_X9_cuts true := Or.inl ⟨_, rfl, rfl, tb4 _ (List.mem_of_getElem? (i := 193) rfl), tb4 _ (List.mem_of_getElem? (i := 194) rfl), Or.inl (tb4 _ (List.mem_of_getElem? (i := 192) rfl))⟩
theorem lk_RL_122 : xLk RL (.invokevirtual 122) m_Jx4a65c_size_8abf5 true := Or.inl ⟨_, rfl, rfl, tb4 _ (List.mem_of_getElem? (i := 197) rfl), tb4 _ (List.mem_of_getElem? (i := 198) rfl), Or.inl (tb4 _ (List.mem_of_getElem? (i := 196) rfl))⟩
theorem lk_RL_126 : xLk RL (.invokevirtual 126) m_X9_flow true := Or.inl ⟨_, rfl, rfl, tb4 _ (List.mem_of_getElem? (i := 201) rfl), tb4 _ (List.mem_of_getElem? (i := 202) rfl), Or.inl (tb4 _ (List.mem_of_getElem? (i := 200) rfl))⟩
theorem lk_RL_129 : xLk RL (.invokevirtual 129) m_X9_cheapest true := Or.inl ⟨_, rfl, rfl, tb4 _ (List.mem_of_getElem? (i := 221) rfl), tb4 _ (List.mem_of_getElem? (i := 222) rfl), Or.inl (tb4 _ (List.mem_of_getElem? (i := 220) rfl))⟩
theorem lk_RL_132 : xLk RL (.invokevirtual 132) m_X9_isFull true := Or.inl ⟨_, rfl, rfl, tb5 _ (List.mem_of_getElem? (i := 31) rfl), tb5 _ (List.mem_of_getElem? (i := 32) rfl), Or.inl (tb5 _ (List.mem_of_getElem? (i := 30) rfl))⟩
theorem lk_RL_136 : xLk RL (.invokevirtual 136) m_L_isFlow true := Or.inl ⟨_, rfl, rfl, tb5 _ (List.mem_of_getElem? (i := 40) rfl), tb0 _ (List.mem_of_getElem? (i := 25) rfl), Or.inl (tb5 _ (List.mem_of_getElem? (i := 38) rfl))⟩
theorem lk_RL_140 : xLk RL (.invokevirtual 140) m_L_isFilled true := Or.inl ⟨_, rfl, rfl, tb5 _ (List.mem_of_getElem? (i := 48) rfl), tb0 _ (List.mem_of_getElem? (i := 27) rfl), Or.inl (tb5 _ (List.mem_of_getElem? (i := 46) rfl))⟩
theorem lk_RL_144 : xLk RL (.invokevirtual 144) m_X9_cost true := Or.inl ⟨_, rfl, rfl, tb5 _ (List.mem_of_getElem? (i := 51) rfl), tb5 _ (List.mem_of_getElem? (i := 52) rfl), Or.inl (tb5 _ (List.mem_of_getElem? (i := 50) rfl))⟩
theorem lk_RL_147 : xLk RL (.invokevirtual 147) m_L_pricesSo true := Or.inl ⟨_, rfl, rfl, tb5 _ (List.mem_of_getElem? (i := 64) rfl), tb0 _ (List.mem_of_getElem? (i := 28) rfl), Or.inl (tb5 _ (List.mem_of_getElem? (i := 62) rfl))⟩
theorem lk_RL_151 : xLk RL (.invokevirtual 151) m_L_roundsSo true := Or.inl ⟨_, rfl, rfl, tb5 _ (List.mem_of_getElem? (i := 95) rfl), tb0 _ (List.mem_of_getElem? (i := 29) rfl), Or.inl (tb5 _ (List.mem_of_getElem? (i := 93) rfl))⟩
theorem lk_RL_155 : xLk RL (.invokevirtual 155) m_X9_price true := Or.inl ⟨_, rfl, rfl, tb5 _ (List.mem_of_getElem? (i := 67) rfl), tb5 _ (List.mem_of_getElem? (i := 68) rfl), Or.inl (tb5 _ (List.mem_of_getElem? (i := 66) rfl))⟩
theorem lk_RL_158 : xLk RL (.invokevirtual 158) m_X9_rounds true := Or.inl ⟨_, rfl, rfl, tb5 _ (List.mem_of_getElem? (i := 99) rfl), tb5 _ (List.mem_of_getElem? (i := 100) rfl), Or.inl (tb5 _ (List.mem_of_getElem? (i := 98) rfl))⟩
theorem lk_RL_163 : xLk RL (.invokevirtual 163) m_X9_roundAmount true := Or.inl ⟨_, rfl, rfl, tb5 _ (List.mem_of_getElem? (i := 132) rfl), tb5 _ (List.mem_of_getElem? (i := 133) rfl), Or.inl (tb5 _ (List.mem_of_getElem? (i := 131) rfl))⟩
theorem lk_RL_166 : xLk RL (.invokevirtual 166) m_X9_cornerWays true := Or.inl ⟨_, rfl, rfl, tb5 _ (List.mem_of_getElem? (i := 145) rfl), tb5 _ (List.mem_of_getElem? (i := 146) rfl), Or.inl (tb5 _ (List.mem_of_getElem? (i := 144) rfl))⟩
theorem lk_RL_169 : xLk RL (.invokevirtual 169) m_X9_edgeWays true := Or.inl ⟨_, rfl, rfl, tb5 _ (List.mem_of_getElem? (i := 153) rfl), tb5 _ (List.mem_of_getElem? (i := 154) rfl), Or.inl (tb5 _ (List.mem_of_getElem? (i := 152) rfl))⟩
theorem lk_RL_172 : xLk RL (.invokevirtual 172) m_X9_apart true := Or.inl ⟨_, rfl, rfl, tb5 _ (List.mem_of_getElem? (i := 161) rfl), tb5 _ (List.mem_of_getElem? (i := 162) rfl), Or.inl (tb5 _ (List.mem_of_getElem? (i := 160) rfl))⟩
theorem lk_RL_175 : xLk RL (.invokestatic 175) m_J6_bitCount_0f7a4 false := Or.inr (Or.inl ⟨_, rfl, rfl, tb5 _ (List.mem_of_getElem? (i := 174) rfl), Or.inl ⟨tb5 _ (List.mem_of_getElem? (i := 184) rfl), rfl⟩⟩)
theorem lk_RL_180 : xLk RL (.invokevirtual 180) m_X9_inSteps true := Or.inl ⟨_, rfl, rfl, tb5 _ (List.mem_of_getElem? (i := 186) rfl), tb5 _ (List.mem_of_getElem? (i := 187) rfl), Or.inl (tb5 _ (List.mem_of_getElem? (i := 185) rfl))⟩
theorem lk_RL_183 : xLk RL (.invokevirtual 183) m_X9_supply true := Or.inl ⟨_, rfl, rfl, tb3 _ (List.mem_of_getElem? (i := 170) rfl), tb3 _ (List.mem_of_getElem? (i := 171) rfl), Or.inl (tb3 _ (List.mem_of_getElem? (i := 169) rfl))⟩
theorem lk_RL_186 : xLk RL (.invokevirtual 186) m_X9_holds true := Or.inl ⟨_, rfl, rfl, tb5 _ (List.mem_of_getElem? (i := 199) rfl), tb5 _ (List.mem_of_getElem? (i := 200) rfl), Or.inl (tb5 _ (List.mem_of_getElem? (i := 198) rfl))⟩
theorem lk_RL_190 : xLk RL (.invokevirtual 190) m_X9_breaks true := Or.inl ⟨_, rfl, rfl, tb5 _ (List.mem_of_getElem? (i := 207) rfl), tb5 _ (List.mem_of_getElem? (i := 208) rfl), Or.inl (tb5 _ (List.mem_of_getElem? (i := 206) rfl))⟩
theorem lk_RL_193 : xLk RL (.invokevirtual 193) m_X9_meets true := Or.inl ⟨_, rfl, rfl, tb5 _ (List.mem_of_getElem? (i := 220) rfl), tb5 _ (List.mem_of_getElem? (i := 221) rfl), Or.inl (tb5 _ (List.mem_of_getElem? (i := 219) rfl))⟩
theorem lk_RL_196 : xLk RL (.invokevirtual 196) m_X9_between true := Or.inl ⟨_, rfl, rfl, tb5 _ (List.mem_of_getElem? (i := 229) rfl), tb5 _ (List.mem_of_getElem? (i := 230) rfl), Or.inl (tb5 _ (List.mem_of_getElem? (i := 228) rfl))⟩
theorem lk_RL_199 : xLk RL (.invokestatic 199) m_J9_min_7cf53 false := Or.inr (Or.inl ⟨_, rfl, rfl, tb3 _ (List.mem_of_getElem? (i := 137) rfl), Or.inl ⟨tb6 _ (List.mem_of_getElem? (i := 6) rfl), rfl⟩⟩)
theorem lk_RL_204 : xLk RL (.invokevirtual 204) m_X9_parent true := Or.inl ⟨_, rfl, rfl, tb6 _ (List.mem_of_getElem? (i := 8) rfl), tb6 _ (List.mem_of_getElem? (i := 9) rfl), Or.inl (tb6 _ (List.mem_of_getElem? (i := 7) rfl))⟩
theorem lk_RL_207 : xLk RL (.invokevirtual 207) m_X9_likes true := Or.inl ⟨_, rfl, rfl, tb3 _ (List.mem_of_getElem? (i := 179) rfl), tb3 _ (List.mem_of_getElem? (i := 180) rfl), Or.inl (tb3 _ (List.mem_of_getElem? (i := 178) rfl))⟩
theorem lk_RL_210 : xLk RL (.invokevirtual 210) m_X9_cover true := Or.inl ⟨_, rfl, rfl, tb6 _ (List.mem_of_getElem? (i := 27) rfl), tb6 _ (List.mem_of_getElem? (i := 28) rfl), Or.inl (tb6 _ (List.mem_of_getElem? (i := 26) rfl))⟩
theorem lk_RL_214 : xLk RL (.invokevirtual 214) m_X9_pairs true := Or.inl ⟨_, rfl, rfl, tb6 _ (List.mem_of_getElem? (i := 45) rfl), tb6 _ (List.mem_of_getElem? (i := 46) rfl), Or.inl (tb6 _ (List.mem_of_getElem? (i := 44) rfl))⟩
theorem lk_RL_217 : xLk RL (.invokevirtual 217) m_X9_pairOf true := Or.inl ⟨_, rfl, rfl, tb6 _ (List.mem_of_getElem? (i := 53) rfl), tb6 _ (List.mem_of_getElem? (i := 54) rfl), Or.inl (tb6 _ (List.mem_of_getElem? (i := 52) rfl))⟩
theorem lk_RL_220 : xLk RL (.invokevirtual 220) m_X9_table true := Or.inl ⟨_, rfl, rfl, tb6 _ (List.mem_of_getElem? (i := 72) rfl), tb6 _ (List.mem_of_getElem? (i := 73) rfl), Or.inl (tb6 _ (List.mem_of_getElem? (i := 71) rfl))⟩
theorem lk_RL_223 : xLk RL (.invokevirtual 223) m_X9_tell true := Or.inl ⟨_, rfl, rfl, tb6 _ (List.mem_of_getElem? (i := 81) rfl), tb6 _ (List.mem_of_getElem? (i := 82) rfl), Or.inl (tb6 _ (List.mem_of_getElem? (i := 80) rfl))⟩
theorem lk_RL_226 : xLk RL (.invokevirtual 226) m_X9_rounded true := Or.inl ⟨_, rfl, rfl, tb6 _ (List.mem_of_getElem? (i := 95) rfl), tb6 _ (List.mem_of_getElem? (i := 96) rfl), Or.inl (tb6 _ (List.mem_of_getElem? (i := 94) rfl))⟩
theorem lk_RL_229 : xLk RL (.invokestatic 229) m_L_isNear false := Or.inr (Or.inl ⟨_, rfl, rfl, tb6 _ (List.mem_of_getElem? (i := 116) rfl), Or.inl ⟨tb6 _ (List.mem_of_getElem? (i := 115) rfl), rfl⟩⟩)
theorem lk_RL_232 : xLk RL (.invokevirtual 232) m_X9_best true := Or.inl ⟨_, rfl, rfl, tb6 _ (List.mem_of_getElem? (i := 119) rfl), tb6 _ (List.mem_of_getElem? (i := 120) rfl), Or.inl (tb6 _ (List.mem_of_getElem? (i := 118) rfl))⟩
theorem lk_RL_235 : xLk RL (.invokevirtual 235) m_X9_chosen true := Or.inl ⟨_, rfl, rfl, tb6 _ (List.mem_of_getElem? (i := 132) rfl), tb6 _ (List.mem_of_getElem? (i := 133) rfl), Or.inl (tb6 _ (List.mem_of_getElem? (i := 131) rfl))⟩
theorem lk_RL_238 : xLk RL (.invokevirtual 238) m_X9_checksum true := Or.inl ⟨_, rfl, rfl, tb3 _ (List.mem_of_getElem? (i := 151) rfl), tb3 _ (List.mem_of_getElem? (i := 152) rfl), Or.inl (tb3 _ (List.mem_of_getElem? (i := 150) rfl))⟩
theorem lk_RL_242 : xLk RL (.invokevirtual 242) m_X9_change true := Or.inl ⟨_, rfl, rfl, tb3 _ (List.mem_of_getElem? (i := 161) rfl), tb3 _ (List.mem_of_getElem? (i := 162) rfl), Or.inl (tb3 _ (List.mem_of_getElem? (i := 160) rfl))⟩
theorem lk_RL_250 : xLk RL (.invokevirtual 250) m_L_netOn true := Or.inl ⟨_, rfl, rfl, tb2 _ (List.mem_of_getElem? (i := 117) rfl), tb0 _ (List.mem_of_getElem? (i := 1) rfl), Or.inl (tb2 _ (List.mem_of_getElem? (i := 115) rfl))⟩
theorem lk_RL_253 : xLk RL (.invokevirtual 253) m_L_refusedSo true := Or.inl ⟨_, rfl, rfl, tb3 _ (List.mem_of_getElem? (i := 146) rfl), tb0 _ (List.mem_of_getElem? (i := 8) rfl), Or.inl (tb3 _ (List.mem_of_getElem? (i := 144) rfl))⟩
theorem lk_RL_256 : xLk RL (.invokevirtual 256) m_X9_team true := Or.inl ⟨_, rfl, rfl, tb3 _ (List.mem_of_getElem? (i := 188) rfl), tb3 _ (List.mem_of_getElem? (i := 189) rfl), Or.inl (tb3 _ (List.mem_of_getElem? (i := 187) rfl))⟩
theorem lk_RL_259 : xLk RL (.invokevirtual 259) m_X9_project true := Or.inl ⟨_, rfl, rfl, tb3 _ (List.mem_of_getElem? (i := 198) rfl), tb3 _ (List.mem_of_getElem? (i := 199) rfl), Or.inl (tb3 _ (List.mem_of_getElem? (i := 197) rfl))⟩
theorem lk_RL_262 : xLk RL (.invokevirtual 262) m_X9_toolCost true := Or.inl ⟨_, rfl, rfl, tb3 _ (List.mem_of_getElem? (i := 208) rfl), tb3 _ (List.mem_of_getElem? (i := 209) rfl), Or.inl (tb3 _ (List.mem_of_getElem? (i := 207) rfl))⟩
theorem lk_RL_265 : xLk RL (.invokevirtual 265) m_L_flowSo true := Or.inl ⟨_, rfl, rfl, tb3 _ (List.mem_of_getElem? (i := 215) rfl), tb0 _ (List.mem_of_getElem? (i := 9) rfl), Or.inl (tb3 _ (List.mem_of_getElem? (i := 213) rfl))⟩
theorem lk_RL_268 : xLk RL (.invokevirtual 268) m_L_waysSo true := Or.inl ⟨_, rfl, rfl, tb5 _ (List.mem_of_getElem? (i := 142) rfl), tb0 _ (List.mem_of_getElem? (i := 31) rfl), Or.inl (tb5 _ (List.mem_of_getElem? (i := 140) rfl))⟩
theorem lk_RL_271 : xLk RL (.invokevirtual 271) m_L_demandsSo true := Or.inl ⟨_, rfl, rfl, tb5 _ (List.mem_of_getElem? (i := 196) rfl), tb0 _ (List.mem_of_getElem? (i := 32) rfl), Or.inl (tb5 _ (List.mem_of_getElem? (i := 194) rfl))⟩
theorem lk_RL_274 : xLk RL (.invokevirtual 274) m_L_treeSo true := Or.inl ⟨_, rfl, rfl, tb5 _ (List.mem_of_getElem? (i := 226) rfl), tb0 _ (List.mem_of_getElem? (i := 33) rfl), Or.inl (tb5 _ (List.mem_of_getElem? (i := 224) rfl))⟩
theorem lk_RL_277 : xLk RL (.invokevirtual 277) m_L_pairsSo true := Or.inl ⟨_, rfl, rfl, tb6 _ (List.mem_of_getElem? (i := 24) rfl), tb0 _ (List.mem_of_getElem? (i := 35) rfl), Or.inl (tb6 _ (List.mem_of_getElem? (i := 22) rfl))⟩
theorem lk_RL_280 : xLk RL (.invokevirtual 280) m_L_othersSo true := Or.inl ⟨_, rfl, rfl, tb6 _ (List.mem_of_getElem? (i := 69) rfl), tb0 _ (List.mem_of_getElem? (i := 37) rfl), Or.inl (tb6 _ (List.mem_of_getElem? (i := 67) rfl))⟩
theorem lk_RL_283 : xLk RL (.invokevirtual 283) m_X9_isSound true := Or.inl ⟨_, rfl, rfl, tb6 _ (List.mem_of_getElem? (i := 136) rfl), tb6 _ (List.mem_of_getElem? (i := 137) rfl), Or.inl (tb6 _ (List.mem_of_getElem? (i := 135) rfl))⟩
theorem lk_RL_286 : xLk RL (.invokespecial 286) m_L_init true := Or.inr (Or.inr ⟨_, rfl, rfl, rfl, rfl, rfl, tb1 _ (List.mem_of_getElem? (i := 33) rfl), Or.inl (tb1 _ (List.mem_of_getElem? (i := 32) rfl))⟩)
theorem lk_RL_287 : xLk RL (.invokevirtual 287) m_L_holdsAll true := Or.inl ⟨_, rfl, rfl, tb2 _ (List.mem_of_getElem? (i := 113) rfl), tb0 _ (List.mem_of_getElem? (i := 0) rfl), Or.inl (tb2 _ (List.mem_of_getElem? (i := 111) rfl))⟩
theorem lk_RJxc12de_1 : xLk RJxc12de (.invokespecial 1) m_Jxa1e45_init_da8c8 true := Or.inr (Or.inr ⟨_, rfl, rfl, rfl, rfl, rfl, tb2 _ (List.mem_of_getElem? (i := 72) rfl), Or.inl (tb2 _ (List.mem_of_getElem? (i := 71) rfl))⟩)
theorem lk_RJx4a65c_1 : xLk RJx4a65c (.invokespecial 1) m_Jxc12de_init_da8c8 true := Or.inr (Or.inr ⟨_, rfl, rfl, rfl, rfl, rfl, tb2 _ (List.mem_of_getElem? (i := 69) rfl), Or.inl (tb2 _ (List.mem_of_getElem? (i := 68) rfl))⟩)
theorem lk_RJx4a65c_66 : xLk RJx4a65c (.invokestatic 66) m_J7_copyOf_1904c false := Or.inr (Or.inl ⟨_, rfl, rfl, tb3 _ (List.mem_of_getElem? (i := 106) rfl), Or.inl ⟨tb3 _ (List.mem_of_getElem? (i := 105) rfl), rfl⟩⟩)
theorem lk_RJx4a65c_69 : xLk RJx4a65c (.invokevirtual 69) m_Jx4a65c_grow_92f84 true := Or.inl ⟨_, rfl, rfl, tb3 _ (List.mem_of_getElem? (i := 93) rfl), tb0 _ (List.mem_of_getElem? (i := 7) rfl), Or.inl (tb3 _ (List.mem_of_getElem? (i := 91) rfl))⟩
theorem lk_RJx4a65c_73 : xLk RJx4a65c (.invokestatic 73) m_J8_newLength_cabcc false := Or.inr (Or.inl ⟨_, rfl, rfl, tb3 _ (List.mem_of_getElem? (i := 96) rfl), Or.inl ⟨tb3 _ (List.mem_of_getElem? (i := 95) rfl), rfl⟩⟩)
theorem lk_RJx4a65c_79 : xLk RJx4a65c (.invokestatic 79) m_J9_max_7cf53 false := Or.inr (Or.inl ⟨_, rfl, rfl, tb3 _ (List.mem_of_getElem? (i := 99) rfl), Or.inl ⟨tb3 _ (List.mem_of_getElem? (i := 142) rfl), rfl⟩⟩)
theorem lk_RJx4a65c_118 : xLk RJx4a65c (.invokestatic 118) m_J15_checkIndex_7cf53 false := Or.inr (Or.inl ⟨_, rfl, rfl, tb5 _ (List.mem_of_getElem? (i := 21) rfl), Or.inl ⟨tb5 _ (List.mem_of_getElem? (i := 20) rfl), rfl⟩⟩)
theorem lk_RJx4a65c_123 : xLk RJx4a65c (.invokevirtual 123) m_Jx4a65c_elementData_915e3 true := Or.inl ⟨_, rfl, rfl, tb5 _ (List.mem_of_getElem? (i := 27) rfl), tb5 _ (List.mem_of_getElem? (i := 28) rfl), Or.inl (tb5 _ (List.mem_of_getElem? (i := 26) rfl))⟩
theorem lk_RJx4a65c_129 : xLk RJx4a65c (.invokevirtual 129) m_Jx4a65c_grow_d5877 true := Or.inl ⟨_, rfl, rfl, tb3 _ (List.mem_of_getElem? (i := 89) rfl), tb0 _ (List.mem_of_getElem? (i := 6) rfl), Or.inl (tb3 _ (List.mem_of_getElem? (i := 87) rfl))⟩
theorem lk_RJx4a65c_131 : xLk RJx4a65c (.invokevirtual 131) m_Jx4a65c_add_72be8 true := Or.inl ⟨_, rfl, rfl, tb3 _ (List.mem_of_getElem? (i := 85) rfl), tb0 _ (List.mem_of_getElem? (i := 5) rfl), Or.inl (tb3 _ (List.mem_of_getElem? (i := 83) rfl))⟩
theorem lk_RJx4a65c_269 : xLk RJx4a65c (.invokespecial 269) m_Jx35411_init_45d68 true := Or.inr (Or.inr ⟨_, rfl, rfl, rfl, rfl, rfl, tb4 _ (List.mem_of_getElem? (i := 114) rfl), Or.inl (tb4 _ (List.mem_of_getElem? (i := 113) rfl))⟩)
theorem lk_RJx35411_31 : xLk RJx35411 (.invokevirtual 31) m_Jx35411_checkForComodification_da8c8 true := Or.inl ⟨_, rfl, rfl, tb4 _ (List.mem_of_getElem? (i := 150) rfl), tb4 _ (List.mem_of_getElem? (i := 151) rfl), Or.inl (tb4 _ (List.mem_of_getElem? (i := 149) rfl))⟩
theorem lk_RJ7_300 : xLk RJ7 (.invokestatic 300) m_J7_copyOf_6403c false := Or.inr (Or.inl ⟨_, rfl, rfl, tb3 _ (List.mem_of_getElem? (i := 131) rfl), Or.inl ⟨tb3 _ (List.mem_of_getElem? (i := 130) rfl), rfl⟩⟩)
theorem lk_RJ7_304 : xLk RJ7 (.invokestatic 304) m_J9_min_7cf53 false := Or.inr (Or.inl ⟨_, rfl, rfl, tb3 _ (List.mem_of_getElem? (i := 137) rfl), Or.inl ⟨tb3 _ (List.mem_of_getElem? (i := 136) rfl), rfl⟩⟩)
theorem lk_RJ15_105 : xLk RJ15 (.invokestatic 105) m_J3_checkIndex_8e157 false := Or.inr (Or.inl ⟨_, rfl, rfl, tb5 _ (List.mem_of_getElem? (i := 24) rfl), Or.inl ⟨tb5 _ (List.mem_of_getElem? (i := 23) rfl), rfl⟩⟩)
theorem lk_RJ8_194 : xLk RJ8 (.invokestatic 194) m_J9_max_7cf53 false := Or.inr (Or.inl ⟨_, rfl, rfl, tb3 _ (List.mem_of_getElem? (i := 99) rfl), Or.inl ⟨tb3 _ (List.mem_of_getElem? (i := 98) rfl), rfl⟩⟩)
theorem lk_RJ8_201 : xLk RJ8 (.invokestatic 201) m_J8_hugeLength_7cf53 false := Or.inr (Or.inl ⟨_, rfl, rfl, tb3 _ (List.mem_of_getElem? (i := 103) rfl), Or.inl ⟨tb3 _ (List.mem_of_getElem? (i := 102) rfl), rfl⟩⟩)
theorem lk_RX9_17 : xLk RX9 (.invokespecial 17) m_X6_init true := Or.inr (Or.inr ⟨_, rfl, rfl, rfl, rfl, rfl, tb1 _ (List.mem_of_getElem? (i := 49) rfl), Or.inr ⟨"CutsetWorks", tb1 _ (List.mem_of_getElem? (i := 48) rfl)⟩⟩)
theorem lk_RX9_24 : xLk RX9 (.invokespecial 24) m_X0_init true := Or.inr (Or.inr ⟨_, rfl, rfl, rfl, rfl, rfl, tb1 _ (List.mem_of_getElem? (i := 127) rfl), Or.inr ⟨"CutsetWorks", tb1 _ (List.mem_of_getElem? (i := 126) rfl)⟩⟩)
theorem lk_RX9_31 : xLk RX9 (.invokespecial 31) m_X8_init true := Or.inr (Or.inr ⟨_, rfl, rfl, rfl, rfl, rfl, tb1 _ (List.mem_of_getElem? (i := 158) rfl), Or.inr ⟨"CutsetWorks", tb1 _ (List.mem_of_getElem? (i := 157) rfl)⟩⟩)
theorem lk_RX9_38 : xLk RX9 (.invokespecial 38) m_X4_init true := Or.inr (Or.inr ⟨_, rfl, rfl, rfl, rfl, rfl, tb1 _ (List.mem_of_getElem? (i := 178) rfl), Or.inr ⟨"CutsetWorks", tb1 _ (List.mem_of_getElem? (i := 177) rfl)⟩⟩)
theorem lk_RX9_45 : xLk RX9 (.invokespecial 45) m_X2_init true := Or.inr (Or.inr ⟨_, rfl, rfl, rfl, rfl, rfl, tb1 _ (List.mem_of_getElem? (i := 196) rfl), Or.inr ⟨"CutsetWorks", tb1 _ (List.mem_of_getElem? (i := 195) rfl)⟩⟩)
theorem lk_RX9_52 : xLk RX9 (.invokespecial 52) m_X7_init true := Or.inr (Or.inr ⟨_, rfl, rfl, rfl, rfl, rfl, tb1 _ (List.mem_of_getElem? (i := 213) rfl), Or.inr ⟨"CutsetWorks", tb1 _ (List.mem_of_getElem? (i := 212) rfl)⟩⟩)
theorem lk_RX9_59 : xLk RX9 (.invokespecial 59) m_X5_init true := Or.inr (Or.inr ⟨_, rfl, rfl, rfl, rfl, rfl, tb2 _ (List.mem_of_getElem? (i := 5) rfl), Or.inr ⟨"CutsetWorks", tb2 _ (List.mem_of_getElem? (i := 4) rfl)⟩⟩)
theorem lk_RX9_80 : xLk RX9 (.invokespecial 80) m_X3_init true := Or.inr (Or.inr ⟨_, rfl, rfl, rfl, rfl, rfl, tb2 _ (List.mem_of_getElem? (i := 230) rfl), Or.inr ⟨"CutsetWorks", tb2 _ (List.mem_of_getElem? (i := 229) rfl)⟩⟩)
theorem lk_RX0_49 : xLk RX0 (.invokestatic 49) m_X9_hasBit false := Or.inr (Or.inl ⟨_, rfl, rfl, tb4 _ (List.mem_of_getElem? (i := 88) rfl), Or.inr ⟨rfl, "CutsetWorks", tb4 _ (List.mem_of_getElem? (i := 87) rfl)⟩⟩)
theorem lk_RX0_65 : xLk RX0 (.invokestatic 65) m_X9_hasOneOf false := Or.inr (Or.inl ⟨_, rfl, rfl, tb4 _ (List.mem_of_getElem? (i := 178) rfl), Or.inr ⟨rfl, "CutsetWorks", tb4 _ (List.mem_of_getElem? (i := 177) rfl)⟩⟩)
theorem lk_RX3_41 : xLk RX3 (.invokestatic 41) m_X9_hasBit false := Or.inr (Or.inl ⟨_, rfl, rfl, tb4 _ (List.mem_of_getElem? (i := 88) rfl), Or.inr ⟨rfl, "CutsetWorks", tb5 _ (List.mem_of_getElem? (i := 183) rfl)⟩⟩)
theorem lk_RX4_33 : xLk RX4 (.invokestatic 33) m_X9_hasBit false := Or.inr (Or.inl ⟨_, rfl, rfl, tb4 _ (List.mem_of_getElem? (i := 88) rfl), Or.inr ⟨rfl, "CutsetWorks", tb6 _ (List.mem_of_getElem? (i := 65) rfl)⟩⟩)
theorem lk_RX5_38 : xLk RX5 (.invokestatic 38) m_X9_hasBit false := Or.inr (Or.inl ⟨_, rfl, rfl, tb4 _ (List.mem_of_getElem? (i := 88) rfl), Or.inr ⟨rfl, "CutsetWorks", tb6 _ (List.mem_of_getElem? (i := 130) rfl)⟩⟩)
theorem lk_RX6_11 : xLk RX6 (.invokespecial 11) m_X1_init true := Or.inr (Or.inr ⟨_, rfl, rfl, rfl, rfl, rfl, tb1 _ (List.mem_of_getElem? (i := 55) rfl), Or.inr ⟨"CutsetWorks", tb1 _ (List.mem_of_getElem? (i := 54) rfl)⟩⟩)
theorem lk_RX6_122 : xLk RX6 (.invokestatic 122) m_X9_hasOneOf false := Or.inr (Or.inl ⟨_, rfl, rfl, tb4 _ (List.mem_of_getElem? (i := 178) rfl), Or.inr ⟨rfl, "CutsetWorks", tb6 _ (List.mem_of_getElem? (i := 152) rfl)⟩⟩)
theorem lk_RX8_37 : xLk RX8 (.invokestatic 37) m_X9_hasOneOf false := Or.inr (Or.inl ⟨_, rfl, rfl, tb4 _ (List.mem_of_getElem? (i := 178) rfl), Or.inr ⟨rfl, "CutsetWorks", tb6 _ (List.mem_of_getElem? (i := 5) rfl)⟩⟩)
theorem lk_RX8_49 : xLk RX8 (.invokestatic 49) m_X9_hasBit false := Or.inr (Or.inl ⟨_, rfl, rfl, tb4 _ (List.mem_of_getElem? (i := 88) rfl), Or.inr ⟨rfl, "CutsetWorks", tb6 _ (List.mem_of_getElem? (i := 21) rfl)⟩⟩)
theorem fl_RX9_11 : xFL RX9 11 9 0 true := ⟨RX9, TX9, 9, rfl, by decide, rfl, Or.inr ⟨.object "CutsetWorks$Net", by decide +kernel⟩, Or.inl ⟨_, tb2 _ (List.mem_of_getElem? (i := 35) rfl), Or.inl rfl⟩⟩
theorem fl_RX9_18 : xFL RX9 18 9 2 true := ⟨RX9, TX9, 9, rfl, by decide, rfl, Or.inl ⟨"CutsetWorks$Streams", by decide +kernel⟩, Or.inl ⟨_, tb2 _ (List.mem_of_getElem? (i := 37) rfl), Or.inl rfl⟩⟩
theorem fl_RX9_25 : xFL RX9 25 9 3 true := ⟨RX9, TX9, 9, rfl, by decide, rfl, Or.inl ⟨"CutsetWorks$Cuts", by decide +kernel⟩, Or.inl ⟨_, tb2 _ (List.mem_of_getElem? (i := 38) rfl), Or.inl rfl⟩⟩
theorem fl_RX9_32 : xFL RX9 32 9 4 true := ⟨RX9, TX9, 9, rfl, by decide, rfl, Or.inl ⟨"CutsetWorks$Tree", by decide +kernel⟩, Or.inl ⟨_, tb2 _ (List.mem_of_getElem? (i := 39) rfl), Or.inl rfl⟩⟩
theorem fl_RX9_39 : xFL RX9 39 9 5 true := ⟨RX9, TX9, 9, rfl, by decide, rfl, Or.inl ⟨"CutsetWorks$Pairing", by decide +kernel⟩, Or.inl ⟨_, tb2 _ (List.mem_of_getElem? (i := 40) rfl), Or.inl rfl⟩⟩
theorem fl_RX9_46 : xFL RX9 46 9 6 true := ⟨RX9, TX9, 9, rfl, by decide, rfl, Or.inl ⟨"CutsetWorks$League", by decide +kernel⟩, Or.inl ⟨_, tb2 _ (List.mem_of_getElem? (i := 41) rfl), Or.inl rfl⟩⟩
theorem fl_RX9_53 : xFL RX9 53 9 7 true := ⟨RX9, TX9, 9, rfl, by decide, rfl, Or.inl ⟨"CutsetWorks$Table", by decide +kernel⟩, Or.inl ⟨_, tb2 _ (List.mem_of_getElem? (i := 42) rfl), Or.inl rfl⟩⟩
theorem fl_RX9_60 : xFL RX9 60 9 8 true := ⟨RX9, TX9, 9, rfl, by decide, rfl, Or.inl ⟨"CutsetWorks$Projects", by decide +kernel⟩, Or.inl ⟨_, tb2 _ (List.mem_of_getElem? (i := 43) rfl), Or.inl rfl⟩⟩
theorem fl_RX9_71 : xFL RX9 71 9 1 false := ⟨RX9, TX9, 9, rfl, by decide, rfl, xpI, Or.inl ⟨_, tb2 _ (List.mem_of_getElem? (i := 36) rfl), Or.inl rfl⟩⟩
theorem fl_RX0_9 : xFL RX0 9 0 0 false := ⟨RX0, TX0, 7, rfl, by decide, rfl, xpI, Or.inl ⟨_, tb1 _ (List.mem_of_getElem? (i := 130) rfl), Or.inl rfl⟩⟩
theorem fl_RX0_15 : xFL RX0 15 0 1 false := ⟨RX0, TX0, 7, rfl, by decide, rfl, xpI, Or.inl ⟨_, tb1 _ (List.mem_of_getElem? (i := 131) rfl), Or.inl rfl⟩⟩
theorem fl_RX0_18 : xFL RX0 18 0 2 false := ⟨RX0, TX0, 7, rfl, by decide, rfl, xpI, Or.inl ⟨_, tb1 _ (List.mem_of_getElem? (i := 132) rfl), Or.inl rfl⟩⟩
theorem fl_RX0_21 : xFL RX0 21 0 3 false := ⟨RX0, TX0, 7, rfl, by decide, rfl, xpI, Or.inl ⟨_, tb1 _ (List.mem_of_getElem? (i := 133) rfl), Or.inl rfl⟩⟩
theorem fl_RX0_56 : xFL RX0 56 0 4 false := ⟨RX0, TX0, 7, rfl, by decide, rfl, xpI, Or.inl ⟨_, tb1 _ (List.mem_of_getElem? (i := 134) rfl), Or.inl rfl⟩⟩
theorem fl_RX0_59 : xFL RX0 59 0 5 false := ⟨RX0, TX0, 7, rfl, by decide, rfl, xpI, Or.inl ⟨_, tb1 _ (List.mem_of_getElem? (i := 136) rfl), Or.inl rfl⟩⟩
theorem fl_RX0_62 : xFL RX0 62 0 6 false := ⟨RX0, TX0, 7, rfl, by decide, rfl, xpI, Or.inl ⟨_, tb1 _ (List.mem_of_getElem? (i := 138) rfl), Or.inl rfl⟩⟩
theorem fl_RX1_11 : xFL RX1 11 1 2 true := ⟨RX1, TX1, 14, rfl, by decide, rfl, Or.inr ⟨.int, xpA⟩, Or.inl ⟨_, tb1 _ (List.mem_of_getElem? (i := 60) rfl), Or.inl rfl⟩⟩
theorem fl_RX1_15 : xFL RX1 15 1 3 true := ⟨RX1, TX1, 14, rfl, by decide, rfl, Or.inr ⟨.int, xpA⟩, Or.inl ⟨_, tb1 _ (List.mem_of_getElem? (i := 61) rfl), Or.inl rfl⟩⟩
theorem fl_RX1_18 : xFL RX1 18 1 4 true := ⟨RX1, TX1, 14, rfl, by decide, rfl, Or.inr ⟨.int, xpA⟩, Or.inl ⟨_, tb1 _ (List.mem_of_getElem? (i := 62) rfl), Or.inl rfl⟩⟩
theorem fl_RX1_21 : xFL RX1 21 1 5 true := ⟨RX1, TX1, 14, rfl, by decide, rfl, Or.inr ⟨.int, xpA⟩, Or.inl ⟨_, tb1 _ (List.mem_of_getElem? (i := 63) rfl), Or.inl rfl⟩⟩
theorem fl_RX1_24 : xFL RX1 24 1 6 true := ⟨RX1, TX1, 14, rfl, by decide, rfl, Or.inr ⟨.int, xpA⟩, Or.inl ⟨_, tb1 _ (List.mem_of_getElem? (i := 64) rfl), Or.inl rfl⟩⟩
theorem fl_RX1_27 : xFL RX1 27 1 7 true := ⟨RX1, TX1, 14, rfl, by decide, rfl, Or.inr ⟨.int, xpA⟩, Or.inl ⟨_, tb1 _ (List.mem_of_getElem? (i := 65) rfl), Or.inl rfl⟩⟩
theorem fl_RX1_30 : xFL RX1 30 1 8 true := ⟨RX1, TX1, 14, rfl, by decide, rfl, Or.inr ⟨.int, xpA⟩, Or.inl ⟨_, tb1 _ (List.mem_of_getElem? (i := 66) rfl), Or.inl rfl⟩⟩
theorem fl_RX1_33 : xFL RX1 33 1 9 true := ⟨RX1, TX1, 14, rfl, by decide, rfl, Or.inr ⟨.int, xpA⟩, Or.inl ⟨_, tb1 _ (List.mem_of_getElem? (i := 67) rfl), Or.inl rfl⟩⟩
theorem fl_RX1_36 : xFL RX1 36 1 10 true := ⟨RX1, TX1, 14, rfl, by decide, rfl, Or.inr ⟨.int, xpA⟩, Or.inl ⟨_, tb1 _ (List.mem_of_getElem? (i := 68) rfl), Or.inl rfl⟩⟩
theorem fl_RX1_39 : xFL RX1 39 1 11 true := ⟨RX1, TX1, 14, rfl, by decide, rfl, Or.inr ⟨.int, xpA⟩, Or.inl ⟨_, tb1 _ (List.mem_of_getElem? (i := 69) rfl), Or.inl rfl⟩⟩
theorem fl_RX1_42 : xFL RX1 42 1 12 true := ⟨RX1, TX1, 14, rfl, by decide, rfl, Or.inr ⟨.int, xpA⟩, Or.inl ⟨_, tb1 _ (List.mem_of_getElem? (i := 70) rfl), Or.inl rfl⟩⟩
theorem fl_RX1_45 : xFL RX1 45 1 0 false := ⟨RX1, TX1, 14, rfl, by decide, rfl, xpI, Or.inl ⟨_, tb1 _ (List.mem_of_getElem? (i := 58) rfl), Or.inl rfl⟩⟩
theorem fl_RX1_49 : xFL RX1 49 1 1 false := ⟨RX1, TX1, 14, rfl, by decide, rfl, xpI, Or.inl ⟨_, tb1 _ (List.mem_of_getElem? (i := 59) rfl), Or.inl rfl⟩⟩
theorem fl_RX1_52 : xFL RX1 52 1 13 false := ⟨RX1, TX1, 14, rfl, by decide, rfl, xpI, Or.inl ⟨_, tb1 _ (List.mem_of_getElem? (i := 71) rfl), Or.inl rfl⟩⟩
theorem fl_RX2_11 : xFL RX2 11 2 1 true := ⟨RX2, TX2, 3, rfl, by decide, rfl, Or.inr ⟨.int, xpA⟩, Or.inl ⟨_, tb1 _ (List.mem_of_getElem? (i := 201) rfl), Or.inl rfl⟩⟩
theorem fl_RX2_15 : xFL RX2 15 2 2 true := ⟨RX2, TX2, 3, rfl, by decide, rfl, Or.inr ⟨.int, xpA⟩, Or.inl ⟨_, tb1 _ (List.mem_of_getElem? (i := 202) rfl), Or.inl rfl⟩⟩
theorem fl_RX2_18 : xFL RX2 18 2 0 false := ⟨RX2, TX2, 3, rfl, by decide, rfl, xpI, Or.inl ⟨_, tb1 _ (List.mem_of_getElem? (i := 199) rfl), Or.inl rfl⟩⟩
theorem fl_RX3_9 : xFL RX3 9 3 0 false := ⟨RX3, TX3, 8, rfl, by decide, rfl, xpI, Or.inl ⟨_, tb2 _ (List.mem_of_getElem? (i := 233) rfl), Or.inl rfl⟩⟩
theorem fl_RX3_15 : xFL RX3 15 3 1 true := ⟨RX3, TX3, 8, rfl, by decide, rfl, Or.inr ⟨.int, xpA⟩, Or.inl ⟨_, tb2 _ (List.mem_of_getElem? (i := 238) rfl), Or.inl rfl⟩⟩
theorem fl_RX3_19 : xFL RX3 19 3 2 true := ⟨RX3, TX3, 8, rfl, by decide, rfl, Or.inr ⟨.int, xpA⟩, Or.inl ⟨_, tb3 _ (List.mem_of_getElem? (i := 1) rfl), Or.inl rfl⟩⟩
theorem fl_RX3_22 : xFL RX3 22 3 3 true := ⟨RX3, TX3, 8, rfl, by decide, rfl, Or.inr ⟨.int, xpA⟩, Or.inl ⟨_, tb3 _ (List.mem_of_getElem? (i := 4) rfl), Or.inl rfl⟩⟩
theorem fl_RX3_25 : xFL RX3 25 3 4 true := ⟨RX3, TX3, 8, rfl, by decide, rfl, Or.inr ⟨.int, xpA⟩, Or.inl ⟨_, tb3 _ (List.mem_of_getElem? (i := 7) rfl), Or.inl rfl⟩⟩
theorem fl_RX3_28 : xFL RX3 28 3 5 true := ⟨RX3, TX3, 8, rfl, by decide, rfl, Or.inr ⟨.int, xpA⟩, Or.inl ⟨_, tb3 _ (List.mem_of_getElem? (i := 11) rfl), Or.inl rfl⟩⟩
theorem fl_RX3_31 : xFL RX3 31 3 6 true := ⟨RX3, TX3, 8, rfl, by decide, rfl, Or.inr ⟨.int, xpA⟩, Or.inl ⟨_, tb3 _ (List.mem_of_getElem? (i := 13) rfl), Or.inl rfl⟩⟩
theorem fl_RX3_34 : xFL RX3 34 3 7 false := ⟨RX3, TX3, 8, rfl, by decide, rfl, xpI, Or.inl ⟨_, tb3 _ (List.mem_of_getElem? (i := 17) rfl), Or.inl rfl⟩⟩
theorem fl_RX4_9 : xFL RX4 9 4 0 true := ⟨RX4, TX4, 3, rfl, by decide, rfl, Or.inr ⟨.int, xpA⟩, Or.inl ⟨_, tb1 _ (List.mem_of_getElem? (i := 181) rfl), Or.inl rfl⟩⟩
theorem fl_RX4_13 : xFL RX4 13 4 1 true := ⟨RX4, TX4, 3, rfl, by decide, rfl, Or.inr ⟨.int, xpA⟩, Or.inl ⟨_, tb1 _ (List.mem_of_getElem? (i := 183) rfl), Or.inl rfl⟩⟩
theorem fl_RX4_16 : xFL RX4 16 4 2 true := ⟨RX4, TX4, 3, rfl, by decide, rfl, Or.inr ⟨.int, xpA⟩, Or.inl ⟨_, tb1 _ (List.mem_of_getElem? (i := 184) rfl), Or.inl rfl⟩⟩
theorem fl_RX5_11 : xFL RX5 11 5 1 true := ⟨RX5, TX5, 7, rfl, by decide, rfl, Or.inr ⟨.int, xpA⟩, Or.inl ⟨_, tb2 _ (List.mem_of_getElem? (i := 10) rfl), Or.inl rfl⟩⟩
theorem fl_RX5_15 : xFL RX5 15 5 2 true := ⟨RX5, TX5, 7, rfl, by decide, rfl, Or.inr ⟨.int, xpA⟩, Or.inl ⟨_, tb2 _ (List.mem_of_getElem? (i := 11) rfl), Or.inl rfl⟩⟩
theorem fl_RX5_18 : xFL RX5 18 5 3 true := ⟨RX5, TX5, 7, rfl, by decide, rfl, Or.inr ⟨.int, xpA⟩, Or.inl ⟨_, tb2 _ (List.mem_of_getElem? (i := 12) rfl), Or.inl rfl⟩⟩
theorem fl_RX5_21 : xFL RX5 21 5 0 false := ⟨RX5, TX5, 7, rfl, by decide, rfl, xpI, Or.inl ⟨_, tb2 _ (List.mem_of_getElem? (i := 8) rfl), Or.inl rfl⟩⟩
theorem fl_RX5_25 : xFL RX5 25 5 4 false := ⟨RX5, TX5, 7, rfl, by decide, rfl, xpI, Or.inl ⟨_, tb2 _ (List.mem_of_getElem? (i := 14) rfl), Or.inl rfl⟩⟩
theorem fl_RX5_28 : xFL RX5 28 5 5 false := ⟨RX5, TX5, 7, rfl, by decide, rfl, xpI, Or.inl ⟨_, tb2 _ (List.mem_of_getElem? (i := 16) rfl), Or.inl rfl⟩⟩
theorem fl_RX5_31 : xFL RX5 31 5 6 false := ⟨RX5, TX5, 7, rfl, by decide, rfl, xpI, Or.inl ⟨_, tb2 _ (List.mem_of_getElem? (i := 18) rfl), Or.inl rfl⟩⟩
theorem fl_RX6_12 : xFL RX6 12 6 0 true := ⟨RX6, TX6, 6, rfl, by decide, rfl, Or.inl ⟨"CutsetWorks$Flows", by decide +kernel⟩, Or.inl ⟨_, tb1 _ (List.mem_of_getElem? (i := 102) rfl), Or.inl rfl⟩⟩
theorem fl_RX6_18 : xFL RX6 18 6 1 false := ⟨RX6, TX6, 6, rfl, by decide, rfl, xpI, Or.inl ⟨_, tb1 _ (List.mem_of_getElem? (i := 104) rfl), Or.inl rfl⟩⟩
theorem fl_RX6_22 : xFL RX6 22 6 2 false := ⟨RX6, TX6, 6, rfl, by decide, rfl, xpI, Or.inl ⟨_, tb1 _ (List.mem_of_getElem? (i := 105) rfl), Or.inl rfl⟩⟩
theorem fl_RX6_41 : xFL RX6 41 6 3 false := ⟨RX6, TX6, 6, rfl, by decide, rfl, xpI, Or.inl ⟨_, tb1 _ (List.mem_of_getElem? (i := 106) rfl), Or.inl rfl⟩⟩
theorem fl_RX6_85 : xFL RX6 85 6 4 false := ⟨RX6, TX6, 6, rfl, by decide, rfl, xpI, Or.inl ⟨_, tb1 _ (List.mem_of_getElem? (i := 107) rfl), Or.inl rfl⟩⟩
theorem fl_RX6_110 : xFL RX6 110 6 5 false := ⟨RX6, TX6, 6, rfl, by decide, rfl, xpI, Or.inl ⟨_, tb1 _ (List.mem_of_getElem? (i := 109) rfl), Or.inl rfl⟩⟩
theorem fl_RX7_9 : xFL RX7 9 7 2 true := ⟨RX7, TX7, 7, rfl, by decide, rfl, Or.inr ⟨.int, xpA⟩, Or.inl ⟨_, tb1 _ (List.mem_of_getElem? (i := 220) rfl), Or.inl rfl⟩⟩
theorem fl_RX7_13 : xFL RX7 13 7 3 true := ⟨RX7, TX7, 7, rfl, by decide, rfl, Or.inr ⟨.int, xpA⟩, Or.inl ⟨_, tb1 _ (List.mem_of_getElem? (i := 222) rfl), Or.inl rfl⟩⟩
theorem fl_RX7_16 : xFL RX7 16 7 4 true := ⟨RX7, TX7, 7, rfl, by decide, rfl, Or.inr ⟨.int, xpA⟩, Or.inl ⟨_, tb1 _ (List.mem_of_getElem? (i := 224) rfl), Or.inl rfl⟩⟩
theorem fl_RX7_19 : xFL RX7 19 7 5 true := ⟨RX7, TX7, 7, rfl, by decide, rfl, Or.inr ⟨.int, xpA⟩, Or.inl ⟨_, tb1 _ (List.mem_of_getElem? (i := 225) rfl), Or.inl rfl⟩⟩
theorem fl_RX7_22 : xFL RX7 22 7 0 false := ⟨RX7, TX7, 7, rfl, by decide, rfl, xpI, Or.inl ⟨_, tb1 _ (List.mem_of_getElem? (i := 216) rfl), Or.inl rfl⟩⟩
theorem fl_RX7_26 : xFL RX7 26 7 1 false := ⟨RX7, TX7, 7, rfl, by decide, rfl, xpI, Or.inl ⟨_, tb1 _ (List.mem_of_getElem? (i := 218) rfl), Or.inl rfl⟩⟩
theorem fl_RX7_29 : xFL RX7 29 7 6 false := ⟨RX7, TX7, 7, rfl, by decide, rfl, xpI, Or.inl ⟨_, tb1 _ (List.mem_of_getElem? (i := 226) rfl), Or.inl rfl⟩⟩
theorem fl_RX8_9 : xFL RX8 9 8 1 true := ⟨RX8, TX8, 4, rfl, by decide, rfl, Or.inr ⟨.int, xpA⟩, Or.inl ⟨_, tb1 _ (List.mem_of_getElem? (i := 162) rfl), Or.inl rfl⟩⟩
theorem fl_RX8_15 : xFL RX8 15 8 2 true := ⟨RX8, TX8, 4, rfl, by decide, rfl, Or.inr ⟨.int, xpA⟩, Or.inl ⟨_, tb1 _ (List.mem_of_getElem? (i := 163) rfl), Or.inl rfl⟩⟩
theorem fl_RX8_18 : xFL RX8 18 8 3 true := ⟨RX8, TX8, 4, rfl, by decide, rfl, Or.inr ⟨.int, xpA⟩, Or.inl ⟨_, tb1 _ (List.mem_of_getElem? (i := 165) rfl), Or.inl rfl⟩⟩
theorem fl_RX8_27 : xFL RX8 27 8 0 false := ⟨RX8, TX8, 4, rfl, by decide, rfl, xpI, Or.inl ⟨_, tb1 _ (List.mem_of_getElem? (i := 161) rfl), Or.inl rfl⟩⟩
theorem fl_RL_10 : xFL RL 10 10 3 true := ⟨RL, TL, 6, rfl, by decide, rfl, Or.inl ⟨"CutsetWorks", by decide +kernel⟩, Or.inl ⟨_, tb2 _ (List.mem_of_getElem? (i := 95) rfl), Or.inl rfl⟩⟩
theorem fl_RL_19 : xFL RL 19 10 5 true := ⟨RL, TL, 6, rfl, by decide, rfl, Or.inl ⟨"java/util/ArrayList", by decide +kernel⟩, Or.inl ⟨_, tb2 _ (List.mem_of_getElem? (i := 97) rfl), Or.inl rfl⟩⟩
theorem fl_RL_24 : xFL RL 24 10 1 false := ⟨RL, TL, 6, rfl, by decide, rfl, xpI, Or.inl ⟨_, tb2 _ (List.mem_of_getElem? (i := 93) rfl), Or.inl rfl⟩⟩
theorem fl_RL_28 : xFL RL 28 10 0 true := ⟨RL, TL, 6, rfl, by decide, rfl, Or.inr ⟨.int, xpA⟩, Or.inl ⟨_, tb2 _ (List.mem_of_getElem? (i := 92) rfl), Or.inl rfl⟩⟩
theorem fl_RL_36 : xFL RL 36 10 2 false := ⟨RL, TL, 6, rfl, by decide, rfl, xpI, Or.inl ⟨_, tb2 _ (List.mem_of_getElem? (i := 94) rfl), Or.inl rfl⟩⟩
theorem fl_RL_56 : xFL RL 56 10 4 false := ⟨RL, TL, 6, rfl, by decide, rfl, xpI, Or.inl ⟨_, tb2 _ (List.mem_of_getElem? (i := 96) rfl), Or.inl rfl⟩⟩
theorem fl_RJxc12de_7 : xFL RJxc12de 7 11 0 false := ⟨RJx4a65c, TJx4a65c, 3, rfl, by decide, rfl, xpI, Or.inl ⟨_, tb2 _ (List.mem_of_getElem? (i := 81) rfl), Or.inl rfl⟩⟩
theorem fl_RJx4a65c_9 : xFL RJx4a65c 9 11 1 true := ⟨RJx4a65c, TJx4a65c, 3, rfl, by decide, rfl, Or.inr ⟨.object "java/lang/Object", by decide +kernel⟩, Or.inl ⟨_, tb2 _ (List.mem_of_getElem? (i := 77) rfl), Or.inl rfl⟩⟩
-- skipped ('fieldLink', 'java/util/ArrayList', 39, 'java/util/ArrayList', 'DEFAULTCAPACITY_EMPTY_ELEMENTDATA', '[Ljava/lang/Object;')
theorem fl_RJx4a65c_48 : xFL RJx4a65c 48 11 2 false := ⟨RJx4a65c, TJx4a65c, 3, rfl, by decide, rfl, xpI, Or.inl ⟨_, tb2 _ (List.mem_of_getElem? (i := 80) rfl), Or.inl rfl⟩⟩
theorem fl_RJx4a65c_63 : xFL RJx4a65c 63 11 0 false := ⟨RJx4a65c, TJx4a65c, 3, rfl, by decide, rfl, xpI, Or.inl ⟨_, tb2 _ (List.mem_of_getElem? (i := 84) rfl), Or.inr (tb2 _ (List.mem_of_getElem? (i := 83) rfl))⟩⟩
theorem fl_RJx35411_1 : xFL RJx35411 1 12 3 true := ⟨RJx35411, TJx35411, 4, rfl, by decide, rfl, Or.inl ⟨"java/util/ArrayList", by decide +kernel⟩, Or.inl ⟨_, tb4 _ (List.mem_of_getElem? (i := 120) rfl), Or.inl rfl⟩⟩
theorem fl_RJx35411_13 : xFL RJx35411 13 12 1 false := ⟨RJx35411, TJx35411, 4, rfl, by decide, rfl, xpI, Or.inl ⟨_, tb4 _ (List.mem_of_getElem? (i := 118) rfl), Or.inl rfl⟩⟩
theorem fl_RJx35411_17 : xFL RJx35411 17 11 0 false := ⟨RJx4a65c, TJx4a65c, 3, rfl, by decide, rfl, xpI, Or.inl ⟨_, tb2 _ (List.mem_of_getElem? (i := 82) rfl), Or.inr (tb2 _ (List.mem_of_getElem? (i := 83) rfl))⟩⟩
theorem fl_RJx35411_22 : xFL RJx35411 22 12 2 false := ⟨RJx35411, TJx35411, 4, rfl, by decide, rfl, xpI, Or.inl ⟨_, tb4 _ (List.mem_of_getElem? (i := 119) rfl), Or.inl rfl⟩⟩
theorem fl_RJx35411_25 : xFL RJx35411 25 12 0 false := ⟨RJx35411, TJx35411, 4, rfl, by decide, rfl, xpI, Or.inl ⟨_, tb4 _ (List.mem_of_getElem? (i := 117) rfl), Or.inl rfl⟩⟩
theorem fl_RJx35411_37 : xFL RJx35411 37 11 1 true := ⟨RJx4a65c, TJx4a65c, 3, rfl, by decide, rfl, Or.inr ⟨.object "java/lang/Object", by decide +kernel⟩, Or.inl ⟨_, tb2 _ (List.mem_of_getElem? (i := 78) rfl), Or.inl rfl⟩⟩
theorem fl_RX9_95 : xFL RX9 95 3 7 false := ⟨RX3, TX3, 8, rfl, by decide, rfl, xpI, Or.inr ⟨"CutsetWorks", tb3 _ (List.mem_of_getElem? (i := 20) rfl)⟩⟩
theorem fl_RX9_108 : xFL RX9 108 3 4 true := ⟨RX3, TX3, 8, rfl, by decide, rfl, Or.inr ⟨.int, xpA⟩, Or.inr ⟨"CutsetWorks", tb3 _ (List.mem_of_getElem? (i := 10) rfl)⟩⟩
theorem fl_RX9_124 : xFL RX9 124 3 6 true := ⟨RX3, TX3, 8, rfl, by decide, rfl, Or.inr ⟨.int, xpA⟩, Or.inr ⟨"CutsetWorks", tb3 _ (List.mem_of_getElem? (i := 15) rfl)⟩⟩
theorem fl_RX9_149 : xFL RX9 149 0 5 false := ⟨RX0, TX0, 7, rfl, by decide, rfl, xpI, Or.inr ⟨"CutsetWorks", tb1 _ (List.mem_of_getElem? (i := 137) rfl)⟩⟩
theorem fl_RX9_152 : xFL RX9 152 0 4 false := ⟨RX0, TX0, 7, rfl, by decide, rfl, xpI, Or.inr ⟨"CutsetWorks", tb1 _ (List.mem_of_getElem? (i := 135) rfl)⟩⟩
theorem fl_RX9_155 : xFL RX9 155 3 0 false := ⟨RX3, TX3, 8, rfl, by decide, rfl, xpI, Or.inr ⟨"CutsetWorks", tb2 _ (List.mem_of_getElem? (i := 237) rfl)⟩⟩
theorem fl_RX9_168 : xFL RX9 168 0 6 false := ⟨RX0, TX0, 7, rfl, by decide, rfl, xpI, Or.inr ⟨"CutsetWorks", tb1 _ (List.mem_of_getElem? (i := 139) rfl)⟩⟩
theorem fl_RX9_186 : xFL RX9 186 6 4 false := ⟨RX6, TX6, 6, rfl, by decide, rfl, xpI, Or.inr ⟨"CutsetWorks", tb1 _ (List.mem_of_getElem? (i := 108) rfl)⟩⟩
theorem fl_RX9_272 : xFL RX9 272 8 2 true := ⟨RX8, TX8, 4, rfl, by decide, rfl, Or.inr ⟨.int, xpA⟩, Or.inr ⟨"CutsetWorks", tb1 _ (List.mem_of_getElem? (i := 164) rfl)⟩⟩
theorem fl_RX9_289 : xFL RX9 289 4 0 true := ⟨RX4, TX4, 3, rfl, by decide, rfl, Or.inr ⟨.int, xpA⟩, Or.inr ⟨"CutsetWorks", tb1 _ (List.mem_of_getElem? (i := 182) rfl)⟩⟩
theorem fl_RX9_300 : xFL RX9 300 4 2 true := ⟨RX4, TX4, 3, rfl, by decide, rfl, Or.inr ⟨.int, xpA⟩, Or.inr ⟨"CutsetWorks", tb1 _ (List.mem_of_getElem? (i := 185) rfl)⟩⟩
theorem fl_RX9_318 : xFL RX9 318 2 0 false := ⟨RX2, TX2, 3, rfl, by decide, rfl, xpI, Or.inr ⟨"CutsetWorks", tb1 _ (List.mem_of_getElem? (i := 200) rfl)⟩⟩
theorem fl_RX9_357 : xFL RX9 357 7 2 true := ⟨RX7, TX7, 7, rfl, by decide, rfl, Or.inr ⟨.int, xpA⟩, Or.inr ⟨"CutsetWorks", tb1 _ (List.mem_of_getElem? (i := 221) rfl)⟩⟩
theorem fl_RX9_360 : xFL RX9 360 6 0 true := ⟨RX6, TX6, 6, rfl, by decide, rfl, Or.inl ⟨"CutsetWorks$Flows", by decide +kernel⟩, Or.inr ⟨"CutsetWorks", tb1 _ (List.mem_of_getElem? (i := 103) rfl)⟩⟩
theorem fl_RX9_368 : xFL RX9 368 7 3 true := ⟨RX7, TX7, 7, rfl, by decide, rfl, Or.inr ⟨.int, xpA⟩, Or.inr ⟨"CutsetWorks", tb1 _ (List.mem_of_getElem? (i := 223) rfl)⟩⟩
theorem fl_RX9_373 : xFL RX9 373 5 0 false := ⟨RX5, TX5, 7, rfl, by decide, rfl, xpI, Or.inr ⟨"CutsetWorks", tb2 _ (List.mem_of_getElem? (i := 9) rfl)⟩⟩
theorem fl_RX9_387 : xFL RX9 387 5 3 true := ⟨RX5, TX5, 7, rfl, by decide, rfl, Or.inr ⟨.int, xpA⟩, Or.inr ⟨"CutsetWorks", tb2 _ (List.mem_of_getElem? (i := 13) rfl)⟩⟩
theorem fl_RX9_393 : xFL RX9 393 5 4 false := ⟨RX5, TX5, 7, rfl, by decide, rfl, xpI, Or.inr ⟨"CutsetWorks", tb2 _ (List.mem_of_getElem? (i := 15) rfl)⟩⟩
theorem fl_RX9_395 : xFL RX9 395 5 6 false := ⟨RX5, TX5, 7, rfl, by decide, rfl, xpI, Or.inr ⟨"CutsetWorks", tb2 _ (List.mem_of_getElem? (i := 19) rfl)⟩⟩
theorem fl_RX9_398 : xFL RX9 398 5 5 false := ⟨RX5, TX5, 7, rfl, by decide, rfl, xpI, Or.inr ⟨"CutsetWorks", tb2 _ (List.mem_of_getElem? (i := 17) rfl)⟩⟩
theorem fl_RX9_446 : xFL RX9 446 6 5 false := ⟨RX6, TX6, 6, rfl, by decide, rfl, xpI, Or.inr ⟨"CutsetWorks", tb1 _ (List.mem_of_getElem? (i := 110) rfl)⟩⟩
theorem fl_RX9_474 : xFL RX9 474 7 0 false := ⟨RX7, TX7, 7, rfl, by decide, rfl, xpI, Or.inr ⟨"CutsetWorks", tb1 _ (List.mem_of_getElem? (i := 217) rfl)⟩⟩
theorem fl_RX9_477 : xFL RX9 477 7 1 false := ⟨RX7, TX7, 7, rfl, by decide, rfl, xpI, Or.inr ⟨"CutsetWorks", tb1 _ (List.mem_of_getElem? (i := 219) rfl)⟩⟩
theorem fl_RX0_24 : xFL RX0 24 3 7 false := ⟨RX3, TX3, 8, rfl, by decide, rfl, xpI, Or.inr ⟨"CutsetWorks", tb3 _ (List.mem_of_getElem? (i := 18) rfl)⟩⟩
theorem fl_RX0_29 : xFL RX0 29 3 1 true := ⟨RX3, TX3, 8, rfl, by decide, rfl, Or.inr ⟨.int, xpA⟩, Or.inr ⟨"CutsetWorks", tb2 _ (List.mem_of_getElem? (i := 239) rfl)⟩⟩
theorem fl_RX0_33 : xFL RX0 33 3 2 true := ⟨RX3, TX3, 8, rfl, by decide, rfl, Or.inr ⟨.int, xpA⟩, Or.inr ⟨"CutsetWorks", tb3 _ (List.mem_of_getElem? (i := 2) rfl)⟩⟩
theorem fl_RX0_36 : xFL RX0 36 3 4 true := ⟨RX3, TX3, 8, rfl, by decide, rfl, Or.inr ⟨.int, xpA⟩, Or.inr ⟨"CutsetWorks", tb3 _ (List.mem_of_getElem? (i := 8) rfl)⟩⟩
theorem fl_RX0_39 : xFL RX0 39 3 3 true := ⟨RX3, TX3, 8, rfl, by decide, rfl, Or.inr ⟨.int, xpA⟩, Or.inr ⟨"CutsetWorks", tb3 _ (List.mem_of_getElem? (i := 5) rfl)⟩⟩
theorem fl_RX0_46 : xFL RX0 46 3 0 false := ⟨RX3, TX3, 8, rfl, by decide, rfl, xpI, Or.inr ⟨"CutsetWorks", tb2 _ (List.mem_of_getElem? (i := 236) rfl)⟩⟩
theorem fl_RX0_53 : xFL RX0 53 3 6 true := ⟨RX3, TX3, 8, rfl, by decide, rfl, Or.inr ⟨.int, xpA⟩, Or.inr ⟨"CutsetWorks", tb3 _ (List.mem_of_getElem? (i := 14) rfl)⟩⟩
theorem fl_RX6_25 : xFL RX6 25 3 0 false := ⟨RX3, TX3, 8, rfl, by decide, rfl, xpI, Or.inr ⟨"CutsetWorks", tb2 _ (List.mem_of_getElem? (i := 235) rfl)⟩⟩
theorem fl_RX6_38 : xFL RX6 38 3 7 false := ⟨RX3, TX3, 8, rfl, by decide, rfl, xpI, Or.inr ⟨"CutsetWorks", tb3 _ (List.mem_of_getElem? (i := 19) rfl)⟩⟩
theorem fl_RX6_50 : xFL RX6 50 3 1 true := ⟨RX3, TX3, 8, rfl, by decide, rfl, Or.inr ⟨.int, xpA⟩, Or.inr ⟨"CutsetWorks", tb3 _ (List.mem_of_getElem? (i := 0) rfl)⟩⟩
theorem fl_RX6_54 : xFL RX6 54 3 2 true := ⟨RX3, TX3, 8, rfl, by decide, rfl, Or.inr ⟨.int, xpA⟩, Or.inr ⟨"CutsetWorks", tb3 _ (List.mem_of_getElem? (i := 3) rfl)⟩⟩
theorem fl_RX6_57 : xFL RX6 57 3 3 true := ⟨RX3, TX3, 8, rfl, by decide, rfl, Or.inr ⟨.int, xpA⟩, Or.inr ⟨"CutsetWorks", tb3 _ (List.mem_of_getElem? (i := 6) rfl)⟩⟩
theorem fl_RX6_60 : xFL RX6 60 3 4 true := ⟨RX3, TX3, 8, rfl, by decide, rfl, Or.inr ⟨.int, xpA⟩, Or.inr ⟨"CutsetWorks", tb3 _ (List.mem_of_getElem? (i := 9) rfl)⟩⟩
theorem fl_RX6_63 : xFL RX6 63 3 5 true := ⟨RX3, TX3, 8, rfl, by decide, rfl, Or.inr ⟨.int, xpA⟩, Or.inr ⟨"CutsetWorks", tb3 _ (List.mem_of_getElem? (i := 12) rfl)⟩⟩
theorem fl_RX6_119 : xFL RX6 119 3 6 true := ⟨RX3, TX3, 8, rfl, by decide, rfl, Or.inr ⟨.int, xpA⟩, Or.inr ⟨"CutsetWorks", tb3 _ (List.mem_of_getElem? (i := 16) rfl)⟩⟩
theorem fl_RX8_21 : xFL RX8 21 3 0 false := ⟨RX3, TX3, 8, rfl, by decide, rfl, xpI, Or.inr ⟨"CutsetWorks", tb2 _ (List.mem_of_getElem? (i := 234) rfl)⟩⟩
theorem fl_RJx35411_28 : xFL RJx35411 28 11 2 false := ⟨RJx4a65c, TJx4a65c, 3, rfl, by decide, rfl, xpI, Or.inr ⟨"java/util/ArrayList", tb2 _ (List.mem_of_getElem? (i := 79) rfl)⟩⟩
theorem th_64_68 : xThr RX9 64 68 "java/lang/IllegalArgumentException" := ⟨["java/lang/RuntimeException", "java/lang/Exception"], by decide, by decide +kernel, by decide +kernel, tb2 _ (List.mem_of_getElem? (i := 142) rfl), tb1 _ (List.mem_of_getElem? (i := 16) rfl), Or.inl (by decide +kernel)⟩
theorem th_75_79 : xThr RX9 75 79 "java/lang/IllegalStateException" := ⟨["java/lang/RuntimeException", "java/lang/Exception"], by decide, by decide +kernel, by decide +kernel, tb2 _ (List.mem_of_getElem? (i := 212) rfl), tb1 _ (List.mem_of_getElem? (i := 17) rfl), Or.inl (by decide +kernel)⟩
theorem th_141_145 : xThr RX9 141 145 "java/util/NoSuchElementException" := ⟨["java/lang/RuntimeException", "java/lang/Exception"], by decide, by decide +kernel, by decide +kernel, tb4 _ (List.mem_of_getElem? (i := 63) rfl), tb1 _ (List.mem_of_getElem? (i := 24) rfl), Or.inr ⟨"java/lang/RuntimeException", ["java/lang/Exception"], 13, prog_35_method_4_code, rfl, by decide +kernel, by decide +kernel, by decide +kernel, by decide +kernel, by decide +kernel⟩⟩
theorem th_223_227 : xThr RX9 223 227 "java/lang/UnsupportedOperationException" := ⟨["java/lang/RuntimeException", "java/lang/Exception"], by decide, by decide +kernel, by decide +kernel, tb5 _ (List.mem_of_getElem? (i := 109) rfl), tb1 _ (List.mem_of_getElem? (i := 28) rfl), Or.inl (by decide +kernel)⟩
theorem th_380_384 : xThr RX9 380 384 "java/lang/IndexOutOfBoundsException" := ⟨["java/lang/RuntimeException", "java/lang/Exception"], by decide, by decide +kernel, by decide +kernel, tb3 _ (List.mem_of_getElem? (i := 46) rfl), tb1 _ (List.mem_of_getElem? (i := 19) rfl), Or.inl (by decide +kernel)⟩
theorem sr_RX9_66 : Cond.stringRef RX9 66 "a net has 2 to 8 corners" ∈ lw_tbl := tb2 _ (List.mem_of_getElem? (i := 185) rfl)
theorem sr_RX9_77 : Cond.stringRef RX9 77 "there are 4 nets" ∈ lw_tbl := tb2 _ (List.mem_of_getElem? (i := 221) rfl)
theorem sr_RX9_98 : Cond.stringRef RX9 98 "there are 16 edges" ∈ lw_tbl := tb3 _ (List.mem_of_getElem? (i := 70) rfl)
theorem sr_RX9_122 : Cond.stringRef RX9 122 "a supply is -99 to 99" ∈ lw_tbl := tb3 _ (List.mem_of_getElem? (i := 177) rfl)
theorem sr_RX9_143 : Cond.stringRef RX9 143 "there is a flow" ∈ lw_tbl := tb4 _ (List.mem_of_getElem? (i := 98) rfl)
theorem sr_RX9_162 : Cond.stringRef RX9 162 "the set is no cut" ∈ lw_tbl := tb4 _ (List.mem_of_getElem? (i := 190) rfl)
theorem sr_RX9_208 : Cond.stringRef RX9 208 "the price has no bound" ∈ lw_tbl := tb5 _ (List.mem_of_getElem? (i := 88) rfl)
theorem sr_RX9_225 : Cond.stringRef RX9 225 "an edge leads from the source to the sink" ∈ lw_tbl := tb5 _ (List.mem_of_getElem? (i := 168) rfl)
theorem sr_RX9_252 : Cond.stringRef RX9 252 "the demands cannot be met" ∈ lw_tbl := tb5 _ (List.mem_of_getElem? (i := 223) rfl)
theorem sr_RX9_261 : Cond.stringRef RX9 261 "the demands can be met" ∈ lw_tbl := tb5 _ (List.mem_of_getElem? (i := 218) rfl)
theorem sr_RX9_263 : Cond.stringRef RX9 263 "the corner 0 has no parent" ∈ lw_tbl := tb6 _ (List.mem_of_getElem? (i := 11) rfl)
theorem sr_RX9_279 : Cond.stringRef RX9 279 "the step is 0 to 8" ∈ lw_tbl := tb5 _ (List.mem_of_getElem? (i := 189) rfl)
theorem sr_RX9_287 : Cond.stringRef RX9 287 "a set of right ones is 0 to 255" ∈ lw_tbl := tb3 _ (List.mem_of_getElem? (i := 186) rfl)
theorem sr_RX9_303 : Cond.stringRef RX9 303 "the left one is not paired" ∈ lw_tbl := tb6 _ (List.mem_of_getElem? (i := 66) rfl)
theorem sr_RX9_316 : Cond.stringRef RX9 316 "wins are 0 to 99" ∈ lw_tbl := tb3 _ (List.mem_of_getElem? (i := 191) rfl)
theorem sr_RX9_321 : Cond.stringRef RX9 321 "there are 6 teams" ∈ lw_tbl := tb3 _ (List.mem_of_getElem? (i := 192) rfl)
theorem sr_RX9_344 : Cond.stringRef RX9 344 "a table has 1 to 4 rows and columns" ∈ lw_tbl := tb6 _ (List.mem_of_getElem? (i := 75) rfl)
theorem sr_RX9_352 : Cond.stringRef RX9 352 "a number is 0 to 999 tenths" ∈ lw_tbl := tb6 _ (List.mem_of_getElem? (i := 89) rfl)
theorem sr_RX9_371 : Cond.stringRef RX9 371 "a gain is 0 to 99, a set of tools 0 to 255" ∈ lw_tbl := tb3 _ (List.mem_of_getElem? (i := 201) rfl)
theorem sr_RX9_376 : Cond.stringRef RX9 376 "there are 8 projects" ∈ lw_tbl := tb3 _ (List.mem_of_getElem? (i := 202) rfl)
theorem sr_RX9_382 : Cond.stringRef RX9 382 "a tool is 0 to 7" ∈ lw_tbl := tb3 _ (List.mem_of_getElem? (i := 211) rfl)
theorem sr_RX9_385 : Cond.stringRef RX9 385 "a cost is 0 to 99" ∈ lw_tbl := tb3 _ (List.mem_of_getElem? (i := 212) rfl)
theorem sr_RX9_452 : Cond.stringRef RX9 452 "there is no such net" ∈ lw_tbl := tb3 _ (List.mem_of_getElem? (i := 55) rfl)
theorem sr_RX9_454 : Cond.stringRef RX9 454 "there is no such edge" ∈ lw_tbl := tb3 _ (List.mem_of_getElem? (i := 167) rfl)
theorem sr_RX9_456 : Cond.stringRef RX9 456 "there is no such corner" ∈ lw_tbl := tb3 _ (List.mem_of_getElem? (i := 176) rfl)
theorem sr_RX9_458 : Cond.stringRef RX9 458 "these are not two corners" ∈ lw_tbl := tb3 _ (List.mem_of_getElem? (i := 65) rfl)
theorem sr_RX9_460 : Cond.stringRef RX9 460 "a bound or the cost is not as told" ∈ lw_tbl := tb3 _ (List.mem_of_getElem? (i := 69) rfl)
theorem sr_RX9_462 : Cond.stringRef RX9 462 "there is no flow" ∈ lw_tbl := tb4 _ (List.mem_of_getElem? (i := 72) rfl)
theorem sr_RX9_464 : Cond.stringRef RX9 464 "a least is not 0" ∈ lw_tbl := tb5 _ (List.mem_of_getElem? (i := 118) rfl)
theorem sr_RX9_466 : Cond.stringRef RX9 466 "there is no such round" ∈ lw_tbl := tb5 _ (List.mem_of_getElem? (i := 139) rfl)
theorem sr_RX9_470 : Cond.stringRef RX9 470 "a left one is 0 to 7" ∈ lw_tbl := tb3 _ (List.mem_of_getElem? (i := 185) rfl)
theorem sr_RX9_480 : Cond.stringRef RX9 480 "there is no such row or column" ∈ lw_tbl := tb6 _ (List.mem_of_getElem? (i := 88) rfl)
theorem co_RX1_77 : Cond.constant RX1 77 (Int32.ofInt (1000000)) ∈ lw_tbl := tb4 _ (List.mem_of_getElem? (i := 32) rfl)
theorem co_RX1_85 : Cond.constant RX1 85 (Int32.ofInt (1000000000)) ∈ lw_tbl := tb4 _ (List.mem_of_getElem? (i := 41) rfl)
theorem co_RX6_44 : Cond.constant RX6 44 (Int32.ofInt (-1000000)) ∈ lw_tbl := tb4 _ (List.mem_of_getElem? (i := 14) rfl)
theorem co_RX6_45 : Cond.constant RX6 45 (Int32.ofInt (1000000)) ∈ lw_tbl := tb4 _ (List.mem_of_getElem? (i := 15) rfl)
theorem co_RX6_109 : Cond.constant RX6 109 (Int32.ofInt (1000000000)) ∈ lw_tbl := tb5 _ (List.mem_of_getElem? (i := 87) rfl)
theorem co_RX8_36 : Cond.constant RX8 36 (Int32.ofInt (1000000000)) ∈ lw_tbl := tb6 _ (List.mem_of_getElem? (i := 4) rfl)
theorem co_RL_23 : Cond.constant RL 23 (Int32.ofInt (790386105)) ∈ lw_tbl := tb2 _ (List.mem_of_getElem? (i := 126) rfl)
theorem co_RL_47 : Cond.constant RL 47 (Int32.ofInt (2147483647)) ∈ lw_tbl := tb2 _ (List.mem_of_getElem? (i := 137) rfl)
theorem co_RL_48 : Cond.constant RL 48 (Int32.ofInt (16777619)) ∈ lw_tbl := tb2 _ (List.mem_of_getElem? (i := 127) rfl)
theorem co_RL_49 : Cond.constant RL 49 (Int32.ofInt (-1640531527)) ∈ lw_tbl := tb2 _ (List.mem_of_getElem? (i := 134) rfl)
theorem co_RL_50 : Cond.constant RL 50 (Int32.ofInt (-2048144789)) ∈ lw_tbl := tb2 _ (List.mem_of_getElem? (i := 135) rfl)
theorem co_RL_51 : Cond.constant RL 51 (Int32.ofInt (-1028477387)) ∈ lw_tbl := tb2 _ (List.mem_of_getElem? (i := 136) rfl)
theorem co_RJ6_265 : Cond.constant RJ6 265 (Int32.ofInt (1431655765)) ∈ lw_tbl := tb5 _ (List.mem_of_getElem? (i := 176) rfl)
theorem co_RJ6_266 : Cond.constant RJ6 266 (Int32.ofInt (858993459)) ∈ lw_tbl := tb5 _ (List.mem_of_getElem? (i := 177) rfl)
theorem co_RJ6_267 : Cond.constant RJ6 267 (Int32.ofInt (252645135)) ∈ lw_tbl := tb5 _ (List.mem_of_getElem? (i := 178) rfl)
theorem co_RJ8_200 : Cond.constant RJ8 200 (Int32.ofInt (2147483639)) ∈ lw_tbl := tb3 _ (List.mem_of_getElem? (i := 101) rfl)
theorem co_RX3_45 : Cond.constantLong RX3 45 (7) ∈ lw_tbl := tb3 _ (List.mem_of_getElem? (i := 158) rfl)
theorem co_RX3_47 : Cond.constantLong RX3 47 (31) ∈ lw_tbl := tb3 _ (List.mem_of_getElem? (i := 159) rfl)
