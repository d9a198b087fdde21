theorem tb0 : ∀ w ∈ k2_sels lw_privs, w ∈ lw_tbl := fun w h => List.mem_append_left _ h
theorem tb1 : ∀ w ∈ tables_1_1, w ∈ lw_tbl := fun w h => List.mem_append_right _ (show w ∈ tables_1 from List.mem_append_left _ h)
theorem tb2 : ∀ w ∈ tables_1_2, w ∈ lw_tbl := fun w h => List.mem_append_right _ (show w ∈ tables_1 from List.mem_append_right _ (List.mem_append_left _ h))
theorem tb3 : ∀ w ∈ tables_1_3, w ∈ lw_tbl := fun w h => List.mem_append_right _ (show w ∈ tables_1 from List.mem_append_right _ (List.mem_append_right _ (List.mem_append_left _ h)))
theorem tb4 : ∀ w ∈ tables_1_4, w ∈ lw_tbl := fun w h => List.mem_append_right _ (show w ∈ tables_1 from List.mem_append_right _ (List.mem_append_right _ (List.mem_append_right _ (List.mem_append_left _ h))))
theorem tb5 : ∀ w ∈ tables_1_5, w ∈ lw_tbl := fun w h => List.mem_append_right _ (show w ∈ tables_1 from List.mem_append_right _ (List.mem_append_right _ (List.mem_append_right _ (List.mem_append_right _ (List.mem_append_left _ h)))))
theorem tb6 : ∀ w ∈ tables_1_6, w ∈ lw_tbl := fun w h => List.mem_append_right _ (show w ∈ tables_1 from List.mem_append_right _ (List.mem_append_right _ (List.mem_append_right _ (List.mem_append_right _ (List.mem_append_right _ (List.mem_append_left _ h))))))
theorem tb7 : ∀ w ∈ tables_1_7, w ∈ lw_tbl := fun w h => List.mem_append_right _ (show w ∈ tables_1 from List.mem_append_right _ (List.mem_append_right _ (List.mem_append_right _ (List.mem_append_right _ (List.mem_append_right _ (List.mem_append_right _ (List.mem_append_left _ h)))))))
theorem tb8 : ∀ w ∈ tables_1_8, w ∈ lw_tbl := fun w h => List.mem_append_right _ (show w ∈ tables_1 from List.mem_append_right _ (List.mem_append_right _ (List.mem_append_right _ (List.mem_append_right _ (List.mem_append_right _ (List.mem_append_right _ (List.mem_append_right _ (h))))))))
theorem xpI : parseFieldDescriptor "I" = some .int := by decide +kernel
theorem xpA : parseFieldDescriptor "[I" = some (.array .int) := by decide +kernel
theorem xws_one {z : xM} {w0 : Cond} (h : xws z = [w0]) (h1 : w0 ∈ lw_tbl) (h2 : goodWord w0 = true) : ∀ w ∈ xws z, w ∈ lw_tbl ∧ goodWord w = true := by
  rw [h]
  intro w hw
  rw [List.mem_singleton.mp hw]
  exact ⟨h1, h2⟩
def m_X0_init : xM := (yX0_init, cX0_init, 1, none, [])
def m_X0_weigh : xM := (yX0_weigh, cX0_weigh, 6, none, [])
def m_X0_sumOfCut : xM := (yX0_sumOfCut, cX0_sumOfCut, 3, (some .int), [])
def m_X0_sumBothWays : xM := (yX0_sumBothWays, cX0_sumBothWays, 3, (some .int), [])
def m_X0_isCrowd : xM := (yX0_isCrowd, cX0_isCrowd, 3, (some .boolean), [])
def m_X0_isBroken : xM := (yX0_isBroken, cX0_isBroken, 5, (some .boolean), [])
def m_X0_findLeast : xM := (yX0_findLeast, cX0_findLeast, 7, none, [])
def m_X0_leastCrowd : xM := (yX0_leastCrowd, cX0_leastCrowd, 5, (some .int), [])
def m_X0_leastBreaker : xM := (yX0_leastBreaker, cX0_leastBreaker, 3, (some .int), [])
def m_X0_fewestApart : xM := (yX0_fewestApart, cX0_fewestApart, 8, (some .int), [])
def m_X1_init : xM := (yX1_init, cX1_init, 1, none, [])
def m_X1_start : xM := (yX1_start, cX1_start, 2, none, [])
def m_X1_add : xM := (yX1_add, cX1_add, 6, none, [])
def m_X1_setBounds : xM := (yX1_setBounds, cX1_setBounds, 4, none, [])
def m_X1_isNode : xM := (yX1_isNode, cX1_isNode, 2, (some .boolean), [])
def m_X1_isEdge : xM := (yX1_isEdge, cX1_isEdge, 2, (some .boolean), [])
def m_X1_numberOf : xM := (yX1_numberOf, cX1_numberOf, 2, (some .int), [])
def m_X1_keep : xM := (yX1_keep, cX1_keep, 2, none, [])
def m_X1_free : xM := (yX1_free, cX1_free, 2, none, [])
def m_X1_settle : xM := (yX1_settle, cX1_settle, 3, (some .boolean), [])
def m_X1_lower : xM := (yX1_lower, cX1_lower, 3, none, [])
def m_X1_push : xM := (yX1_push, cX1_push, 7, (some .int), [])
def m_X1_send : xM := (yX1_send, cX1_send, 7, (some .int), [])
def m_X1_setDistances : xM := (yX1_setDistances, cX1_setDistances, 7, none, [])
def m_X1_leastSign : xM := (yX1_leastSign, cX1_leastSign, 5, (some .int), [])
def m_X1_shift : xM := (yX1_shift, cX1_shift, 6, (some .int), [])
def m_X1_signAt : xM := (yX1_signAt, cX1_signAt, 2, (some .int), [])
def m_X1_cheapen : xM := (yX1_cheapen, cX1_cheapen, 3, none, [])
def m_X1_lowerAll : xM := (yX1_lowerAll, cX1_lowerAll, 3, (some .int), [])
def m_X1_relax : xM := (yX1_relax, cX1_relax, 5, (some .int), [])
def m_X1_findRing : xM := (yX1_findRing, cX1_findRing, 4, (some .boolean), [])
def m_X1_cameFrom : xM := (yX1_cameFrom, cX1_cameFrom, 3, (some .int), [])
def m_X1_keepCheap : xM := (yX1_keepCheap, cX1_keepCheap, 2, none, [])
def m_X1_setLevelsFrom : xM := (yX1_setLevelsFrom, cX1_setLevelsFrom, 3, none, [])
def m_X1_levelOf : xM := (yX1_levelOf, cX1_levelOf, 2, (some .int), [])
def m_X1_sumOfCosts : xM := (yX1_sumOfCosts, cX1_sumOfCosts, 4, (some .int), [])
def m_X2_init : xM := (yX2_init, cX2_init, 1, none, [])
def m_X2_enter : xM := (yX2_enter, cX2_enter, 2, (some .int), [])
def m_X2_gamesLeft : xM := (yX2_gamesLeft, cX2_gamesLeft, 3, (some .int), [])
def m_X2_setGames : xM := (yX2_setGames, cX2_setGames, 4, none, [])
def m_X2_leastRivals : xM := (yX2_leastRivals, cX2_leastRivals, 4, (some .int), [])
def m_X2_winsTogether : xM := (yX2_winsTogether, cX2_winsTogether, 5, (some .int), [])
def m_X3_init : xM := (yX3_init, cX3_init, 2, none, [])
def m_X3_put : xM := (yX3_put, cX3_put, 6, (some .int), [])
def m_X3_set : xM := (yX3_set, cX3_set, 5, none, [])
def m_X3_takeOut : xM := (yX3_takeOut, cX3_takeOut, 3, none, [])
def m_X3_hasLeast : xM := (yX3_hasLeast, cX3_hasLeast, 2, (some .boolean), [])
def m_X3_leadsStraight : xM := (yX3_leadsStraight, cX3_leadsStraight, 4, (some .boolean), [])
def m_X3_reachFrom : xM := (yX3_reachFrom, cX3_reachFrom, 7, (some .int), [])
def m_X3_sumOfAll : xM := (yX3_sumOfAll, cX3_sumOfAll, 4, (some .long), [])
def m_X4_init : xM := (yX4_init, cX4_init, 1, none, [])
def m_X4_gather : xM := (yX4_gather, cX4_gather, 4, none, [])
def m_X4_greatest : xM := (yX4_greatest, cX4_greatest, 7, (some .int), [])
def m_X4_tellLeastRow : xM := (yX4_tellLeastRow, cX4_tellLeastRow, 5, none, [])
def m_X4_leastRight : xM := (yX4_leastRight, cX4_leastRight, 5, (some .int), [])
def m_X4_likedByOthers : xM := (yX4_likedByOthers, cX4_likedByOthers, 2, (some .int), [])
def m_X4_leftOfCover : xM := (yX4_leftOfCover, cX4_leftOfCover, 5, (some .int), [])
def m_X4_leastCrowd : xM := (yX4_leastCrowd, cX4_leastCrowd, 5, (some .int), [])
def m_X4_isCovered : xM := (yX4_isCovered, cX4_isCovered, 6, (some .boolean), [])
def m_X5_init : xM := (yX5_init, cX5_init, 1, none, [])
def m_X5_put : xM := (yX5_put, cX5_put, 3, (some .int), [])
def m_X5_choose : xM := (yX5_choose, cX5_choose, 3, none, [])
def m_X5_worthOf : xM := (yX5_worthOf, cX5_worthOf, 5, (some .int), [])
def m_X6_init : xM := (yX6_init, cX6_init, 1, none, [])
def m_X6_lay : xM := (yX6_lay, cX6_lay, 4, none, [])
def m_X6_addEdges : xM := (yX6_addEdges, cX6_addEdges, 3, none, [])
def m_X6_setBounds : xM := (yX6_setBounds, cX6_setBounds, 4, none, [])
def m_X6_fill : xM := (yX6_fill, cX6_fill, 1, (some .boolean), [])
def m_X6_numberOf : xM := (yX6_numberOf, cX6_numberOf, 2, (some .int), [])
def m_X6_leastOf : xM := (yX6_leastOf, cX6_leastOf, 2, (some .int), [])
def m_X6_tellLeastRow : xM := (yX6_tellLeastRow, cX6_tellLeastRow, 3, none, [])
def m_X6_cheapen : xM := (yX6_cheapen, cX6_cheapen, 1, none, [])
def m_X6_costOf : xM := (yX6_costOf, cX6_costOf, 2, (some .int), [])
def m_X6_setPrices : xM := (yX6_setPrices, cX6_setPrices, 4, none, [])
def m_X6_hasPrice : xM := (yX6_hasPrice, cX6_hasPrice, 2, (some .boolean), [])
def m_X6_priceOf : xM := (yX6_priceOf, cX6_priceOf, 2, (some .int), [])
def m_X6_goRounds : xM := (yX6_goRounds, cX6_goRounds, 7, (some .int), [])
def m_X6_signAt : xM := (yX6_signAt, cX6_signAt, 3, (some .int), [])
def m_X6_waysByEdges : xM := (yX6_waysByEdges, cX6_waysByEdges, 5, (some .int), [])
def m_X6_waysByCorners : xM := (yX6_waysByCorners, cX6_waysByCorners, 5, (some .int), [])
def m_X6_meetDemands : xM := (yX6_meetDemands, cX6_meetDemands, 5, (some .boolean), [])
def m_X6_arriveBy : xM := (yX6_arriveBy, cX6_arriveBy, 6, (some .int), [])
def m_X6_fills : xM := (yX6_fills, cX6_fills, 6, (some .boolean), [])
def m_X6_arePricesRight : xM := (yX6_arePricesRight, cX6_arePricesRight, 6, (some .boolean), [])
def m_X7_init : xM := (yX7_init, cX7_init, 1, none, [])
def m_X7_start : xM := (yX7_start, cX7_start, 4, none, [])
def m_X7_placeOf : xM := (yX7_placeOf, cX7_placeOf, 3, (some .int), [])
def m_X7_addUp : xM := (yX7_addUp, cX7_addUp, 5, none, [])
def m_X7_roundBy : xM := (yX7_roundBy, cX7_roundBy, 6, none, [])
def m_X7_addRounded : xM := (yX7_addRounded, cX7_addRounded, 4, none, [])
def m_X7_isRounded : xM := (yX7_isRounded, cX7_isRounded, 3, (some .boolean), [])
def m_X7_sumOfTenths : xM := (yX7_sumOfTenths, cX7_sumOfTenths, 8, (some .int), [])
def m_X7_isNear : xM := (yX7_isNear, cX7_isNear, 2, (some .boolean), [])
def m_X8_init : xM := (yX8_init, cX8_init, 1, none, [])
def m_X8_measure : xM := (yX8_measure, cX8_measure, 5, none, [])
def m_X8_leastCut : xM := (yX8_leastCut, cX8_leastCut, 5, (some .int), [])
def m_X8_sideInAll : xM := (yX8_sideInAll, cX8_sideInAll, 6, (some .int), [])
def m_X8_grow : xM := (yX8_grow, cX8_grow, 5, none, [])
def m_X8_leastOnWay : xM := (yX8_leastOnWay, cX8_leastOnWay, 8, (some .int), [])
def m_X9_init : xM := (yX9_init, cX9_init, 1, none, [])
def m_X9_net : xM := (yX9_net, cX9_net, 2, (some .int), [])
def m_X9_edge : xM := (yX9_edge, cX9_edge, 8, (some .int), [])
def m_X9_change : xM := (yX9_change, cX9_change, 8, (some .int), [])
def m_X9_drop : xM := (yX9_drop, cX9_drop, 4, (some .int), [])
def m_X9_edges : xM := (yX9_edges, cX9_edges, 2, (some .int), [])
def m_X9_supply : xM := (yX9_supply, cX9_supply, 6, (some .int), [])
def m_X9_most : xM := (yX9_most, cX9_most, 5, (some .int), [])
def m_X9_flow : xM := (yX9_flow, cX9_flow, 6, (some .int), [])
def m_X9_crowd : xM := (yX9_crowd, cX9_crowd, 6, (some .int), [])
def m_X9_cut : xM := (yX9_cut, cX9_cut, 6, (some .int), [])
def m_X9_cutSum : xM := (yX9_cutSum, cX9_cutSum, 6, (some .int), [])
def m_X9_cuts : xM := (yX9_cuts, cX9_cuts, 5, (some .int), [])
def m_X9_isFull : xM := (yX9_isFull, cX9_isFull, 6, (some .boolean), [])
def m_X9_rounds : xM := (yX9_rounds, cX9_rounds, 5, (some .int), [])
def m_X9_roundAmount : xM := (yX9_roundAmount, cX9_roundAmount, 6, (some .int), [])
def m_X9_roundSign : xM := (yX9_roundSign, cX9_roundSign, 8, (some .int), [])
def m_X9_cost : xM := (yX9_cost, cX9_cost, 5, (some .int), [])
def m_X9_cheapest : xM := (yX9_cheapest, cX9_cheapest, 6, (some .int), [])
def m_X9_price : xM := (yX9_price, cX9_price, 6, (some .int), [])
def m_X9_edgeWays : xM := (yX9_edgeWays, cX9_edgeWays, 5, (some .int), [])
def m_X9_cornerWays : xM := (yX9_cornerWays, cX9_cornerWays, 5, (some .int), [])
def m_X9_apart : xM := (yX9_apart, cX9_apart, 5, (some .int), [])
def m_X9_wider : xM := (yX9_wider, cX9_wider, 6, (some .int), [])
def m_X9_without : xM := (yX9_without, cX9_without, 6, (some .int), [])
def m_X9_holds : xM := (yX9_holds, cX9_holds, 2, (some .boolean), [])
def m_X9_meets : xM := (yX9_meets, cX9_meets, 4, (some .int), [])
def m_X9_breaks : xM := (yX9_breaks, cX9_breaks, 3, (some .int), [])
def m_X9_parent : xM := (yX9_parent, cX9_parent, 4, (some .int), [])
def m_X9_between : xM := (yX9_between, cX9_between, 5, (some .int), [])
def m_X9_inSteps : xM := (yX9_inSteps, cX9_inSteps, 6, (some .int), [])
def m_X9_likes : xM := (yX9_likes, cX9_likes, 4, (some .int), [])
def m_X9_pairs : xM := (yX9_pairs, cX9_pairs, 1, (some .int), [])
def m_X9_pairOf : xM := (yX9_pairOf, cX9_pairOf, 3, (some .int), [])
def m_X9_cover : xM := (yX9_cover, cX9_cover, 3, (some .int), [])
def m_X9_crowdOfLeft : xM := (yX9_crowdOfLeft, cX9_crowdOfLeft, 2, (some .int), [])
def m_X9_team : xM := (yX9_team, cX9_team, 2, (some .int), [])
def m_X9_games : xM := (yX9_games, cX9_games, 5, (some .int), [])
def m_X9_canWin : xM := (yX9_canWin, cX9_canWin, 2, (some .boolean), [])
def m_X9_against : xM := (yX9_against, cX9_against, 3, (some .int), [])
def m_X9_table : xM := (yX9_table, cX9_table, 3, (some .int), [])
def m_X9_tell : xM := (yX9_tell, cX9_tell, 6, (some .int), [])
def m_X9_rounded : xM := (yX9_rounded, cX9_rounded, 3, (some .int), [])
def m_X9_project : xM := (yX9_project, cX9_project, 3, (some .int), [])
def m_X9_toolCost : xM := (yX9_toolCost, cX9_toolCost, 4, (some .int), [])
def m_X9_best : xM := (yX9_best, cX9_best, 1, (some .int), [])
def m_X9_chosen : xM := (yX9_chosen, cX9_chosen, 2, (some .int), [])
def m_X9_checksum : xM := (yX9_checksum, cX9_checksum, 2, (some .long), [])
def m_X9_fullShare : xM := (yX9_fullShare, cX9_fullShare, 7, (some .float), [])
def m_X9_meanFlow : xM := (yX9_meanFlow, cX9_meanFlow, 7, (some .double), [])
def m_X9_isSound : xM := (yX9_isSound, cX9_isSound, 3, (some .boolean), [])
def m_X9_isFlowSound : xM := (yX9_isFlowSound, cX9_isFlowSound, 4, (some .boolean), [])
def m_X9_isCutSound : xM := (yX9_isCutSound, cX9_isCutSound, 4, (some .boolean), [])
def m_X9_areRoundsSound : xM := (yX9_areRoundsSound, cX9_areRoundsSound, 5, (some .boolean), [])
def m_X9_isTreeSound : xM := (yX9_isTreeSound, cX9_isTreeSound, 4, (some .boolean), [])
def m_X9_greatestAmount : xM := (yX9_greatestAmount, cX9_greatestAmount, 4, (some .int), [])
def m_X9_tellGreatest : xM := (yX9_tellGreatest, cX9_tellGreatest, 4, none, [])
def m_X9_tellCheapest : xM := (yX9_tellCheapest, cX9_tellCheapest, 4, none, [])
def m_X9_netAt : xM := (yX9_netAt, cX9_netAt, 3, (some (.object "CutsetWorks$Net")), [])
def m_X9_needEdge : xM := (yX9_needEdge, cX9_needEdge, 2, none, [])
def m_X9_needCorner : xM := (yX9_needCorner, cX9_needCorner, 2, none, [])
def m_X9_needEnds : xM := (yX9_needEnds, cX9_needEnds, 3, none, [])
def m_X9_needNumbers : xM := (yX9_needNumbers, cX9_needNumbers, 3, none, [])
def m_X9_needFlow : xM := (yX9_needFlow, cX9_needFlow, 1, none, [])
def m_X9_needNoLeasts : xM := (yX9_needNoLeasts, cX9_needNoLeasts, 1, none, [])
def m_X9_needRound : xM := (yX9_needRound, cX9_needRound, 5, none, [])
def m_X9_needSomeEdge : xM := (yX9_needSomeEdge, cX9_needSomeEdge, 1, none, [])
def m_X9_needLeft : xM := (yX9_needLeft, cX9_needLeft, 1, none, [])
def m_X9_needTeam : xM := (yX9_needTeam, cX9_needTeam, 2, none, [])
def m_X9_needPlace : xM := (yX9_needPlace, cX9_needPlace, 3, none, [])
def m_X9_hasBit : xM := (yX9_hasBit, cX9_hasBit, 2, (some .boolean), [])
def m_X9_hasOneOf : xM := (yX9_hasOneOf, cX9_hasOneOf, 3, (some .boolean), [])
def m_X10_init : xM := (yX10_init, cX10_init, 1, none, [])
def m_X10_thrown : xM := (yX10_thrown, cX10_thrown, 1, (some .int), [])
def m_X10_in : xM := (yX10_in, cX10_in, 3, (some .boolean), [])
def m_X10_min : xM := (yX10_min, cX10_min, 2, (some .int), [])
def m_X10_max : xM := (yX10_max, cX10_max, 2, (some .int), [])
def m_X10_has : xM := (yX10_has, cX10_has, 2, (some .boolean), [])
def m_X10_bits : xM := (yX10_bits, cX10_bits, 3, (some .int), [])
def m_X10_isNet : xM := (yX10_isNet, cX10_isNet, 2, (some .boolean), [])
def m_X10_isCorner : xM := (yX10_isCorner, cX10_isCorner, 3, (some .boolean), [])
def m_X10_isEdge : xM := (yX10_isEdge, cX10_isEdge, 3, (some .boolean), [])
def m_X10_areTwo : xM := (yX10_areTwo, cX10_areTwo, 4, (some .boolean), [])
def m_X10_wrong : xM := (yX10_wrong, cX10_wrong, 4, (some .int), [])
def m_X10_wrongEdge : xM := (yX10_wrongEdge, cX10_wrongEdge, 5, (some .int), [])
def m_X10_net : xM := (yX10_net, cX10_net, 2, (some .int), [])
def m_X10_areBounds : xM := (yX10_areBounds, cX10_areBounds, 3, (some .boolean), [])
def m_X10_edge : xM := (yX10_edge, cX10_edge, 8, (some .int), [])
def m_X10_change : xM := (yX10_change, cX10_change, 8, (some .int), [])
def m_X10_drop : xM := (yX10_drop, cX10_drop, 4, (some .int), [])
def m_X10_edges : xM := (yX10_edges, cX10_edges, 2, (some .int), [])
def m_X10_supply : xM := (yX10_supply, cX10_supply, 5, (some .int), [])
def m_X10_looksAt : xM := (yX10_looksAt, cX10_looksAt, 3, none, [])
def m_X10_leaves : xM := (yX10_leaves, cX10_leaves, 4, (some .boolean), [])
def m_X10_enters : xM := (yX10_enters, cX10_enters, 4, (some .boolean), [])
def m_X10_leastOut : xM := (yX10_leastOut, cX10_leastOut, 5, (some .int), [])
def m_X10_mostOut : xM := (yX10_mostOut, cX10_mostOut, 5, (some .int), [])
def m_X10_leastIn : xM := (yX10_leastIn, cX10_leastIn, 5, (some .int), [])
def m_X10_mostIn : xM := (yX10_mostIn, cX10_mostIn, 5, (some .int), [])
def m_X10_isBetween : xM := (yX10_isBetween, cX10_isBetween, 3, (some .boolean), [])
def m_X10_sets : xM := (yX10_sets, cX10_sets, 2, (some .int), [])
def m_X10_proof : xM := (yX10_proof, cX10_proof, 5, (some .int), [])
def m_X10_sumOf : xM := (yX10_sumOf, cX10_sumOf, 3, (some .int), [])
def m_X10_amount : xM := (yX10_amount, cX10_amount, 7, (some .int), [])
def m_X10_beyond : xM := (yX10_beyond, cX10_beyond, 4, (some .int), [])
def m_X10_leastOf : xM := (yX10_leastOf, cX10_leastOf, 9, (some .int), [])
def m_X10_settles : xM := (yX10_settles, cX10_settles, 7, none, [])
def m_X10_finds : xM := (yX10_finds, cX10_finds, 5, (some .boolean), [])
def m_X10_most : xM := (yX10_most, cX10_most, 5, (some .int), [])
def m_X10_flow : xM := (yX10_flow, cX10_flow, 5, (some .int), [])
def m_X10_crowd : xM := (yX10_crowd, cX10_crowd, 5, (some .int), [])
def m_X10_cut : xM := (yX10_cut, cX10_cut, 8, (some .int), [])
def m_X10_cutSum : xM := (yX10_cutSum, cX10_cutSum, 5, (some .int), [])
def m_X10_cuts : xM := (yX10_cuts, cX10_cuts, 7, (some .int), [])
def m_X10_isFull : xM := (yX10_isFull, cX10_isFull, 6, (some .boolean), [])
def m_X10_isOpen : xM := (yX10_isOpen, cX10_isOpen, 3, (some .boolean), [])
def m_X10_begin : xM := (yX10_begin, cX10_begin, 3, (some .int), [])
def m_X10_end : xM := (yX10_end, cX10_end, 3, (some .int), [])
def m_X10_measures : xM := (yX10_measures, cX10_measures, 5, none, [])
def m_X10_goes : xM := (yX10_goes, cX10_goes, 7, none, [])
def m_X10_puts : xM := (yX10_puts, cX10_puts, 2, none, [])
def m_X10_roundsTo : xM := (yX10_roundsTo, cX10_roundsTo, 6, (some .int), [])
def m_X10_wrongRounds : xM := (yX10_wrongRounds, cX10_wrongRounds, 7, (some .int), [])
def m_X10_rounds : xM := (yX10_rounds, cX10_rounds, 4, (some .int), [])
def m_X10_isRound : xM := (yX10_isRound, cX10_isRound, 5, (some .boolean), [])
def m_X10_roundAmount : xM := (yX10_roundAmount, cX10_roundAmount, 5, (some .int), [])
def m_X10_roundSign : xM := (yX10_roundSign, cX10_roundSign, 6, (some .int), [])
def m_X10_costAlong : xM := (yX10_costAlong, cX10_costAlong, 3, (some .int), [])
def m_X10_costsFrom : xM := (yX10_costsFrom, cX10_costsFrom, 6, (some .int), [])
def m_X10_turnsRound : xM := (yX10_turnsRound, cX10_turnsRound, 9, none, [])
def m_X10_findsCheap : xM := (yX10_findsCheap, cX10_findsCheap, 9, (some .boolean), [])
def m_X10_cost : xM := (yX10_cost, cX10_cost, 6, (some .int), [])
def m_X10_cheapest : xM := (yX10_cheapest, cX10_cheapest, 5, (some .int), [])
def m_X10_price : xM := (yX10_price, cX10_price, 6, (some .int), [])
def m_X10_counts : xM := (yX10_counts, cX10_counts, 3, (some .boolean), [])
def m_X10_edgeWays : xM := (yX10_edgeWays, cX10_edgeWays, 8, (some .int), [])
def m_X10_direct : xM := (yX10_direct, cX10_direct, 6, (some .int), [])
def m_X10_leads : xM := (yX10_leads, cX10_leads, 11, (some .boolean), [])
def m_X10_parting : xM := (yX10_parting, cX10_parting, 7, (some .int), [])
def m_X10_cornerWays : xM := (yX10_cornerWays, cX10_cornerWays, 4, (some .int), [])
def m_X10_apart : xM := (yX10_apart, cX10_apart, 4, (some .int), [])
def m_X10_wider : xM := (yX10_wider, cX10_wider, 6, (some .int), [])
def m_X10_without : xM := (yX10_without, cX10_without, 6, (some .int), [])
def m_X10_supplies : xM := (yX10_supplies, cX10_supplies, 5, (some .int), [])
def m_X10_breaking : xM := (yX10_breaking, cX10_breaking, 4, (some .int), [])
def m_X10_holds : xM := (yX10_holds, cX10_holds, 2, (some .boolean), [])
def m_X10_leastMeeting : xM := (yX10_leastMeeting, cX10_leastMeeting, 6, (some .int), [])
def m_X10_meets : xM := (yX10_meets, cX10_meets, 5, (some .int), [])
def m_X10_breaks : xM := (yX10_breaks, cX10_breaks, 2, (some .int), [])
def m_X10_bothWays : xM := (yX10_bothWays, cX10_bothWays, 3, (some .int), [])
def m_X10_leastBetween : xM := (yX10_leastBetween, cX10_leastBetween, 6, (some .int), [])
def m_X10_grows : xM := (yX10_grows, cX10_grows, 6, none, [])
def m_X10_parent : xM := (yX10_parent, cX10_parent, 3, (some .int), [])
def m_X10_between : xM := (yX10_between, cX10_between, 4, (some .int), [])
def m_X10_inSteps : xM := (yX10_inSteps, cX10_inSteps, 7, (some .int), [])
def m_X10_parted : xM := (yX10_parted, cX10_parted, 7, (some .int), [])
def m_X10_lost : xM := (yX10_lost, cX10_lost, 6, (some .int), [])
def m_X10_likes : xM := (yX10_likes, cX10_likes, 4, (some .int), [])
def m_X10_likedBy : xM := (yX10_likedBy, cX10_likedBy, 5, (some .int), [])
def m_X10_pairsOf : xM := (yX10_pairsOf, cX10_pairsOf, 5, (some .int), [])
def m_X10_pairs : xM := (yX10_pairs, cX10_pairs, 1, (some .int), [])
def m_X10_pairOf : xM := (yX10_pairOf, cX10_pairOf, 8, (some .int), [])
def m_X10_cover : xM := (yX10_cover, cX10_cover, 4, (some .int), [])
def m_X10_crowdOfLeft : xM := (yX10_crowdOfLeft, cX10_crowdOfLeft, 4, (some .int), [])
def m_X10_team : xM := (yX10_team, cX10_team, 2, (some .int), [])
def m_X10_games : xM := (yX10_games, cX10_games, 5, (some .int), [])
def m_X10_winsOf : xM := (yX10_winsOf, cX10_winsOf, 5, (some .int), [])
def m_X10_proofAgainst : xM := (yX10_proofAgainst, cX10_proofAgainst, 4, (some .int), [])
def m_X10_canWin : xM := (yX10_canWin, cX10_canWin, 2, (some .boolean), [])
def m_X10_against : xM := (yX10_against, cX10_against, 2, (some .int), [])
def m_X10_table : xM := (yX10_table, cX10_table, 4, (some .int), [])
def m_X10_tell : xM := (yX10_tell, cX10_tell, 5, (some .int), [])
def m_X10_isNear : xM := (yX10_isNear, cX10_isNear, 2, (some .boolean), [])
def m_X10_isRowNear : xM := (yX10_isRowNear, cX10_isRowNear, 5, (some .boolean), [])
def m_X10_isColumnNear : xM := (yX10_isColumnNear, cX10_isColumnNear, 5, (some .boolean), [])
def m_X10_areAllNear : xM := (yX10_areAllNear, cX10_areAllNear, 4, (some .boolean), [])
def m_X10_areNear : xM := (yX10_areNear, cX10_areNear, 5, (some .boolean), [])
def m_X10_roundsAll : xM := (yX10_roundsAll, cX10_roundsAll, 4, none, [])
def m_X10_rounded : xM := (yX10_rounded, cX10_rounded, 3, (some .int), [])
def m_X10_project : xM := (yX10_project, cX10_project, 3, (some .int), [])
def m_X10_toolCost : xM := (yX10_toolCost, cX10_toolCost, 4, (some .int), [])
def m_X10_worthOf : xM := (yX10_worthOf, cX10_worthOf, 5, (some .int), [])
def m_X10_best : xM := (yX10_best, cX10_best, 3, (some .int), [])
def m_X10_chosen : xM := (yX10_chosen, cX10_chosen, 5, (some .int), [])
def m_X10_checksum : xM := (yX10_checksum, cX10_checksum, 5, (some .long), [])
def m_X10_fullShare : xM := (yX10_fullShare, cX10_fullShare, 6, (some .float), [])
def m_X10_meanFlow : xM := (yX10_meanFlow, cX10_meanFlow, 6, (some .double), [])
def m_X10_isSound : xM := (yX10_isSound, cX10_isSound, 1, (some .boolean), [])
def m_J6_bitCount_0f7a4 : xM := (yJ6_bitCount_0f7a4, cJ6_bitCount_0f7a4, 1, (some .int), [])
def m_L_net : xM := (yL_net, cL_net, 4, (some .int), [(0, 9, 12, 13), (0, 9, 15, 15)])
def m_L_edge : xM := (yL_edge, cL_edge, 9, (some .int), [(0, 18, 21, 21), (0, 18, 25, 13), (0, 18, 29, 15)])
def m_L_change : xM := (yL_change, cL_change, 8, (some .int), [(0, 16, 19, 21), (0, 16, 23, 13)])
def m_L_drop : xM := (yL_drop, cL_drop, 5, (some .int), [(0, 10, 13, 21)])
def m_L_edges : xM := (yL_edges, cL_edges, 4, (some .int), [(0, 9, 12, 21)])
def m_L_supply : xM := (yL_supply, cL_supply, 6, (some .int), [(0, 12, 15, 21), (0, 12, 19, 13)])
def m_L_most : xM := (yL_most, cL_most, 6, (some .int), [(0, 12, 15, 21), (0, 12, 19, 13), (0, 12, 23, 41)])
def m_L_flow : xM := (yL_flow, cL_flow, 7, (some .int), [(0, 14, 17, 21), (0, 14, 21, 13), (0, 14, 25, 41)])
def m_L_crowd : xM := (yL_crowd, cL_crowd, 6, (some .int), [(0, 12, 15, 21), (0, 12, 19, 13), (0, 12, 23, 41)])
def m_L_cut : xM := (yL_cut, cL_cut, 7, (some .int), [(0, 14, 17, 21), (0, 14, 21, 13), (0, 14, 25, 41)])
def m_L_cutSum : xM := (yL_cutSum, cL_cutSum, 7, (some .int), [(0, 14, 17, 21), (0, 14, 21, 13)])
def m_L_cuts : xM := (yL_cuts, cL_cuts, 6, (some .int), [(0, 12, 15, 21), (0, 12, 19, 13), (0, 12, 23, 41)])
def m_L_isFull : xM := (yL_isFull, cL_isFull, 7, (some .int), [(0, 21, 24, 21), (0, 21, 28, 13), (0, 21, 32, 41)])
def m_L_rounds : xM := (yL_rounds, cL_rounds, 6, (some .int), [(0, 12, 15, 21), (0, 12, 19, 13), (0, 12, 23, 67)])
def m_L_roundAmount : xM := (yL_roundAmount, cL_roundAmount, 7, (some .int), [(0, 14, 17, 21), (0, 14, 21, 13), (0, 14, 25, 67), (0, 14, 29, 41)])
def m_L_roundSign : xM := (yL_roundSign, cL_roundSign, 8, (some .int), [(0, 16, 19, 21), (0, 16, 23, 13), (0, 16, 27, 67), (0, 16, 31, 41)])
def m_L_cost : xM := (yL_cost, cL_cost, 6, (some .int), [(0, 12, 15, 21), (0, 12, 19, 13), (0, 12, 23, 41)])
def m_L_cheapest : xM := (yL_cheapest, cL_cheapest, 7, (some .int), [(0, 14, 17, 21), (0, 14, 21, 13), (0, 14, 25, 41)])
def m_L_price : xM := (yL_price, cL_price, 7, (some .int), [(0, 14, 17, 21), (0, 14, 21, 13), (0, 14, 25, 41)])
def m_L_edgeWays : xM := (yL_edgeWays, cL_edgeWays, 6, (some .int), [(0, 12, 15, 21), (0, 12, 19, 13)])
def m_L_cornerWays : xM := (yL_cornerWays, cL_cornerWays, 6, (some .int), [(0, 12, 15, 21), (0, 12, 19, 13)])
def m_L_apart : xM := (yL_apart, cL_apart, 6, (some .int), [(0, 12, 15, 21), (0, 12, 19, 13), (0, 12, 23, 67)])
def m_L_wider : xM := (yL_wider, cL_wider, 7, (some .int), [(0, 14, 17, 21), (0, 14, 21, 13), (0, 14, 25, 41)])
def m_L_without : xM := (yL_without, cL_without, 7, (some .int), [(0, 14, 17, 21), (0, 14, 21, 13), (0, 14, 25, 41)])
def m_L_holds : xM := (yL_holds, cL_holds, 4, (some .int), [(0, 16, 19, 21)])
def m_L_meets : xM := (yL_meets, cL_meets, 5, (some .int), [(0, 10, 13, 21), (0, 10, 17, 41)])
def m_L_breaks : xM := (yL_breaks, cL_breaks, 4, (some .int), [(0, 9, 12, 21), (0, 9, 15, 41)])
def m_L_parent : xM := (yL_parent, cL_parent, 5, (some .int), [(0, 10, 13, 21), (0, 10, 17, 41)])
def m_L_between : xM := (yL_between, cL_between, 6, (some .int), [(0, 12, 15, 21), (0, 12, 19, 13)])
def m_L_inSteps : xM := (yL_inSteps, cL_inSteps, 7, (some .int), [(0, 14, 17, 21), (0, 14, 21, 13)])
def m_L_likes : xM := (yL_likes, cL_likes, 5, (some .int), [(0, 10, 13, 21), (0, 10, 17, 13)])
def m_L_pairOf : xM := (yL_pairOf, cL_pairOf, 4, (some .int), [(0, 9, 12, 21), (0, 9, 15, 41)])
def m_L_crowdOfLeft : xM := (yL_crowdOfLeft, cL_crowdOfLeft, 3, (some .int), [(0, 8, 11, 41)])
def m_L_team : xM := (yL_team, cL_team, 4, (some .int), [(0, 9, 12, 13), (0, 9, 15, 15)])
def m_L_games : xM := (yL_games, cL_games, 6, (some .int), [(0, 12, 15, 21), (0, 12, 19, 13)])
def m_L_canWin : xM := (yL_canWin, cL_canWin, 4, (some .int), [(0, 16, 19, 21)])
def m_L_against : xM := (yL_against, cL_against, 4, (some .int), [(0, 9, 12, 21), (0, 9, 15, 41)])
def m_L_table : xM := (yL_table, cL_table, 5, (some .int), [(0, 10, 13, 13)])
def m_L_tell : xM := (yL_tell, cL_tell, 6, (some .int), [(0, 12, 15, 21), (0, 12, 19, 13)])
def m_L_rounded : xM := (yL_rounded, cL_rounded, 5, (some .int), [(0, 10, 13, 21)])
def m_L_project : xM := (yL_project, cL_project, 5, (some .int), [(0, 10, 13, 13), (0, 10, 17, 15)])
def m_L_toolCost : xM := (yL_toolCost, cL_toolCost, 5, (some .int), [(0, 10, 13, 21), (0, 10, 17, 13)])
def m_L_checksum : xM := (yL_checksum, cL_checksum, 4, (some .int), [(0, 8, 11, 21)])
def m_L_fullShare : xM := (yL_fullShare, cL_fullShare, 6, (some .int), [(0, 12, 15, 21), (0, 12, 19, 13), (0, 12, 23, 41)])
def m_L_meanFlow : xM := (yL_meanFlow, cL_meanFlow, 6, (some .int), [(0, 11, 14, 21), (0, 11, 18, 13), (0, 11, 22, 41)])
theorem pl_X0_init : xPl m_X0_init 0 := ⟨by decide +kernel, ⟨by decide +kernel, by decide +kernel, by decide +kernel⟩, xws_one rfl (tb1 _ (List.mem_of_getElem? (i := 113) rfl)) rfl, tb1 _ (List.mem_of_getElem? (i := 4) rfl), by decide +kernel⟩
theorem pl_X0_weigh : xPl m_X0_weigh 2 := ⟨by decide +kernel, ⟨by decide +kernel, by decide +kernel, by decide +kernel⟩, xws_one rfl (tb2 _ (List.mem_of_getElem? (i := 192) rfl)) rfl, tb1 _ (List.mem_of_getElem? (i := 4) rfl), by decide +kernel⟩
theorem pl_X0_sumOfCut : xPl m_X0_sumOfCut 2 := ⟨by decide +kernel, ⟨by decide +kernel, by decide +kernel, by decide +kernel⟩, xws_one rfl (tb2 _ (List.mem_of_getElem? (i := 213) rfl)) rfl, tb1 _ (List.mem_of_getElem? (i := 4) rfl), by decide +kernel⟩
theorem pl_X0_sumBothWays : xPl m_X0_sumBothWays 2 := ⟨by decide +kernel, ⟨by decide +kernel, by decide +kernel, by decide +kernel⟩, xws_one rfl (tb3 _ (List.mem_of_getElem? (i := 62) rfl)) rfl, tb1 _ (List.mem_of_getElem? (i := 4) rfl), by decide +kernel⟩
theorem pl_X0_isCrowd : xPl m_X0_isCrowd 2 := ⟨by decide +kernel, ⟨by decide +kernel, by decide +kernel, by decide +kernel⟩, xws_one rfl (tb2 _ (List.mem_of_getElem? (i := 188) rfl)) rfl, tb1 _ (List.mem_of_getElem? (i := 4) rfl), by decide +kernel⟩
theorem pl_X0_isBroken : xPl m_X0_isBroken 2 := ⟨by decide +kernel, ⟨by decide +kernel, by decide +kernel, by decide +kernel⟩, xws_one rfl (tb5 _ (List.mem_of_getElem? (i := 157) rfl)) rfl, tb1 _ (List.mem_of_getElem? (i := 4) rfl), by decide +kernel⟩
theorem pl_X0_findLeast : xPl m_X0_findLeast 3 := ⟨by decide +kernel, ⟨by decide +kernel, by decide +kernel, by decide +kernel⟩, xws_one rfl (tb2 _ (List.mem_of_getElem? (i := 206) rfl)) rfl, tb1 _ (List.mem_of_getElem? (i := 4) rfl), by decide +kernel⟩
theorem pl_X0_leastCrowd : xPl m_X0_leastCrowd 3 := ⟨by decide +kernel, ⟨by decide +kernel, by decide +kernel, by decide +kernel⟩, xws_one rfl (tb2 _ (List.mem_of_getElem? (i := 183) rfl)) rfl, tb1 _ (List.mem_of_getElem? (i := 4) rfl), by decide +kernel⟩
theorem pl_X0_leastBreaker : xPl m_X0_leastBreaker 1 := ⟨by decide +kernel, ⟨by decide +kernel, by decide +kernel, by decide +kernel⟩, xws_one rfl (tb5 _ (List.mem_of_getElem? (i := 153) rfl)) rfl, tb1 _ (List.mem_of_getElem? (i := 4) rfl), by decide +kernel⟩
theorem pl_X0_fewestApart : xPl m_X0_fewestApart 3 := ⟨by decide +kernel, ⟨by decide +kernel, by decide +kernel, by decide +kernel⟩, xws_one rfl (tb5 _ (List.mem_of_getElem? (i := 98) rfl)) rfl, tb1 _ (List.mem_of_getElem? (i := 4) rfl), by decide +kernel⟩
theorem pl_X1_init : xPl m_X1_init 0 := ⟨by decide +kernel, ⟨by decide +kernel, by decide +kernel, by decide +kernel⟩, xws_one rfl (tb1 _ (List.mem_of_getElem? (i := 41) rfl)) rfl, tb1 _ (List.mem_of_getElem? (i := 3) rfl), by decide +kernel⟩
theorem pl_X1_start : xPl m_X1_start 1 := ⟨by decide +kernel, ⟨by decide +kernel, by decide +kernel, by decide +kernel⟩, xws_one rfl (tb2 _ (List.mem_of_getElem? (i := 113) rfl)) rfl, tb1 _ (List.mem_of_getElem? (i := 3) rfl), by decide +kernel⟩
theorem pl_X1_add : xPl m_X1_add 5 := ⟨by decide +kernel, ⟨by decide +kernel, by decide +kernel, by decide +kernel⟩, xws_one rfl (tb2 _ (List.mem_of_getElem? (i := 121) rfl)) rfl, tb1 _ (List.mem_of_getElem? (i := 3) rfl), by decide +kernel⟩
theorem pl_X1_setBounds : xPl m_X1_setBounds 3 := ⟨by decide +kernel, ⟨by decide +kernel, by decide +kernel, by decide +kernel⟩, xws_one rfl (tb2 _ (List.mem_of_getElem? (i := 129) rfl)) rfl, tb1 _ (List.mem_of_getElem? (i := 3) rfl), by decide +kernel⟩
theorem pl_X1_isNode : xPl m_X1_isNode 1 := ⟨by decide +kernel, ⟨by decide +kernel, by decide +kernel, by decide +kernel⟩, xws_one rfl (tb2 _ (List.mem_of_getElem? (i := 125) rfl)) rfl, tb1 _ (List.mem_of_getElem? (i := 3) rfl), by decide +kernel⟩
theorem pl_X1_isEdge : xPl m_X1_isEdge 1 := ⟨by decide +kernel, ⟨by decide +kernel, by decide +kernel, by decide +kernel⟩, xws_one rfl (tb2 _ (List.mem_of_getElem? (i := 133) rfl)) rfl, tb1 _ (List.mem_of_getElem? (i := 3) rfl), by decide +kernel⟩
theorem pl_X1_numberOf : xPl m_X1_numberOf 1 := ⟨by decide +kernel, ⟨by decide +kernel, by decide +kernel, by decide +kernel⟩, xws_one rfl (tb2 _ (List.mem_of_getElem? (i := 178) rfl)) rfl, tb1 _ (List.mem_of_getElem? (i := 3) rfl), by decide +kernel⟩
theorem pl_X1_keep : xPl m_X1_keep 1 := ⟨by decide +kernel, ⟨by decide +kernel, by decide +kernel, by decide +kernel⟩, xws_one rfl (tb2 _ (List.mem_of_getElem? (i := 147) rfl)) rfl, tb1 _ (List.mem_of_getElem? (i := 3) rfl), by decide +kernel⟩
theorem pl_X1_free : xPl m_X1_free 1 := ⟨by decide +kernel, ⟨by decide +kernel, by decide +kernel, by decide +kernel⟩, xws_one rfl (tb2 _ (List.mem_of_getElem? (i := 173) rfl)) rfl, tb1 _ (List.mem_of_getElem? (i := 3) rfl), by decide +kernel⟩
theorem pl_X1_settle : xPl m_X1_settle 0 := ⟨by decide +kernel, ⟨by decide +kernel, by decide +kernel, by decide +kernel⟩, xws_one rfl (tb2 _ (List.mem_of_getElem? (i := 143) rfl)) rfl, tb1 _ (List.mem_of_getElem? (i := 3) rfl), by decide +kernel⟩
theorem pl_X1_lower : xPl m_X1_lower 1 := ⟨by decide +kernel, ⟨by decide +kernel, by decide +kernel, by decide +kernel⟩, xws_one rfl (tb2 _ (List.mem_of_getElem? (i := 202) rfl)) rfl, tb1 _ (List.mem_of_getElem? (i := 3) rfl), by decide +kernel⟩
theorem pl_X1_push : xPl m_X1_push 3 := ⟨by decide +kernel, ⟨by decide +kernel, by decide +kernel, by decide +kernel⟩, xws_one rfl (tb2 _ (List.mem_of_getElem? (i := 151) rfl)) rfl, tb1 _ (List.mem_of_getElem? (i := 3) rfl), by decide +kernel⟩
theorem pl_X1_send : xPl m_X1_send 3 := ⟨by decide +kernel, ⟨by decide +kernel, by decide +kernel, by decide +kernel⟩, xws_one rfl (tb2 _ (List.mem_of_getElem? (i := 156) rfl)) rfl, tb1 _ (List.mem_of_getElem? (i := 3) rfl), by decide +kernel⟩
theorem pl_X1_setDistances : xPl m_X1_setDistances 2 := ⟨by decide +kernel, ⟨by decide +kernel, by decide +kernel, by decide +kernel⟩, xws_one rfl (tb2 _ (List.mem_of_getElem? (i := 160) rfl)) rfl, tb1 _ (List.mem_of_getElem? (i := 3) rfl), by decide +kernel⟩
theorem pl_X1_leastSign : xPl m_X1_leastSign 2 := ⟨by decide +kernel, ⟨by decide +kernel, by decide +kernel, by decide +kernel⟩, xws_one rfl (tb2 _ (List.mem_of_getElem? (i := 165) rfl)) rfl, tb1 _ (List.mem_of_getElem? (i := 3) rfl), by decide +kernel⟩
theorem pl_X1_shift : xPl m_X1_shift 1 := ⟨by decide +kernel, ⟨by decide +kernel, by decide +kernel, by decide +kernel⟩, xws_one rfl (tb2 _ (List.mem_of_getElem? (i := 169) rfl)) rfl, tb1 _ (List.mem_of_getElem? (i := 3) rfl), by decide +kernel⟩
theorem pl_X1_signAt : xPl m_X1_signAt 1 := ⟨by decide +kernel, ⟨by decide +kernel, by decide +kernel, by decide +kernel⟩, xws_one rfl (tb5 _ (List.mem_of_getElem? (i := 20) rfl)) rfl, tb1 _ (List.mem_of_getElem? (i := 3) rfl), by decide +kernel⟩
theorem pl_X1_cheapen : xPl m_X1_cheapen 0 := ⟨by decide +kernel, ⟨by decide +kernel, by decide +kernel, by decide +kernel⟩, xws_one rfl (tb2 _ (List.mem_of_getElem? (i := 235) rfl)) rfl, tb1 _ (List.mem_of_getElem? (i := 3) rfl), by decide +kernel⟩
theorem pl_X1_lowerAll : xPl m_X1_lowerAll 0 := ⟨by decide +kernel, ⟨by decide +kernel, by decide +kernel, by decide +kernel⟩, xws_one rfl (tb2 _ (List.mem_of_getElem? (i := 239) rfl)) rfl, tb1 _ (List.mem_of_getElem? (i := 3) rfl), by decide +kernel⟩
theorem pl_X1_relax : xPl m_X1_relax 0 := ⟨by decide +kernel, ⟨by decide +kernel, by decide +kernel, by decide +kernel⟩, xws_one rfl (tb3 _ (List.mem_of_getElem? (i := 3) rfl)) rfl, tb1 _ (List.mem_of_getElem? (i := 3) rfl), by decide +kernel⟩
theorem pl_X1_findRing : xPl m_X1_findRing 1 := ⟨by decide +kernel, ⟨by decide +kernel, by decide +kernel, by decide +kernel⟩, xws_one rfl (tb3 _ (List.mem_of_getElem? (i := 7) rfl)) rfl, tb1 _ (List.mem_of_getElem? (i := 3) rfl), by decide +kernel⟩
theorem pl_X1_cameFrom : xPl m_X1_cameFrom 1 := ⟨by decide +kernel, ⟨by decide +kernel, by decide +kernel, by decide +kernel⟩, xws_one rfl (tb3 _ (List.mem_of_getElem? (i := 11) rfl)) rfl, tb1 _ (List.mem_of_getElem? (i := 3) rfl), by decide +kernel⟩
theorem pl_X1_keepCheap : xPl m_X1_keepCheap 0 := ⟨by decide +kernel, ⟨by decide +kernel, by decide +kernel, by decide +kernel⟩, xws_one rfl (tb3 _ (List.mem_of_getElem? (i := 15) rfl)) rfl, tb1 _ (List.mem_of_getElem? (i := 3) rfl), by decide +kernel⟩
theorem pl_X1_setLevelsFrom : xPl m_X1_setLevelsFrom 1 := ⟨by decide +kernel, ⟨by decide +kernel, by decide +kernel, by decide +kernel⟩, xws_one rfl (tb3 _ (List.mem_of_getElem? (i := 24) rfl)) rfl, tb1 _ (List.mem_of_getElem? (i := 3) rfl), by decide +kernel⟩
theorem pl_X1_levelOf : xPl m_X1_levelOf 1 := ⟨by decide +kernel, ⟨by decide +kernel, by decide +kernel, by decide +kernel⟩, xws_one rfl (tb3 _ (List.mem_of_getElem? (i := 36) rfl)) rfl, tb1 _ (List.mem_of_getElem? (i := 3) rfl), by decide +kernel⟩
theorem pl_X1_sumOfCosts : xPl m_X1_sumOfCosts 1 := ⟨by decide +kernel, ⟨by decide +kernel, by decide +kernel, by decide +kernel⟩, xws_one rfl (tb5 _ (List.mem_of_getElem? (i := 40) rfl)) rfl, tb1 _ (List.mem_of_getElem? (i := 3) rfl), by decide +kernel⟩
theorem pl_X2_init : xPl m_X2_init 0 := ⟨by decide +kernel, ⟨by decide +kernel, by decide +kernel, by decide +kernel⟩, xws_one rfl (tb1 _ (List.mem_of_getElem? (i := 182) rfl)) rfl, tb1 _ (List.mem_of_getElem? (i := 7) rfl), by decide +kernel⟩
theorem pl_X2_enter : xPl m_X2_enter 1 := ⟨by decide +kernel, ⟨by decide +kernel, by decide +kernel, by decide +kernel⟩, xws_one rfl (tb5 _ (List.mem_of_getElem? (i := 230) rfl)) rfl, tb1 _ (List.mem_of_getElem? (i := 7) rfl), by decide +kernel⟩
theorem pl_X2_gamesLeft : xPl m_X2_gamesLeft 2 := ⟨by decide +kernel, ⟨by decide +kernel, by decide +kernel, by decide +kernel⟩, xws_one rfl (tb6 _ (List.mem_of_getElem? (i := 8) rfl)) rfl, tb1 _ (List.mem_of_getElem? (i := 7) rfl), by decide +kernel⟩
theorem pl_X2_setGames : xPl m_X2_setGames 3 := ⟨by decide +kernel, ⟨by decide +kernel, by decide +kernel, by decide +kernel⟩, xws_one rfl (tb6 _ (List.mem_of_getElem? (i := 12) rfl)) rfl, tb1 _ (List.mem_of_getElem? (i := 7) rfl), by decide +kernel⟩
theorem pl_X2_leastRivals : xPl m_X2_leastRivals 1 := ⟨by decide +kernel, ⟨by decide +kernel, by decide +kernel, by decide +kernel⟩, xws_one rfl (tb6 _ (List.mem_of_getElem? (i := 23) rfl)) rfl, tb1 _ (List.mem_of_getElem? (i := 7) rfl), by decide +kernel⟩
theorem pl_X2_winsTogether : xPl m_X2_winsTogether 1 := ⟨by decide +kernel, ⟨by decide +kernel, by decide +kernel, by decide +kernel⟩, xws_one rfl (tb6 _ (List.mem_of_getElem? (i := 29) rfl)) rfl, tb1 _ (List.mem_of_getElem? (i := 7) rfl), by decide +kernel⟩
theorem pl_X3_init : xPl m_X3_init 1 := ⟨by decide +kernel, ⟨by decide +kernel, by decide +kernel, by decide +kernel⟩, xws_one rfl (tb3 _ (List.mem_of_getElem? (i := 227) rfl)) rfl, tb1 _ (List.mem_of_getElem? (i := 16) rfl), by decide +kernel⟩
theorem pl_X3_put : xPl m_X3_put 5 := ⟨by decide +kernel, ⟨by decide +kernel, by decide +kernel, by decide +kernel⟩, xws_one rfl (tb4 _ (List.mem_of_getElem? (i := 75) rfl)) rfl, tb1 _ (List.mem_of_getElem? (i := 16) rfl), by decide +kernel⟩
theorem pl_X3_set : xPl m_X3_set 4 := ⟨by decide +kernel, ⟨by decide +kernel, by decide +kernel, by decide +kernel⟩, xws_one rfl (tb4 _ (List.mem_of_getElem? (i := 79) rfl)) rfl, tb1 _ (List.mem_of_getElem? (i := 16) rfl), by decide +kernel⟩
theorem pl_X3_takeOut : xPl m_X3_takeOut 1 := ⟨by decide +kernel, ⟨by decide +kernel, by decide +kernel, by decide +kernel⟩, xws_one rfl (tb4 _ (List.mem_of_getElem? (i := 102) rfl)) rfl, tb1 _ (List.mem_of_getElem? (i := 16) rfl), by decide +kernel⟩
theorem pl_X3_hasLeast : xPl m_X3_hasLeast 0 := ⟨by decide +kernel, ⟨by decide +kernel, by decide +kernel, by decide +kernel⟩, xws_one rfl (tb3 _ (List.mem_of_getElem? (i := 45) rfl)) rfl, tb1 _ (List.mem_of_getElem? (i := 16) rfl), by decide +kernel⟩
theorem pl_X3_leadsStraight : xPl m_X3_leadsStraight 2 := ⟨by decide +kernel, ⟨by decide +kernel, by decide +kernel, by decide +kernel⟩, xws_one rfl (tb5 _ (List.mem_of_getElem? (i := 93) rfl)) rfl, tb1 _ (List.mem_of_getElem? (i := 16) rfl), by decide +kernel⟩
theorem pl_X3_reachFrom : xPl m_X3_reachFrom 2 := ⟨by decide +kernel, ⟨by decide +kernel, by decide +kernel, by decide +kernel⟩, xws_one rfl (tb5 _ (List.mem_of_getElem? (i := 103) rfl)) rfl, tb1 _ (List.mem_of_getElem? (i := 16) rfl), by decide +kernel⟩
theorem pl_X3_sumOfAll : xPl m_X3_sumOfAll 0 := ⟨by decide +kernel, ⟨by decide +kernel, by decide +kernel, by decide +kernel⟩, xws_one rfl (tb6 _ (List.mem_of_getElem? (i := 104) rfl)) rfl, tb1 _ (List.mem_of_getElem? (i := 16) rfl), by decide +kernel⟩
theorem pl_X4_init : xPl m_X4_init 0 := ⟨by decide +kernel, ⟨by decide +kernel, by decide +kernel, by decide +kernel⟩, xws_one rfl (tb1 _ (List.mem_of_getElem? (i := 164) rfl)) rfl, tb1 _ (List.mem_of_getElem? (i := 6) rfl), by decide +kernel⟩
theorem pl_X4_gather : xPl m_X4_gather 0 := ⟨by decide +kernel, ⟨by decide +kernel, by decide +kernel, by decide +kernel⟩, xws_one rfl (tb2 _ (List.mem_of_getElem? (i := 55) rfl)) rfl, tb1 _ (List.mem_of_getElem? (i := 6) rfl), by decide +kernel⟩
theorem pl_X4_greatest : xPl m_X4_greatest 2 := ⟨by decide +kernel, ⟨by decide +kernel, by decide +kernel, by decide +kernel⟩, xws_one rfl (tb2 _ (List.mem_of_getElem? (i := 59) rfl)) rfl, tb1 _ (List.mem_of_getElem? (i := 6) rfl), by decide +kernel⟩
theorem pl_X4_tellLeastRow : xPl m_X4_tellLeastRow 0 := ⟨by decide +kernel, ⟨by decide +kernel, by decide +kernel, by decide +kernel⟩, xws_one rfl (tb3 _ (List.mem_of_getElem? (i := 86) rfl)) rfl, tb1 _ (List.mem_of_getElem? (i := 6) rfl), by decide +kernel⟩
theorem pl_X4_leastRight : xPl m_X4_leastRight 3 := ⟨by decide +kernel, ⟨by decide +kernel, by decide +kernel, by decide +kernel⟩, xws_one rfl (tb3 _ (List.mem_of_getElem? (i := 91) rfl)) rfl, tb1 _ (List.mem_of_getElem? (i := 6) rfl), by decide +kernel⟩
theorem pl_X4_likedByOthers : xPl m_X4_likedByOthers 1 := ⟨by decide +kernel, ⟨by decide +kernel, by decide +kernel, by decide +kernel⟩, xws_one rfl (tb2 _ (List.mem_of_getElem? (i := 77) rfl)) rfl, tb1 _ (List.mem_of_getElem? (i := 6) rfl), by decide +kernel⟩
theorem pl_X4_leftOfCover : xPl m_X4_leftOfCover 0 := ⟨by decide +kernel, ⟨by decide +kernel, by decide +kernel, by decide +kernel⟩, xws_one rfl (tb2 _ (List.mem_of_getElem? (i := 73) rfl)) rfl, tb1 _ (List.mem_of_getElem? (i := 6) rfl), by decide +kernel⟩
theorem pl_X4_leastCrowd : xPl m_X4_leastCrowd 0 := ⟨by decide +kernel, ⟨by decide +kernel, by decide +kernel, by decide +kernel⟩, xws_one rfl (tb5 _ (List.mem_of_getElem? (i := 216) rfl)) rfl, tb1 _ (List.mem_of_getElem? (i := 6) rfl), by decide +kernel⟩
theorem pl_X4_isCovered : xPl m_X4_isCovered 0 := ⟨by decide +kernel, ⟨by decide +kernel, by decide +kernel, by decide +kernel⟩, xws_one rfl (tb3 _ (List.mem_of_getElem? (i := 116) rfl)) rfl, tb1 _ (List.mem_of_getElem? (i := 6) rfl), by decide +kernel⟩
theorem pl_X5_init : xPl m_X5_init 0 := ⟨by decide +kernel, ⟨by decide +kernel, by decide +kernel, by decide +kernel⟩, xws_one rfl (tb1 _ (List.mem_of_getElem? (i := 231) rfl)) rfl, tb1 _ (List.mem_of_getElem? (i := 9) rfl), by decide +kernel⟩
theorem pl_X5_put : xPl m_X5_put 2 := ⟨by decide +kernel, ⟨by decide +kernel, by decide +kernel, by decide +kernel⟩, xws_one rfl (tb6 _ (List.mem_of_getElem? (i := 84) rfl)) rfl, tb1 _ (List.mem_of_getElem? (i := 9) rfl), by decide +kernel⟩
theorem pl_X5_choose : xPl m_X5_choose 0 := ⟨by decide +kernel, ⟨by decide +kernel, by decide +kernel, by decide +kernel⟩, xws_one rfl (tb2 _ (List.mem_of_getElem? (i := 86) rfl)) rfl, tb1 _ (List.mem_of_getElem? (i := 9) rfl), by decide +kernel⟩
theorem pl_X5_worthOf : xPl m_X5_worthOf 1 := ⟨by decide +kernel, ⟨by decide +kernel, by decide +kernel, by decide +kernel⟩, xws_one rfl (tb2 _ (List.mem_of_getElem? (i := 90) rfl)) rfl, tb1 _ (List.mem_of_getElem? (i := 9) rfl), by decide +kernel⟩
theorem pl_X6_init : xPl m_X6_init 0 := ⟨by decide +kernel, ⟨by decide +kernel, by decide +kernel, by decide +kernel⟩, xws_one rfl (tb1 _ (List.mem_of_getElem? (i := 35) rfl)) rfl, tb1 _ (List.mem_of_getElem? (i := 2) rfl), by decide +kernel⟩
theorem pl_X6_lay : xPl m_X6_lay 3 := ⟨by decide +kernel, ⟨by decide +kernel, by decide +kernel, by decide +kernel⟩, xws_one rfl (tb2 _ (List.mem_of_getElem? (i := 109) rfl)) rfl, tb1 _ (List.mem_of_getElem? (i := 2) rfl), by decide +kernel⟩
theorem pl_X6_addEdges : xPl m_X6_addEdges 1 := ⟨by decide +kernel, ⟨by decide +kernel, by decide +kernel, by decide +kernel⟩, xws_one rfl (tb2 _ (List.mem_of_getElem? (i := 117) rfl)) rfl, tb1 _ (List.mem_of_getElem? (i := 2) rfl), by decide +kernel⟩
theorem pl_X6_setBounds : xPl m_X6_setBounds 3 := ⟨by decide +kernel, ⟨by decide +kernel, by decide +kernel, by decide +kernel⟩, xws_one rfl (tb5 _ (List.mem_of_getElem? (i := 115) rfl)) rfl, tb1 _ (List.mem_of_getElem? (i := 2) rfl), by decide +kernel⟩
theorem pl_X6_fill : xPl m_X6_fill 0 := ⟨by decide +kernel, ⟨by decide +kernel, by decide +kernel, by decide +kernel⟩, xws_one rfl (tb2 _ (List.mem_of_getElem? (i := 139) rfl)) rfl, tb1 _ (List.mem_of_getElem? (i := 2) rfl), by decide +kernel⟩
theorem pl_X6_numberOf : xPl m_X6_numberOf 1 := ⟨by decide +kernel, ⟨by decide +kernel, by decide +kernel, by decide +kernel⟩, xws_one rfl (tb2 _ (List.mem_of_getElem? (i := 227) rfl)) rfl, tb1 _ (List.mem_of_getElem? (i := 2) rfl), by decide +kernel⟩
theorem pl_X6_leastOf : xPl m_X6_leastOf 1 := ⟨by decide +kernel, ⟨by decide +kernel, by decide +kernel, by decide +kernel⟩, xws_one rfl (tb4 _ (List.mem_of_getElem? (i := 206) rfl)) rfl, tb1 _ (List.mem_of_getElem? (i := 2) rfl), by decide +kernel⟩
theorem pl_X6_tellLeastRow : xPl m_X6_tellLeastRow 1 := ⟨by decide +kernel, ⟨by decide +kernel, by decide +kernel, by decide +kernel⟩, xws_one rfl (tb2 _ (List.mem_of_getElem? (i := 198) rfl)) rfl, tb1 _ (List.mem_of_getElem? (i := 2) rfl), by decide +kernel⟩
theorem pl_X6_cheapen : xPl m_X6_cheapen 0 := ⟨by decide +kernel, ⟨by decide +kernel, by decide +kernel, by decide +kernel⟩, xws_one rfl (tb2 _ (List.mem_of_getElem? (i := 231) rfl)) rfl, tb1 _ (List.mem_of_getElem? (i := 2) rfl), by decide +kernel⟩
theorem pl_X6_costOf : xPl m_X6_costOf 1 := ⟨by decide +kernel, ⟨by decide +kernel, by decide +kernel, by decide +kernel⟩, xws_one rfl (tb5 _ (List.mem_of_getElem? (i := 36) rfl)) rfl, tb1 _ (List.mem_of_getElem? (i := 2) rfl), by decide +kernel⟩
theorem pl_X6_setPrices : xPl m_X6_setPrices 2 := ⟨by decide +kernel, ⟨by decide +kernel, by decide +kernel, by decide +kernel⟩, xws_one rfl (tb3 _ (List.mem_of_getElem? (i := 19) rfl)) rfl, tb1 _ (List.mem_of_getElem? (i := 2) rfl), by decide +kernel⟩
theorem pl_X6_hasPrice : xPl m_X6_hasPrice 1 := ⟨by decide +kernel, ⟨by decide +kernel, by decide +kernel, by decide +kernel⟩, xws_one rfl (tb5 _ (List.mem_of_getElem? (i := 58) rfl)) rfl, tb1 _ (List.mem_of_getElem? (i := 2) rfl), by decide +kernel⟩
theorem pl_X6_priceOf : xPl m_X6_priceOf 1 := ⟨by decide +kernel, ⟨by decide +kernel, by decide +kernel, by decide +kernel⟩, xws_one rfl (tb3 _ (List.mem_of_getElem? (i := 32) rfl)) rfl, tb1 _ (List.mem_of_getElem? (i := 2) rfl), by decide +kernel⟩
theorem pl_X6_goRounds : xPl m_X6_goRounds 4 := ⟨by decide +kernel, ⟨by decide +kernel, by decide +kernel, by decide +kernel⟩, xws_one rfl (tb3 _ (List.mem_of_getElem? (i := 49) rfl)) rfl, tb1 _ (List.mem_of_getElem? (i := 2) rfl), by decide +kernel⟩
theorem pl_X6_signAt : xPl m_X6_signAt 1 := ⟨by decide +kernel, ⟨by decide +kernel, by decide +kernel, by decide +kernel⟩, xws_one rfl (tb5 _ (List.mem_of_getElem? (i := 16) rfl)) rfl, tb1 _ (List.mem_of_getElem? (i := 2) rfl), by decide +kernel⟩
theorem pl_X6_waysByEdges : xPl m_X6_waysByEdges 3 := ⟨by decide +kernel, ⟨by decide +kernel, by decide +kernel, by decide +kernel⟩, xws_one rfl (tb5 _ (List.mem_of_getElem? (i := 71) rfl)) rfl, tb1 _ (List.mem_of_getElem? (i := 2) rfl), by decide +kernel⟩
theorem pl_X6_waysByCorners : xPl m_X6_waysByCorners 3 := ⟨by decide +kernel, ⟨by decide +kernel, by decide +kernel, by decide +kernel⟩, xws_one rfl (tb5 _ (List.mem_of_getElem? (i := 82) rfl)) rfl, tb1 _ (List.mem_of_getElem? (i := 2) rfl), by decide +kernel⟩
theorem pl_X6_meetDemands : xPl m_X6_meetDemands 1 := ⟨by decide +kernel, ⟨by decide +kernel, by decide +kernel, by decide +kernel⟩, xws_one rfl (tb5 _ (List.mem_of_getElem? (i := 134) rfl)) rfl, tb1 _ (List.mem_of_getElem? (i := 2) rfl), by decide +kernel⟩
theorem pl_X6_arriveBy : xPl m_X6_arriveBy 4 := ⟨by decide +kernel, ⟨by decide +kernel, by decide +kernel, by decide +kernel⟩, xws_one rfl (tb5 _ (List.mem_of_getElem? (i := 185) rfl)) rfl, tb1 _ (List.mem_of_getElem? (i := 2) rfl), by decide +kernel⟩
theorem pl_X6_fills : xPl m_X6_fills 2 := ⟨by decide +kernel, ⟨by decide +kernel, by decide +kernel, by decide +kernel⟩, xws_one rfl (tb2 _ (List.mem_of_getElem? (i := 222) rfl)) rfl, tb1 _ (List.mem_of_getElem? (i := 2) rfl), by decide +kernel⟩
theorem pl_X6_arePricesRight : xPl m_X6_arePricesRight 1 := ⟨by decide +kernel, ⟨by decide +kernel, by decide +kernel, by decide +kernel⟩, xws_one rfl (tb3 _ (List.mem_of_getElem? (i := 28) rfl)) rfl, tb1 _ (List.mem_of_getElem? (i := 2) rfl), by decide +kernel⟩
theorem pl_X7_init : xPl m_X7_init 0 := ⟨by decide +kernel, ⟨by decide +kernel, by decide +kernel, by decide +kernel⟩, xws_one rfl (tb1 _ (List.mem_of_getElem? (i := 199) rfl)) rfl, tb1 _ (List.mem_of_getElem? (i := 8) rfl), by decide +kernel⟩
theorem pl_X7_start : xPl m_X7_start 2 := ⟨by decide +kernel, ⟨by decide +kernel, by decide +kernel, by decide +kernel⟩, xws_one rfl (tb6 _ (List.mem_of_getElem? (i := 50) rfl)) rfl, tb1 _ (List.mem_of_getElem? (i := 8) rfl), by decide +kernel⟩
theorem pl_X7_placeOf : xPl m_X7_placeOf 2 := ⟨by decide +kernel, ⟨by decide +kernel, by decide +kernel, by decide +kernel⟩, xws_one rfl (tb3 _ (List.mem_of_getElem? (i := 104) rfl)) rfl, tb1 _ (List.mem_of_getElem? (i := 8) rfl), by decide +kernel⟩
theorem pl_X7_addUp : xPl m_X7_addUp 1 := ⟨by decide +kernel, ⟨by decide +kernel, by decide +kernel, by decide +kernel⟩, xws_one rfl (tb3 _ (List.mem_of_getElem? (i := 100) rfl)) rfl, tb1 _ (List.mem_of_getElem? (i := 8) rfl), by decide +kernel⟩
theorem pl_X7_roundBy : xPl m_X7_roundBy 1 := ⟨by decide +kernel, ⟨by decide +kernel, by decide +kernel, by decide +kernel⟩, xws_one rfl (tb3 _ (List.mem_of_getElem? (i := 96) rfl)) rfl, tb1 _ (List.mem_of_getElem? (i := 8) rfl), by decide +kernel⟩
theorem pl_X7_addRounded : xPl m_X7_addRounded 4 := ⟨by decide +kernel, ⟨by decide +kernel, by decide +kernel, by decide +kernel⟩, xws_one rfl (tb3 _ (List.mem_of_getElem? (i := 108) rfl)) rfl, tb1 _ (List.mem_of_getElem? (i := 8) rfl), by decide +kernel⟩
theorem pl_X7_isRounded : xPl m_X7_isRounded 0 := ⟨by decide +kernel, ⟨by decide +kernel, by decide +kernel, by decide +kernel⟩, xws_one rfl (tb3 _ (List.mem_of_getElem? (i := 121) rfl)) rfl, tb1 _ (List.mem_of_getElem? (i := 8) rfl), by decide +kernel⟩
theorem pl_X7_sumOfTenths : xPl m_X7_sumOfTenths 4 := ⟨by decide +kernel, ⟨by decide +kernel, by decide +kernel, by decide +kernel⟩, xws_one rfl (tb3 _ (List.mem_of_getElem? (i := 128) rfl)) rfl, tb1 _ (List.mem_of_getElem? (i := 8) rfl), by decide +kernel⟩
theorem pl_X7_isNear : xPl m_X7_isNear 2 := ⟨by decide +kernel, ⟨by decide +kernel, by decide +kernel, by decide +kernel⟩, xws_one rfl (tb3 _ (List.mem_of_getElem? (i := 124) rfl)) rfl, tb1 _ (List.mem_of_getElem? (i := 8) rfl), by decide +kernel⟩
theorem pl_X8_init : xPl m_X8_init 0 := ⟨by decide +kernel, ⟨by decide +kernel, by decide +kernel, by decide +kernel⟩, xws_one rfl (tb1 _ (List.mem_of_getElem? (i := 144) rfl)) rfl, tb1 _ (List.mem_of_getElem? (i := 5) rfl), by decide +kernel⟩
theorem pl_X8_measure : xPl m_X8_measure 2 := ⟨by decide +kernel, ⟨by decide +kernel, by decide +kernel, by decide +kernel⟩, xws_one rfl (tb3 _ (List.mem_of_getElem? (i := 58) rfl)) rfl, tb1 _ (List.mem_of_getElem? (i := 5) rfl), by decide +kernel⟩
theorem pl_X8_leastCut : xPl m_X8_leastCut 2 := ⟨by decide +kernel, ⟨by decide +kernel, by decide +kernel, by decide +kernel⟩, xws_one rfl (tb3 _ (List.mem_of_getElem? (i := 70) rfl)) rfl, tb1 _ (List.mem_of_getElem? (i := 5) rfl), by decide +kernel⟩
theorem pl_X8_sideInAll : xPl m_X8_sideInAll 3 := ⟨by decide +kernel, ⟨by decide +kernel, by decide +kernel, by decide +kernel⟩, xws_one rfl (tb3 _ (List.mem_of_getElem? (i := 76) rfl)) rfl, tb1 _ (List.mem_of_getElem? (i := 5) rfl), by decide +kernel⟩
theorem pl_X8_grow : xPl m_X8_grow 0 := ⟨by decide +kernel, ⟨by decide +kernel, by decide +kernel, by decide +kernel⟩, xws_one rfl (tb3 _ (List.mem_of_getElem? (i := 66) rfl)) rfl, tb1 _ (List.mem_of_getElem? (i := 5) rfl), by decide +kernel⟩
theorem pl_X8_leastOnWay : xPl m_X8_leastOnWay 2 := ⟨by decide +kernel, ⟨by decide +kernel, by decide +kernel, by decide +kernel⟩, xws_one rfl (tb3 _ (List.mem_of_getElem? (i := 81) rfl)) rfl, tb1 _ (List.mem_of_getElem? (i := 5) rfl), by decide +kernel⟩
theorem pl_X9_init : xPl m_X9_init 0 := ⟨by decide +kernel, ⟨by decide +kernel, by decide +kernel, by decide +kernel⟩, xws_one rfl (tb1 _ (List.mem_of_getElem? (i := 25) rfl)) rfl, tb1 _ (List.mem_of_getElem? (i := 1) rfl), by decide +kernel⟩
theorem pl_X9_net : xPl m_X9_net 1 := ⟨by decide +kernel, ⟨by decide +kernel, by decide +kernel, by decide +kernel⟩, xws_one rfl (tb3 _ (List.mem_of_getElem? (i := 137) rfl)) rfl, tb1 _ (List.mem_of_getElem? (i := 1) rfl), by decide +kernel⟩
theorem pl_X9_edge : xPl m_X9_edge 6 := ⟨by decide +kernel, ⟨by decide +kernel, by decide +kernel, by decide +kernel⟩, xws_one rfl (tb4 _ (List.mem_of_getElem? (i := 42) rfl)) rfl, tb1 _ (List.mem_of_getElem? (i := 1) rfl), by decide +kernel⟩
theorem pl_X9_change : xPl m_X9_change 5 := ⟨by decide +kernel, ⟨by decide +kernel, by decide +kernel, by decide +kernel⟩, xws_one rfl (tb4 _ (List.mem_of_getElem? (i := 86) rfl)) rfl, tb1 _ (List.mem_of_getElem? (i := 1) rfl), by decide +kernel⟩
theorem pl_X9_drop : xPl m_X9_drop 2 := ⟨by decide +kernel, ⟨by decide +kernel, by decide +kernel, by decide +kernel⟩, xws_one rfl (tb4 _ (List.mem_of_getElem? (i := 98) rfl)) rfl, tb1 _ (List.mem_of_getElem? (i := 1) rfl), by decide +kernel⟩
theorem pl_X9_edges : xPl m_X9_edges 1 := ⟨by decide +kernel, ⟨by decide +kernel, by decide +kernel, by decide +kernel⟩, xws_one rfl (tb4 _ (List.mem_of_getElem? (i := 109) rfl)) rfl, tb1 _ (List.mem_of_getElem? (i := 1) rfl), by decide +kernel⟩
theorem pl_X9_supply : xPl m_X9_supply 3 := ⟨by decide +kernel, ⟨by decide +kernel, by decide +kernel, by decide +kernel⟩, xws_one rfl (tb4 _ (List.mem_of_getElem? (i := 116) rfl)) rfl, tb1 _ (List.mem_of_getElem? (i := 1) rfl), by decide +kernel⟩
theorem pl_X9_most : xPl m_X9_most 3 := ⟨by decide +kernel, ⟨by decide +kernel, by decide +kernel, by decide +kernel⟩, xws_one rfl (tb4 _ (List.mem_of_getElem? (i := 129) rfl)) rfl, tb1 _ (List.mem_of_getElem? (i := 1) rfl), by decide +kernel⟩
theorem pl_X9_flow : xPl m_X9_flow 4 := ⟨by decide +kernel, ⟨by decide +kernel, by decide +kernel, by decide +kernel⟩, xws_one rfl (tb4 _ (List.mem_of_getElem? (i := 159) rfl)) rfl, tb1 _ (List.mem_of_getElem? (i := 1) rfl), by decide +kernel⟩
theorem pl_X9_crowd : xPl m_X9_crowd 3 := ⟨by decide +kernel, ⟨by decide +kernel, by decide +kernel, by decide +kernel⟩, xws_one rfl (tb4 _ (List.mem_of_getElem? (i := 171) rfl)) rfl, tb1 _ (List.mem_of_getElem? (i := 1) rfl), by decide +kernel⟩
theorem pl_X9_cut : xPl m_X9_cut 4 := ⟨by decide +kernel, ⟨by decide +kernel, by decide +kernel, by decide +kernel⟩, xws_one rfl (tb4 _ (List.mem_of_getElem? (i := 179) rfl)) rfl, tb1 _ (List.mem_of_getElem? (i := 1) rfl), by decide +kernel⟩
theorem pl_X9_cutSum : xPl m_X9_cutSum 4 := ⟨by decide +kernel, ⟨by decide +kernel, by decide +kernel, by decide +kernel⟩, xws_one rfl (tb4 _ (List.mem_of_getElem? (i := 186) rfl)) rfl, tb1 _ (List.mem_of_getElem? (i := 1) rfl), by decide +kernel⟩
theorem pl_X9_cuts : xPl m_X9_cuts 3 := ⟨by decide +kernel, ⟨by decide +kernel, by decide +kernel, by decide +kernel⟩, xws_one rfl (tb4 _ (List.mem_of_getElem? (i := 195) rfl)) rfl, tb1 _ (List.mem_of_getElem? (i := 1) rfl), by decide +kernel⟩
theorem pl_X9_isFull : xPl m_X9_isFull 4 := ⟨by decide +kernel, ⟨by decide +kernel, by decide +kernel, by decide +kernel⟩, xws_one rfl (tb4 _ (List.mem_of_getElem? (i := 202) rfl)) rfl, tb1 _ (List.mem_of_getElem? (i := 1) rfl), by decide +kernel⟩
theorem pl_X9_rounds : xPl m_X9_rounds 3 := ⟨by decide +kernel, ⟨by decide +kernel, by decide +kernel, by decide +kernel⟩, xws_one rfl (tb4 _ (List.mem_of_getElem? (i := 214) rfl)) rfl, tb1 _ (List.mem_of_getElem? (i := 1) rfl), by decide +kernel⟩
theorem pl_X9_roundAmount : xPl m_X9_roundAmount 4 := ⟨by decide +kernel, ⟨by decide +kernel, by decide +kernel, by decide +kernel⟩, xws_one rfl (tb5 _ (List.mem_of_getElem? (i := 0) rfl)) rfl, tb1 _ (List.mem_of_getElem? (i := 1) rfl), by decide +kernel⟩
theorem pl_X9_roundSign : xPl m_X9_roundSign 5 := ⟨by decide +kernel, ⟨by decide +kernel, by decide +kernel, by decide +kernel⟩, xws_one rfl (tb5 _ (List.mem_of_getElem? (i := 12) rfl)) rfl, tb1 _ (List.mem_of_getElem? (i := 1) rfl), by decide +kernel⟩
theorem pl_X9_cost : xPl m_X9_cost 3 := ⟨by decide +kernel, ⟨by decide +kernel, by decide +kernel, by decide +kernel⟩, xws_one rfl (tb5 _ (List.mem_of_getElem? (i := 28) rfl)) rfl, tb1 _ (List.mem_of_getElem? (i := 1) rfl), by decide +kernel⟩
theorem pl_X9_cheapest : xPl m_X9_cheapest 4 := ⟨by decide +kernel, ⟨by decide +kernel, by decide +kernel, by decide +kernel⟩, xws_one rfl (tb5 _ (List.mem_of_getElem? (i := 47) rfl)) rfl, tb1 _ (List.mem_of_getElem? (i := 1) rfl), by decide +kernel⟩
theorem pl_X9_price : xPl m_X9_price 4 := ⟨by decide +kernel, ⟨by decide +kernel, by decide +kernel, by decide +kernel⟩, xws_one rfl (tb5 _ (List.mem_of_getElem? (i := 54) rfl)) rfl, tb1 _ (List.mem_of_getElem? (i := 1) rfl), by decide +kernel⟩
theorem pl_X9_edgeWays : xPl m_X9_edgeWays 3 := ⟨by decide +kernel, ⟨by decide +kernel, by decide +kernel, by decide +kernel⟩, xws_one rfl (tb5 _ (List.mem_of_getElem? (i := 67) rfl)) rfl, tb1 _ (List.mem_of_getElem? (i := 1) rfl), by decide +kernel⟩
theorem pl_X9_cornerWays : xPl m_X9_cornerWays 3 := ⟨by decide +kernel, ⟨by decide +kernel, by decide +kernel, by decide +kernel⟩, xws_one rfl (tb5 _ (List.mem_of_getElem? (i := 78) rfl)) rfl, tb1 _ (List.mem_of_getElem? (i := 1) rfl), by decide +kernel⟩
theorem pl_X9_apart : xPl m_X9_apart 3 := ⟨by decide +kernel, ⟨by decide +kernel, by decide +kernel, by decide +kernel⟩, xws_one rfl (tb5 _ (List.mem_of_getElem? (i := 89) rfl)) rfl, tb1 _ (List.mem_of_getElem? (i := 1) rfl), by decide +kernel⟩
theorem pl_X9_wider : xPl m_X9_wider 4 := ⟨by decide +kernel, ⟨by decide +kernel, by decide +kernel, by decide +kernel⟩, xws_one rfl (tb5 _ (List.mem_of_getElem? (i := 111) rfl)) rfl, tb1 _ (List.mem_of_getElem? (i := 1) rfl), by decide +kernel⟩
theorem pl_X9_without : xPl m_X9_without 4 := ⟨by decide +kernel, ⟨by decide +kernel, by decide +kernel, by decide +kernel⟩, xws_one rfl (tb5 _ (List.mem_of_getElem? (i := 123) rfl)) rfl, tb1 _ (List.mem_of_getElem? (i := 1) rfl), by decide +kernel⟩
theorem pl_X9_holds : xPl m_X9_holds 1 := ⟨by decide +kernel, ⟨by decide +kernel, by decide +kernel, by decide +kernel⟩, xws_one rfl (tb5 _ (List.mem_of_getElem? (i := 130) rfl)) rfl, tb1 _ (List.mem_of_getElem? (i := 1) rfl), by decide +kernel⟩
theorem pl_X9_meets : xPl m_X9_meets 2 := ⟨by decide +kernel, ⟨by decide +kernel, by decide +kernel, by decide +kernel⟩, xws_one rfl (tb5 _ (List.mem_of_getElem? (i := 141) rfl)) rfl, tb1 _ (List.mem_of_getElem? (i := 1) rfl), by decide +kernel⟩
theorem pl_X9_breaks : xPl m_X9_breaks 1 := ⟨by decide +kernel, ⟨by decide +kernel, by decide +kernel, by decide +kernel⟩, xws_one rfl (tb5 _ (List.mem_of_getElem? (i := 149) rfl)) rfl, tb1 _ (List.mem_of_getElem? (i := 1) rfl), by decide +kernel⟩
theorem pl_X9_parent : xPl m_X9_parent 2 := ⟨by decide +kernel, ⟨by decide +kernel, by decide +kernel, by decide +kernel⟩, xws_one rfl (tb5 _ (List.mem_of_getElem? (i := 165) rfl)) rfl, tb1 _ (List.mem_of_getElem? (i := 1) rfl), by decide +kernel⟩
theorem pl_X9_between : xPl m_X9_between 3 := ⟨by decide +kernel, ⟨by decide +kernel, by decide +kernel, by decide +kernel⟩, xws_one rfl (tb5 _ (List.mem_of_getElem? (i := 173) rfl)) rfl, tb1 _ (List.mem_of_getElem? (i := 1) rfl), by decide +kernel⟩
theorem pl_X9_inSteps : xPl m_X9_inSteps 4 := ⟨by decide +kernel, ⟨by decide +kernel, by decide +kernel, by decide +kernel⟩, xws_one rfl (tb5 _ (List.mem_of_getElem? (i := 180) rfl)) rfl, tb1 _ (List.mem_of_getElem? (i := 1) rfl), by decide +kernel⟩
theorem pl_X9_likes : xPl m_X9_likes 2 := ⟨by decide +kernel, ⟨by decide +kernel, by decide +kernel, by decide +kernel⟩, xws_one rfl (tb5 _ (List.mem_of_getElem? (i := 192) rfl)) rfl, tb1 _ (List.mem_of_getElem? (i := 1) rfl), by decide +kernel⟩
theorem pl_X9_pairs : xPl m_X9_pairs 0 := ⟨by decide +kernel, ⟨by decide +kernel, by decide +kernel, by decide +kernel⟩, xws_one rfl (tb2 _ (List.mem_of_getElem? (i := 51) rfl)) rfl, tb1 _ (List.mem_of_getElem? (i := 1) rfl), by decide +kernel⟩
theorem pl_X9_pairOf : xPl m_X9_pairOf 1 := ⟨by decide +kernel, ⟨by decide +kernel, by decide +kernel, by decide +kernel⟩, xws_one rfl (tb5 _ (List.mem_of_getElem? (i := 204) rfl)) rfl, tb1 _ (List.mem_of_getElem? (i := 1) rfl), by decide +kernel⟩
theorem pl_X9_cover : xPl m_X9_cover 1 := ⟨by decide +kernel, ⟨by decide +kernel, by decide +kernel, by decide +kernel⟩, xws_one rfl (tb2 _ (List.mem_of_getElem? (i := 69) rfl)) rfl, tb1 _ (List.mem_of_getElem? (i := 1) rfl), by decide +kernel⟩
theorem pl_X9_crowdOfLeft : xPl m_X9_crowdOfLeft 0 := ⟨by decide +kernel, ⟨by decide +kernel, by decide +kernel, by decide +kernel⟩, xws_one rfl (tb5 _ (List.mem_of_getElem? (i := 212) rfl)) rfl, tb1 _ (List.mem_of_getElem? (i := 1) rfl), by decide +kernel⟩
theorem pl_X9_team : xPl m_X9_team 1 := ⟨by decide +kernel, ⟨by decide +kernel, by decide +kernel, by decide +kernel⟩, xws_one rfl (tb5 _ (List.mem_of_getElem? (i := 224) rfl)) rfl, tb1 _ (List.mem_of_getElem? (i := 1) rfl), by decide +kernel⟩
theorem pl_X9_games : xPl m_X9_games 3 := ⟨by decide +kernel, ⟨by decide +kernel, by decide +kernel, by decide +kernel⟩, xws_one rfl (tb5 _ (List.mem_of_getElem? (i := 237) rfl)) rfl, tb1 _ (List.mem_of_getElem? (i := 1) rfl), by decide +kernel⟩
theorem pl_X9_canWin : xPl m_X9_canWin 1 := ⟨by decide +kernel, ⟨by decide +kernel, by decide +kernel, by decide +kernel⟩, xws_one rfl (tb6 _ (List.mem_of_getElem? (i := 19) rfl)) rfl, tb1 _ (List.mem_of_getElem? (i := 1) rfl), by decide +kernel⟩
theorem pl_X9_against : xPl m_X9_against 1 := ⟨by decide +kernel, ⟨by decide +kernel, by decide +kernel, by decide +kernel⟩, xws_one rfl (tb6 _ (List.mem_of_getElem? (i := 37) rfl)) rfl, tb1 _ (List.mem_of_getElem? (i := 1) rfl), by decide +kernel⟩
theorem pl_X9_table : xPl m_X9_table 2 := ⟨by decide +kernel, ⟨by decide +kernel, by decide +kernel, by decide +kernel⟩, xws_one rfl (tb6 _ (List.mem_of_getElem? (i := 45) rfl)) rfl, tb1 _ (List.mem_of_getElem? (i := 1) rfl), by decide +kernel⟩
theorem pl_X9_tell : xPl m_X9_tell 3 := ⟨by decide +kernel, ⟨by decide +kernel, by decide +kernel, by decide +kernel⟩, xws_one rfl (tb6 _ (List.mem_of_getElem? (i := 57) rfl)) rfl, tb1 _ (List.mem_of_getElem? (i := 1) rfl), by decide +kernel⟩
theorem pl_X9_rounded : xPl m_X9_rounded 2 := ⟨by decide +kernel, ⟨by decide +kernel, by decide +kernel, by decide +kernel⟩, xws_one rfl (tb6 _ (List.mem_of_getElem? (i := 71) rfl)) rfl, tb1 _ (List.mem_of_getElem? (i := 1) rfl), by decide +kernel⟩
theorem pl_X9_project : xPl m_X9_project 2 := ⟨by decide +kernel, ⟨by decide +kernel, by decide +kernel, by decide +kernel⟩, xws_one rfl (tb6 _ (List.mem_of_getElem? (i := 78) rfl)) rfl, tb1 _ (List.mem_of_getElem? (i := 1) rfl), by decide +kernel⟩
theorem pl_X9_toolCost : xPl m_X9_toolCost 2 := ⟨by decide +kernel, ⟨by decide +kernel, by decide +kernel, by decide +kernel⟩, xws_one rfl (tb6 _ (List.mem_of_getElem? (i := 91) rfl)) rfl, tb1 _ (List.mem_of_getElem? (i := 1) rfl), by decide +kernel⟩
theorem pl_X9_best : xPl m_X9_best 0 := ⟨by decide +kernel, ⟨by decide +kernel, by decide +kernel, by decide +kernel⟩, xws_one rfl (tb2 _ (List.mem_of_getElem? (i := 82) rfl)) rfl, tb1 _ (List.mem_of_getElem? (i := 1) rfl), by decide +kernel⟩
theorem pl_X9_chosen : xPl m_X9_chosen 1 := ⟨by decide +kernel, ⟨by decide +kernel, by decide +kernel, by decide +kernel⟩, xws_one rfl (tb2 _ (List.mem_of_getElem? (i := 97) rfl)) rfl, tb1 _ (List.mem_of_getElem? (i := 1) rfl), by decide +kernel⟩
theorem pl_X9_checksum : xPl m_X9_checksum 1 := ⟨by decide +kernel, ⟨by decide +kernel, by decide +kernel, by decide +kernel⟩, xws_one rfl (tb6 _ (List.mem_of_getElem? (i := 100) rfl)) rfl, tb1 _ (List.mem_of_getElem? (i := 1) rfl), by decide +kernel⟩
theorem pl_X9_fullShare : xPl m_X9_fullShare 3 := ⟨by decide +kernel, ⟨by decide +kernel, by decide +kernel, by decide +kernel⟩, xws_one rfl (tb6 _ (List.mem_of_getElem? (i := 113) rfl)) rfl, tb1 _ (List.mem_of_getElem? (i := 1) rfl), by decide +kernel⟩
theorem pl_X9_meanFlow : xPl m_X9_meanFlow 3 := ⟨by decide +kernel, ⟨by decide +kernel, by decide +kernel, by decide +kernel⟩, xws_one rfl (tb6 _ (List.mem_of_getElem? (i := 124) rfl)) rfl, tb1 _ (List.mem_of_getElem? (i := 1) rfl), by decide +kernel⟩
theorem pl_X9_isSound : xPl m_X9_isSound 0 := ⟨by decide +kernel, ⟨by decide +kernel, by decide +kernel, by decide +kernel⟩, xws_one rfl (tb2 _ (List.mem_of_getElem? (i := 101) rfl)) rfl, tb1 _ (List.mem_of_getElem? (i := 1) rfl), by decide +kernel⟩
theorem pl_X9_isFlowSound : xPl m_X9_isFlowSound 1 := ⟨by decide +kernel, ⟨by decide +kernel, by decide +kernel, by decide +kernel⟩, xws_one rfl (tb2 _ (List.mem_of_getElem? (i := 105) rfl)) rfl, tb1 _ (List.mem_of_getElem? (i := 1) rfl), by decide +kernel⟩
theorem pl_X9_isCutSound : xPl m_X9_isCutSound 3 := ⟨by decide +kernel, ⟨by decide +kernel, by decide +kernel, by decide +kernel⟩, xws_one rfl (tb2 _ (List.mem_of_getElem? (i := 217) rfl)) rfl, tb1 _ (List.mem_of_getElem? (i := 1) rfl), by decide +kernel⟩
theorem pl_X9_areRoundsSound : xPl m_X9_areRoundsSound 3 := ⟨by decide +kernel, ⟨by decide +kernel, by decide +kernel, by decide +kernel⟩, xws_one rfl (tb3 _ (List.mem_of_getElem? (i := 41) rfl)) rfl, tb1 _ (List.mem_of_getElem? (i := 1) rfl), by decide +kernel⟩
theorem pl_X9_isTreeSound : xPl m_X9_isTreeSound 1 := ⟨by decide +kernel, ⟨by decide +kernel, by decide +kernel, by decide +kernel⟩, xws_one rfl (tb3 _ (List.mem_of_getElem? (i := 54) rfl)) rfl, tb1 _ (List.mem_of_getElem? (i := 1) rfl), by decide +kernel⟩
theorem pl_X9_greatestAmount : xPl m_X9_greatestAmount 3 := ⟨by decide +kernel, ⟨by decide +kernel, by decide +kernel, by decide +kernel⟩, xws_one rfl (tb4 _ (List.mem_of_getElem? (i := 133) rfl)) rfl, tb1 _ (List.mem_of_getElem? (i := 1) rfl), by decide +kernel⟩
theorem pl_X9_tellGreatest : xPl m_X9_tellGreatest 3 := ⟨by decide +kernel, ⟨by decide +kernel, by decide +kernel, by decide +kernel⟩, xws_one rfl (tb4 _ (List.mem_of_getElem? (i := 163) rfl)) rfl, tb1 _ (List.mem_of_getElem? (i := 1) rfl), by decide +kernel⟩
theorem pl_X9_tellCheapest : xPl m_X9_tellCheapest 3 := ⟨by decide +kernel, ⟨by decide +kernel, by decide +kernel, by decide +kernel⟩, xws_one rfl (tb5 _ (List.mem_of_getElem? (i := 32) rfl)) rfl, tb1 _ (List.mem_of_getElem? (i := 1) rfl), by decide +kernel⟩
theorem pl_X9_netAt : xPl m_X9_netAt 1 := ⟨by decide +kernel, ⟨by decide +kernel, by decide +kernel, by decide +kernel⟩, xws_one rfl (tb4 _ (List.mem_of_getElem? (i := 46) rfl)) rfl, tb1 _ (List.mem_of_getElem? (i := 1) rfl), by decide +kernel⟩
theorem pl_X9_needEdge : xPl m_X9_needEdge 2 := ⟨by decide +kernel, ⟨by decide +kernel, by decide +kernel, by decide +kernel⟩, xws_one rfl (tb4 _ (List.mem_of_getElem? (i := 89) rfl)) rfl, tb1 _ (List.mem_of_getElem? (i := 1) rfl), by decide +kernel⟩
theorem pl_X9_needCorner : xPl m_X9_needCorner 2 := ⟨by decide +kernel, ⟨by decide +kernel, by decide +kernel, by decide +kernel⟩, xws_one rfl (tb4 _ (List.mem_of_getElem? (i := 119) rfl)) rfl, tb1 _ (List.mem_of_getElem? (i := 1) rfl), by decide +kernel⟩
theorem pl_X9_needEnds : xPl m_X9_needEnds 3 := ⟨by decide +kernel, ⟨by decide +kernel, by decide +kernel, by decide +kernel⟩, xws_one rfl (tb4 _ (List.mem_of_getElem? (i := 65) rfl)) rfl, tb1 _ (List.mem_of_getElem? (i := 1) rfl), by decide +kernel⟩
theorem pl_X9_needNumbers : xPl m_X9_needNumbers 3 := ⟨by decide +kernel, ⟨by decide +kernel, by decide +kernel, by decide +kernel⟩, xws_one rfl (tb4 _ (List.mem_of_getElem? (i := 69) rfl)) rfl, tb1 _ (List.mem_of_getElem? (i := 1) rfl), by decide +kernel⟩
theorem pl_X9_needFlow : xPl m_X9_needFlow 1 := ⟨by decide +kernel, ⟨by decide +kernel, by decide +kernel, by decide +kernel⟩, xws_one rfl (tb4 _ (List.mem_of_getElem? (i := 136) rfl)) rfl, tb1 _ (List.mem_of_getElem? (i := 1) rfl), by decide +kernel⟩
theorem pl_X9_needNoLeasts : xPl m_X9_needNoLeasts 1 := ⟨by decide +kernel, ⟨by decide +kernel, by decide +kernel, by decide +kernel⟩, xws_one rfl (tb4 _ (List.mem_of_getElem? (i := 217) rfl)) rfl, tb1 _ (List.mem_of_getElem? (i := 1) rfl), by decide +kernel⟩
theorem pl_X9_needRound : xPl m_X9_needRound 4 := ⟨by decide +kernel, ⟨by decide +kernel, by decide +kernel, by decide +kernel⟩, xws_one rfl (tb5 _ (List.mem_of_getElem? (i := 4) rfl)) rfl, tb1 _ (List.mem_of_getElem? (i := 1) rfl), by decide +kernel⟩
theorem pl_X9_needSomeEdge : xPl m_X9_needSomeEdge 1 := ⟨by decide +kernel, ⟨by decide +kernel, by decide +kernel, by decide +kernel⟩, xws_one rfl (tb6 _ (List.mem_of_getElem? (i := 116) rfl)) rfl, tb1 _ (List.mem_of_getElem? (i := 1) rfl), by decide +kernel⟩
theorem pl_X9_needLeft : xPl m_X9_needLeft 1 := ⟨by decide +kernel, ⟨by decide +kernel, by decide +kernel, by decide +kernel⟩, xws_one rfl (tb5 _ (List.mem_of_getElem? (i := 195) rfl)) rfl, tb1 _ (List.mem_of_getElem? (i := 1) rfl), by decide +kernel⟩
theorem pl_X9_needTeam : xPl m_X9_needTeam 1 := ⟨by decide +kernel, ⟨by decide +kernel, by decide +kernel, by decide +kernel⟩, xws_one rfl (tb6 _ (List.mem_of_getElem? (i := 1) rfl)) rfl, tb1 _ (List.mem_of_getElem? (i := 1) rfl), by decide +kernel⟩
theorem pl_X9_needPlace : xPl m_X9_needPlace 2 := ⟨by decide +kernel, ⟨by decide +kernel, by decide +kernel, by decide +kernel⟩, xws_one rfl (tb6 _ (List.mem_of_getElem? (i := 61) rfl)) rfl, tb1 _ (List.mem_of_getElem? (i := 1) rfl), by decide +kernel⟩
theorem pl_X9_hasBit : xPl m_X9_hasBit 2 := ⟨by decide +kernel, ⟨by decide +kernel, by decide +kernel, by decide +kernel⟩, xws_one rfl (tb2 _ (List.mem_of_getElem? (i := 93) rfl)) rfl, tb1 _ (List.mem_of_getElem? (i := 1) rfl), by decide +kernel⟩
theorem pl_X9_hasOneOf : xPl m_X9_hasOneOf 3 := ⟨by decide +kernel, ⟨by decide +kernel, by decide +kernel, by decide +kernel⟩, xws_one rfl (tb2 _ (List.mem_of_getElem? (i := 209) rfl)) rfl, tb1 _ (List.mem_of_getElem? (i := 1) rfl), by decide +kernel⟩
theorem pl_X10_init : xPl m_X10_init 0 := ⟨by decide +kernel, ⟨by decide +kernel, by decide +kernel, by decide +kernel⟩, xws_one rfl (tb6 _ (List.mem_of_getElem? (i := 129) rfl)) rfl, tb1 _ (List.mem_of_getElem? (i := 10) rfl), by decide +kernel⟩
theorem pl_X10_thrown : xPl m_X10_thrown 0 := ⟨by decide +kernel, ⟨by decide +kernel, by decide +kernel, by decide +kernel⟩, xws_one rfl (tb6 _ (List.mem_of_getElem? (i := 234) rfl)) rfl, tb1 _ (List.mem_of_getElem? (i := 10) rfl), by decide +kernel⟩
theorem pl_X10_in : xPl m_X10_in 3 := ⟨by decide +kernel, ⟨by decide +kernel, by decide +kernel, by decide +kernel⟩, xws_one rfl (tb7 _ (List.mem_of_getElem? (i := 1) rfl)) rfl, tb1 _ (List.mem_of_getElem? (i := 10) rfl), by decide +kernel⟩
theorem pl_X10_min : xPl m_X10_min 2 := ⟨by decide +kernel, ⟨by decide +kernel, by decide +kernel, by decide +kernel⟩, xws_one rfl (tb7 _ (List.mem_of_getElem? (i := 181) rfl)) rfl, tb1 _ (List.mem_of_getElem? (i := 10) rfl), by decide +kernel⟩
theorem pl_X10_max : xPl m_X10_max 2 := ⟨by decide +kernel, ⟨by decide +kernel, by decide +kernel, by decide +kernel⟩, xws_one rfl (tb7 _ (List.mem_of_getElem? (i := 125) rfl)) rfl, tb1 _ (List.mem_of_getElem? (i := 10) rfl), by decide +kernel⟩
theorem pl_X10_has : xPl m_X10_has 2 := ⟨by decide +kernel, ⟨by decide +kernel, by decide +kernel, by decide +kernel⟩, xws_one rfl (tb7 _ (List.mem_of_getElem? (i := 67) rfl)) rfl, tb1 _ (List.mem_of_getElem? (i := 10) rfl), by decide +kernel⟩
theorem pl_X10_bits : xPl m_X10_bits 1 := ⟨by decide +kernel, ⟨by decide +kernel, by decide +kernel, by decide +kernel⟩, xws_one rfl (tb8 _ (List.mem_of_getElem? (i := 12) rfl)) rfl, tb1 _ (List.mem_of_getElem? (i := 10) rfl), by decide +kernel⟩
theorem pl_X10_isNet : xPl m_X10_isNet 1 := ⟨by decide +kernel, ⟨by decide +kernel, by decide +kernel, by decide +kernel⟩, xws_one rfl (tb7 _ (List.mem_of_getElem? (i := 9) rfl)) rfl, tb1 _ (List.mem_of_getElem? (i := 10) rfl), by decide +kernel⟩
theorem pl_X10_isCorner : xPl m_X10_isCorner 2 := ⟨by decide +kernel, ⟨by decide +kernel, by decide +kernel, by decide +kernel⟩, xws_one rfl (tb7 _ (List.mem_of_getElem? (i := 17) rfl)) rfl, tb1 _ (List.mem_of_getElem? (i := 10) rfl), by decide +kernel⟩
theorem pl_X10_isEdge : xPl m_X10_isEdge 2 := ⟨by decide +kernel, ⟨by decide +kernel, by decide +kernel, by decide +kernel⟩, xws_one rfl (tb7 _ (List.mem_of_getElem? (i := 28) rfl)) rfl, tb1 _ (List.mem_of_getElem? (i := 10) rfl), by decide +kernel⟩
theorem pl_X10_areTwo : xPl m_X10_areTwo 3 := ⟨by decide +kernel, ⟨by decide +kernel, by decide +kernel, by decide +kernel⟩, xws_one rfl (tb7 _ (List.mem_of_getElem? (i := 13) rfl)) rfl, tb1 _ (List.mem_of_getElem? (i := 10) rfl), by decide +kernel⟩
theorem pl_X10_wrong : xPl m_X10_wrong 3 := ⟨by decide +kernel, ⟨by decide +kernel, by decide +kernel, by decide +kernel⟩, xws_one rfl (tb7 _ (List.mem_of_getElem? (i := 48) rfl)) rfl, tb1 _ (List.mem_of_getElem? (i := 10) rfl), by decide +kernel⟩
theorem pl_X10_wrongEdge : xPl m_X10_wrongEdge 4 := ⟨by decide +kernel, ⟨by decide +kernel, by decide +kernel, by decide +kernel⟩, xws_one rfl (tb7 _ (List.mem_of_getElem? (i := 107) rfl)) rfl, tb1 _ (List.mem_of_getElem? (i := 10) rfl), by decide +kernel⟩
theorem pl_X10_net : xPl m_X10_net 1 := ⟨by decide +kernel, ⟨by decide +kernel, by decide +kernel, by decide +kernel⟩, xws_one rfl (tb6 _ (List.mem_of_getElem? (i := 238) rfl)) rfl, tb1 _ (List.mem_of_getElem? (i := 10) rfl), by decide +kernel⟩
theorem pl_X10_areBounds : xPl m_X10_areBounds 3 := ⟨by decide +kernel, ⟨by decide +kernel, by decide +kernel, by decide +kernel⟩, xws_one rfl (tb7 _ (List.mem_of_getElem? (i := 20) rfl)) rfl, tb1 _ (List.mem_of_getElem? (i := 10) rfl), by decide +kernel⟩
theorem pl_X10_edge : xPl m_X10_edge 6 := ⟨by decide +kernel, ⟨by decide +kernel, by decide +kernel, by decide +kernel⟩, xws_one rfl (tb7 _ (List.mem_of_getElem? (i := 5) rfl)) rfl, tb1 _ (List.mem_of_getElem? (i := 10) rfl), by decide +kernel⟩
theorem pl_X10_change : xPl m_X10_change 5 := ⟨by decide +kernel, ⟨by decide +kernel, by decide +kernel, by decide +kernel⟩, xws_one rfl (tb7 _ (List.mem_of_getElem? (i := 24) rfl)) rfl, tb1 _ (List.mem_of_getElem? (i := 10) rfl), by decide +kernel⟩
theorem pl_X10_drop : xPl m_X10_drop 2 := ⟨by decide +kernel, ⟨by decide +kernel, by decide +kernel, by decide +kernel⟩, xws_one rfl (tb7 _ (List.mem_of_getElem? (i := 32) rfl)) rfl, tb1 _ (List.mem_of_getElem? (i := 10) rfl), by decide +kernel⟩
theorem pl_X10_edges : xPl m_X10_edges 1 := ⟨by decide +kernel, ⟨by decide +kernel, by decide +kernel, by decide +kernel⟩, xws_one rfl (tb7 _ (List.mem_of_getElem? (i := 36) rfl)) rfl, tb1 _ (List.mem_of_getElem? (i := 10) rfl), by decide +kernel⟩
theorem pl_X10_supply : xPl m_X10_supply 3 := ⟨by decide +kernel, ⟨by decide +kernel, by decide +kernel, by decide +kernel⟩, xws_one rfl (tb7 _ (List.mem_of_getElem? (i := 40) rfl)) rfl, tb1 _ (List.mem_of_getElem? (i := 10) rfl), by decide +kernel⟩
theorem pl_X10_looksAt : xPl m_X10_looksAt 1 := ⟨by decide +kernel, ⟨by decide +kernel, by decide +kernel, by decide +kernel⟩, xws_one rfl (tb7 _ (List.mem_of_getElem? (i := 52) rfl)) rfl, tb1 _ (List.mem_of_getElem? (i := 10) rfl), by decide +kernel⟩
theorem pl_X10_leaves : xPl m_X10_leaves 3 := ⟨by decide +kernel, ⟨by decide +kernel, by decide +kernel, by decide +kernel⟩, xws_one rfl (tb7 _ (List.mem_of_getElem? (i := 75) rfl)) rfl, tb1 _ (List.mem_of_getElem? (i := 10) rfl), by decide +kernel⟩
theorem pl_X10_enters : xPl m_X10_enters 3 := ⟨by decide +kernel, ⟨by decide +kernel, by decide +kernel, by decide +kernel⟩, xws_one rfl (tb7 _ (List.mem_of_getElem? (i := 83) rfl)) rfl, tb1 _ (List.mem_of_getElem? (i := 10) rfl), by decide +kernel⟩
theorem pl_X10_leastOut : xPl m_X10_leastOut 2 := ⟨by decide +kernel, ⟨by decide +kernel, by decide +kernel, by decide +kernel⟩, xws_one rfl (tb7 _ (List.mem_of_getElem? (i := 71) rfl)) rfl, tb1 _ (List.mem_of_getElem? (i := 10) rfl), by decide +kernel⟩
theorem pl_X10_mostOut : xPl m_X10_mostOut 2 := ⟨by decide +kernel, ⟨by decide +kernel, by decide +kernel, by decide +kernel⟩, xws_one rfl (tb7 _ (List.mem_of_getElem? (i := 95) rfl)) rfl, tb1 _ (List.mem_of_getElem? (i := 10) rfl), by decide +kernel⟩
theorem pl_X10_leastIn : xPl m_X10_leastIn 2 := ⟨by decide +kernel, ⟨by decide +kernel, by decide +kernel, by decide +kernel⟩, xws_one rfl (tb7 _ (List.mem_of_getElem? (i := 99) rfl)) rfl, tb1 _ (List.mem_of_getElem? (i := 10) rfl), by decide +kernel⟩
theorem pl_X10_mostIn : xPl m_X10_mostIn 2 := ⟨by decide +kernel, ⟨by decide +kernel, by decide +kernel, by decide +kernel⟩, xws_one rfl (tb7 _ (List.mem_of_getElem? (i := 79) rfl)) rfl, tb1 _ (List.mem_of_getElem? (i := 10) rfl), by decide +kernel⟩
theorem pl_X10_isBetween : xPl m_X10_isBetween 3 := ⟨by decide +kernel, ⟨by decide +kernel, by decide +kernel, by decide +kernel⟩, xws_one rfl (tb7 _ (List.mem_of_getElem? (i := 87) rfl)) rfl, tb1 _ (List.mem_of_getElem? (i := 10) rfl), by decide +kernel⟩
theorem pl_X10_sets : xPl m_X10_sets 1 := ⟨by decide +kernel, ⟨by decide +kernel, by decide +kernel, by decide +kernel⟩, xws_one rfl (tb7 _ (List.mem_of_getElem? (i := 64) rfl)) rfl, tb1 _ (List.mem_of_getElem? (i := 10) rfl), by decide +kernel⟩
theorem pl_X10_proof : xPl m_X10_proof 3 := ⟨by decide +kernel, ⟨by decide +kernel, by decide +kernel, by decide +kernel⟩, xws_one rfl (tb7 _ (List.mem_of_getElem? (i := 60) rfl)) rfl, tb1 _ (List.mem_of_getElem? (i := 10) rfl), by decide +kernel⟩
theorem pl_X10_sumOf : xPl m_X10_sumOf 2 := ⟨by decide +kernel, ⟨by decide +kernel, by decide +kernel, by decide +kernel⟩, xws_one rfl (tb7 _ (List.mem_of_getElem? (i := 91) rfl)) rfl, tb1 _ (List.mem_of_getElem? (i := 10) rfl), by decide +kernel⟩
theorem pl_X10_amount : xPl m_X10_amount 3 := ⟨by decide +kernel, ⟨by decide +kernel, by decide +kernel, by decide +kernel⟩, xws_one rfl (tb7 _ (List.mem_of_getElem? (i := 56) rfl)) rfl, tb1 _ (List.mem_of_getElem? (i := 10) rfl), by decide +kernel⟩
theorem pl_X10_beyond : xPl m_X10_beyond 4 := ⟨by decide +kernel, ⟨by decide +kernel, by decide +kernel, by decide +kernel⟩, xws_one rfl (tb7 _ (List.mem_of_getElem? (i := 122) rfl)) rfl, tb1 _ (List.mem_of_getElem? (i := 10) rfl), by decide +kernel⟩
theorem pl_X10_leastOf : xPl m_X10_leastOf 5 := ⟨by decide +kernel, ⟨by decide +kernel, by decide +kernel, by decide +kernel⟩, xws_one rfl (tb7 _ (List.mem_of_getElem? (i := 119) rfl)) rfl, tb1 _ (List.mem_of_getElem? (i := 10) rfl), by decide +kernel⟩
theorem pl_X10_settles : xPl m_X10_settles 4 := ⟨by decide +kernel, ⟨by decide +kernel, by decide +kernel, by decide +kernel⟩, xws_one rfl (tb7 _ (List.mem_of_getElem? (i := 115) rfl)) rfl, tb1 _ (List.mem_of_getElem? (i := 10) rfl), by decide +kernel⟩
theorem pl_X10_finds : xPl m_X10_finds 3 := ⟨by decide +kernel, ⟨by decide +kernel, by decide +kernel, by decide +kernel⟩, xws_one rfl (tb7 _ (List.mem_of_getElem? (i := 111) rfl)) rfl, tb1 _ (List.mem_of_getElem? (i := 10) rfl), by decide +kernel⟩
theorem pl_X10_most : xPl m_X10_most 3 := ⟨by decide +kernel, ⟨by decide +kernel, by decide +kernel, by decide +kernel⟩, xws_one rfl (tb7 _ (List.mem_of_getElem? (i := 44) rfl)) rfl, tb1 _ (List.mem_of_getElem? (i := 10) rfl), by decide +kernel⟩
theorem pl_X10_flow : xPl m_X10_flow 4 := ⟨by decide +kernel, ⟨by decide +kernel, by decide +kernel, by decide +kernel⟩, xws_one rfl (tb7 _ (List.mem_of_getElem? (i := 103) rfl)) rfl, tb1 _ (List.mem_of_getElem? (i := 10) rfl), by decide +kernel⟩
theorem pl_X10_crowd : xPl m_X10_crowd 3 := ⟨by decide +kernel, ⟨by decide +kernel, by decide +kernel, by decide +kernel⟩, xws_one rfl (tb7 _ (List.mem_of_getElem? (i := 129) rfl)) rfl, tb1 _ (List.mem_of_getElem? (i := 10) rfl), by decide +kernel⟩
theorem pl_X10_cut : xPl m_X10_cut 4 := ⟨by decide +kernel, ⟨by decide +kernel, by decide +kernel, by decide +kernel⟩, xws_one rfl (tb7 _ (List.mem_of_getElem? (i := 133) rfl)) rfl, tb1 _ (List.mem_of_getElem? (i := 10) rfl), by decide +kernel⟩
theorem pl_X10_cutSum : xPl m_X10_cutSum 4 := ⟨by decide +kernel, ⟨by decide +kernel, by decide +kernel, by decide +kernel⟩, xws_one rfl (tb7 _ (List.mem_of_getElem? (i := 138) rfl)) rfl, tb1 _ (List.mem_of_getElem? (i := 10) rfl), by decide +kernel⟩
theorem pl_X10_cuts : xPl m_X10_cuts 3 := ⟨by decide +kernel, ⟨by decide +kernel, by decide +kernel, by decide +kernel⟩, xws_one rfl (tb7 _ (List.mem_of_getElem? (i := 142) rfl)) rfl, tb1 _ (List.mem_of_getElem? (i := 10) rfl), by decide +kernel⟩
theorem pl_X10_isFull : xPl m_X10_isFull 4 := ⟨by decide +kernel, ⟨by decide +kernel, by decide +kernel, by decide +kernel⟩, xws_one rfl (tb7 _ (List.mem_of_getElem? (i := 146) rfl)) rfl, tb1 _ (List.mem_of_getElem? (i := 10) rfl), by decide +kernel⟩
theorem pl_X10_isOpen : xPl m_X10_isOpen 2 := ⟨by decide +kernel, ⟨by decide +kernel, by decide +kernel, by decide +kernel⟩, xws_one rfl (tb7 _ (List.mem_of_getElem? (i := 170) rfl)) rfl, tb1 _ (List.mem_of_getElem? (i := 10) rfl), by decide +kernel⟩
theorem pl_X10_begin : xPl m_X10_begin 2 := ⟨by decide +kernel, ⟨by decide +kernel, by decide +kernel, by decide +kernel⟩, xws_one rfl (tb7 _ (List.mem_of_getElem? (i := 174) rfl)) rfl, tb1 _ (List.mem_of_getElem? (i := 10) rfl), by decide +kernel⟩
theorem pl_X10_end : xPl m_X10_end 2 := ⟨by decide +kernel, ⟨by decide +kernel, by decide +kernel, by decide +kernel⟩, xws_one rfl (tb7 _ (List.mem_of_getElem? (i := 178) rfl)) rfl, tb1 _ (List.mem_of_getElem? (i := 10) rfl), by decide +kernel⟩
theorem pl_X10_measures : xPl m_X10_measures 2 := ⟨by decide +kernel, ⟨by decide +kernel, by decide +kernel, by decide +kernel⟩, xws_one rfl (tb7 _ (List.mem_of_getElem? (i := 166) rfl)) rfl, tb1 _ (List.mem_of_getElem? (i := 10) rfl), by decide +kernel⟩
theorem pl_X10_goes : xPl m_X10_goes 3 := ⟨by decide +kernel, ⟨by decide +kernel, by decide +kernel, by decide +kernel⟩, xws_one rfl (tb7 _ (List.mem_of_getElem? (i := 162) rfl)) rfl, tb1 _ (List.mem_of_getElem? (i := 10) rfl), by decide +kernel⟩
theorem pl_X10_puts : xPl m_X10_puts 0 := ⟨by decide +kernel, ⟨by decide +kernel, by decide +kernel, by decide +kernel⟩, xws_one rfl (tb7 _ (List.mem_of_getElem? (i := 185) rfl)) rfl, tb1 _ (List.mem_of_getElem? (i := 10) rfl), by decide +kernel⟩
theorem pl_X10_roundsTo : xPl m_X10_roundsTo 4 := ⟨by decide +kernel, ⟨by decide +kernel, by decide +kernel, by decide +kernel⟩, xws_one rfl (tb7 _ (List.mem_of_getElem? (i := 158) rfl)) rfl, tb1 _ (List.mem_of_getElem? (i := 10) rfl), by decide +kernel⟩
theorem pl_X10_wrongRounds : xPl m_X10_wrongRounds 3 := ⟨by decide +kernel, ⟨by decide +kernel, by decide +kernel, by decide +kernel⟩, xws_one rfl (tb7 _ (List.mem_of_getElem? (i := 154) rfl)) rfl, tb1 _ (List.mem_of_getElem? (i := 10) rfl), by decide +kernel⟩
theorem pl_X10_rounds : xPl m_X10_rounds 3 := ⟨by decide +kernel, ⟨by decide +kernel, by decide +kernel, by decide +kernel⟩, xws_one rfl (tb7 _ (List.mem_of_getElem? (i := 150) rfl)) rfl, tb1 _ (List.mem_of_getElem? (i := 10) rfl), by decide +kernel⟩
theorem pl_X10_isRound : xPl m_X10_isRound 4 := ⟨by decide +kernel, ⟨by decide +kernel, by decide +kernel, by decide +kernel⟩, xws_one rfl (tb7 _ (List.mem_of_getElem? (i := 193) rfl)) rfl, tb1 _ (List.mem_of_getElem? (i := 10) rfl), by decide +kernel⟩
theorem pl_X10_roundAmount : xPl m_X10_roundAmount 4 := ⟨by decide +kernel, ⟨by decide +kernel, by decide +kernel, by decide +kernel⟩, xws_one rfl (tb7 _ (List.mem_of_getElem? (i := 189) rfl)) rfl, tb1 _ (List.mem_of_getElem? (i := 10) rfl), by decide +kernel⟩
theorem pl_X10_roundSign : xPl m_X10_roundSign 5 := ⟨by decide +kernel, ⟨by decide +kernel, by decide +kernel, by decide +kernel⟩, xws_one rfl (tb7 _ (List.mem_of_getElem? (i := 197) rfl)) rfl, tb1 _ (List.mem_of_getElem? (i := 10) rfl), by decide +kernel⟩
theorem pl_X10_costAlong : xPl m_X10_costAlong 2 := ⟨by decide +kernel, ⟨by decide +kernel, by decide +kernel, by decide +kernel⟩, xws_one rfl (tb7 _ (List.mem_of_getElem? (i := 213) rfl)) rfl, tb1 _ (List.mem_of_getElem? (i := 10) rfl), by decide +kernel⟩
theorem pl_X10_costsFrom : xPl m_X10_costsFrom 2 := ⟨by decide +kernel, ⟨by decide +kernel, by decide +kernel, by decide +kernel⟩, xws_one rfl (tb7 _ (List.mem_of_getElem? (i := 209) rfl)) rfl, tb1 _ (List.mem_of_getElem? (i := 10) rfl), by decide +kernel⟩
theorem pl_X10_turnsRound : xPl m_X10_turnsRound 2 := ⟨by decide +kernel, ⟨by decide +kernel, by decide +kernel, by decide +kernel⟩, xws_one rfl (tb7 _ (List.mem_of_getElem? (i := 217) rfl)) rfl, tb1 _ (List.mem_of_getElem? (i := 10) rfl), by decide +kernel⟩
theorem pl_X10_findsCheap : xPl m_X10_findsCheap 3 := ⟨by decide +kernel, ⟨by decide +kernel, by decide +kernel, by decide +kernel⟩, xws_one rfl (tb7 _ (List.mem_of_getElem? (i := 205) rfl)) rfl, tb1 _ (List.mem_of_getElem? (i := 10) rfl), by decide +kernel⟩
theorem pl_X10_cost : xPl m_X10_cost 3 := ⟨by decide +kernel, ⟨by decide +kernel, by decide +kernel, by decide +kernel⟩, xws_one rfl (tb7 _ (List.mem_of_getElem? (i := 201) rfl)) rfl, tb1 _ (List.mem_of_getElem? (i := 10) rfl), by decide +kernel⟩
theorem pl_X10_cheapest : xPl m_X10_cheapest 4 := ⟨by decide +kernel, ⟨by decide +kernel, by decide +kernel, by decide +kernel⟩, xws_one rfl (tb7 _ (List.mem_of_getElem? (i := 221) rfl)) rfl, tb1 _ (List.mem_of_getElem? (i := 10) rfl), by decide +kernel⟩
theorem pl_X10_price : xPl m_X10_price 4 := ⟨by decide +kernel, ⟨by decide +kernel, by decide +kernel, by decide +kernel⟩, xws_one rfl (tb7 _ (List.mem_of_getElem? (i := 225) rfl)) rfl, tb1 _ (List.mem_of_getElem? (i := 10) rfl), by decide +kernel⟩
theorem pl_X10_counts : xPl m_X10_counts 2 := ⟨by decide +kernel, ⟨by decide +kernel, by decide +kernel, by decide +kernel⟩, xws_one rfl (tb7 _ (List.mem_of_getElem? (i := 233) rfl)) rfl, tb1 _ (List.mem_of_getElem? (i := 10) rfl), by decide +kernel⟩
theorem pl_X10_edgeWays : xPl m_X10_edgeWays 3 := ⟨by decide +kernel, ⟨by decide +kernel, by decide +kernel, by decide +kernel⟩, xws_one rfl (tb7 _ (List.mem_of_getElem? (i := 229) rfl)) rfl, tb1 _ (List.mem_of_getElem? (i := 10) rfl), by decide +kernel⟩
theorem pl_X10_direct : xPl m_X10_direct 3 := ⟨by decide +kernel, ⟨by decide +kernel, by decide +kernel, by decide +kernel⟩, xws_one rfl (tb8 _ (List.mem_of_getElem? (i := 1) rfl)) rfl, tb1 _ (List.mem_of_getElem? (i := 10) rfl), by decide +kernel⟩
theorem pl_X10_leads : xPl m_X10_leads 4 := ⟨by decide +kernel, ⟨by decide +kernel, by decide +kernel, by decide +kernel⟩, xws_one rfl (tb8 _ (List.mem_of_getElem? (i := 9) rfl)) rfl, tb1 _ (List.mem_of_getElem? (i := 10) rfl), by decide +kernel⟩
theorem pl_X10_parting : xPl m_X10_parting 3 := ⟨by decide +kernel, ⟨by decide +kernel, by decide +kernel, by decide +kernel⟩, xws_one rfl (tb8 _ (List.mem_of_getElem? (i := 5) rfl)) rfl, tb1 _ (List.mem_of_getElem? (i := 10) rfl), by decide +kernel⟩
theorem pl_X10_cornerWays : xPl m_X10_cornerWays 3 := ⟨by decide +kernel, ⟨by decide +kernel, by decide +kernel, by decide +kernel⟩, xws_one rfl (tb7 _ (List.mem_of_getElem? (i := 237) rfl)) rfl, tb1 _ (List.mem_of_getElem? (i := 10) rfl), by decide +kernel⟩
theorem pl_X10_apart : xPl m_X10_apart 3 := ⟨by decide +kernel, ⟨by decide +kernel, by decide +kernel, by decide +kernel⟩, xws_one rfl (tb8 _ (List.mem_of_getElem? (i := 16) rfl)) rfl, tb1 _ (List.mem_of_getElem? (i := 10) rfl), by decide +kernel⟩
theorem pl_X10_wider : xPl m_X10_wider 4 := ⟨by decide +kernel, ⟨by decide +kernel, by decide +kernel, by decide +kernel⟩, xws_one rfl (tb8 _ (List.mem_of_getElem? (i := 20) rfl)) rfl, tb1 _ (List.mem_of_getElem? (i := 10) rfl), by decide +kernel⟩
theorem pl_X10_without : xPl m_X10_without 4 := ⟨by decide +kernel, ⟨by decide +kernel, by decide +kernel, by decide +kernel⟩, xws_one rfl (tb8 _ (List.mem_of_getElem? (i := 24) rfl)) rfl, tb1 _ (List.mem_of_getElem? (i := 10) rfl), by decide +kernel⟩
theorem pl_X10_supplies : xPl m_X10_supplies 2 := ⟨by decide +kernel, ⟨by decide +kernel, by decide +kernel, by decide +kernel⟩, xws_one rfl (tb8 _ (List.mem_of_getElem? (i := 36) rfl)) rfl, tb1 _ (List.mem_of_getElem? (i := 10) rfl), by decide +kernel⟩
theorem pl_X10_breaking : xPl m_X10_breaking 1 := ⟨by decide +kernel, ⟨by decide +kernel, by decide +kernel, by decide +kernel⟩, xws_one rfl (tb8 _ (List.mem_of_getElem? (i := 32) rfl)) rfl, tb1 _ (List.mem_of_getElem? (i := 10) rfl), by decide +kernel⟩
theorem pl_X10_holds : xPl m_X10_holds 1 := ⟨by decide +kernel, ⟨by decide +kernel, by decide +kernel, by decide +kernel⟩, xws_one rfl (tb8 _ (List.mem_of_getElem? (i := 28) rfl)) rfl, tb1 _ (List.mem_of_getElem? (i := 10) rfl), by decide +kernel⟩
theorem pl_X10_leastMeeting : xPl m_X10_leastMeeting 2 := ⟨by decide +kernel, ⟨by decide +kernel, by decide +kernel, by decide +kernel⟩, xws_one rfl (tb8 _ (List.mem_of_getElem? (i := 44) rfl)) rfl, tb1 _ (List.mem_of_getElem? (i := 10) rfl), by decide +kernel⟩
theorem pl_X10_meets : xPl m_X10_meets 2 := ⟨by decide +kernel, ⟨by decide +kernel, by decide +kernel, by decide +kernel⟩, xws_one rfl (tb8 _ (List.mem_of_getElem? (i := 40) rfl)) rfl, tb1 _ (List.mem_of_getElem? (i := 10) rfl), by decide +kernel⟩
theorem pl_X10_breaks : xPl m_X10_breaks 1 := ⟨by decide +kernel, ⟨by decide +kernel, by decide +kernel, by decide +kernel⟩, xws_one rfl (tb8 _ (List.mem_of_getElem? (i := 48) rfl)) rfl, tb1 _ (List.mem_of_getElem? (i := 10) rfl), by decide +kernel⟩
theorem pl_X10_bothWays : xPl m_X10_bothWays 2 := ⟨by decide +kernel, ⟨by decide +kernel, by decide +kernel, by decide +kernel⟩, xws_one rfl (tb8 _ (List.mem_of_getElem? (i := 65) rfl)) rfl, tb1 _ (List.mem_of_getElem? (i := 10) rfl), by decide +kernel⟩
theorem pl_X10_leastBetween : xPl m_X10_leastBetween 3 := ⟨by decide +kernel, ⟨by decide +kernel, by decide +kernel, by decide +kernel⟩, xws_one rfl (tb8 _ (List.mem_of_getElem? (i := 60) rfl)) rfl, tb1 _ (List.mem_of_getElem? (i := 10) rfl), by decide +kernel⟩
theorem pl_X10_grows : xPl m_X10_grows 1 := ⟨by decide +kernel, ⟨by decide +kernel, by decide +kernel, by decide +kernel⟩, xws_one rfl (tb8 _ (List.mem_of_getElem? (i := 56) rfl)) rfl, tb1 _ (List.mem_of_getElem? (i := 10) rfl), by decide +kernel⟩
theorem pl_X10_parent : xPl m_X10_parent 2 := ⟨by decide +kernel, ⟨by decide +kernel, by decide +kernel, by decide +kernel⟩, xws_one rfl (tb8 _ (List.mem_of_getElem? (i := 52) rfl)) rfl, tb1 _ (List.mem_of_getElem? (i := 10) rfl), by decide +kernel⟩
theorem pl_X10_between : xPl m_X10_between 3 := ⟨by decide +kernel, ⟨by decide +kernel, by decide +kernel, by decide +kernel⟩, xws_one rfl (tb8 _ (List.mem_of_getElem? (i := 69) rfl)) rfl, tb1 _ (List.mem_of_getElem? (i := 10) rfl), by decide +kernel⟩
theorem pl_X10_inSteps : xPl m_X10_inSteps 4 := ⟨by decide +kernel, ⟨by decide +kernel, by decide +kernel, by decide +kernel⟩, xws_one rfl (tb8 _ (List.mem_of_getElem? (i := 73) rfl)) rfl, tb1 _ (List.mem_of_getElem? (i := 10) rfl), by decide +kernel⟩
theorem pl_X10_parted : xPl m_X10_parted 4 := ⟨by decide +kernel, ⟨by decide +kernel, by decide +kernel, by decide +kernel⟩, xws_one rfl (tb8 _ (List.mem_of_getElem? (i := 77) rfl)) rfl, tb1 _ (List.mem_of_getElem? (i := 10) rfl), by decide +kernel⟩
theorem pl_X10_lost : xPl m_X10_lost 3 := ⟨by decide +kernel, ⟨by decide +kernel, by decide +kernel, by decide +kernel⟩, xws_one rfl (tb8 _ (List.mem_of_getElem? (i := 82) rfl)) rfl, tb1 _ (List.mem_of_getElem? (i := 10) rfl), by decide +kernel⟩
theorem pl_X10_likes : xPl m_X10_likes 2 := ⟨by decide +kernel, ⟨by decide +kernel, by decide +kernel, by decide +kernel⟩, xws_one rfl (tb8 _ (List.mem_of_getElem? (i := 86) rfl)) rfl, tb1 _ (List.mem_of_getElem? (i := 10) rfl), by decide +kernel⟩
theorem pl_X10_likedBy : xPl m_X10_likedBy 2 := ⟨by decide +kernel, ⟨by decide +kernel, by decide +kernel, by decide +kernel⟩, xws_one rfl (tb8 _ (List.mem_of_getElem? (i := 98) rfl)) rfl, tb1 _ (List.mem_of_getElem? (i := 10) rfl), by decide +kernel⟩
theorem pl_X10_pairsOf : xPl m_X10_pairsOf 2 := ⟨by decide +kernel, ⟨by decide +kernel, by decide +kernel, by decide +kernel⟩, xws_one rfl (tb8 _ (List.mem_of_getElem? (i := 94) rfl)) rfl, tb1 _ (List.mem_of_getElem? (i := 10) rfl), by decide +kernel⟩
theorem pl_X10_pairs : xPl m_X10_pairs 0 := ⟨by decide +kernel, ⟨by decide +kernel, by decide +kernel, by decide +kernel⟩, xws_one rfl (tb8 _ (List.mem_of_getElem? (i := 90) rfl)) rfl, tb1 _ (List.mem_of_getElem? (i := 10) rfl), by decide +kernel⟩
theorem pl_X10_pairOf : xPl m_X10_pairOf 1 := ⟨by decide +kernel, ⟨by decide +kernel, by decide +kernel, by decide +kernel⟩, xws_one rfl (tb8 _ (List.mem_of_getElem? (i := 102) rfl)) rfl, tb1 _ (List.mem_of_getElem? (i := 10) rfl), by decide +kernel⟩
theorem pl_X10_cover : xPl m_X10_cover 1 := ⟨by decide +kernel, ⟨by decide +kernel, by decide +kernel, by decide +kernel⟩, xws_one rfl (tb8 _ (List.mem_of_getElem? (i := 106) rfl)) rfl, tb1 _ (List.mem_of_getElem? (i := 10) rfl), by decide +kernel⟩
theorem pl_X10_crowdOfLeft : xPl m_X10_crowdOfLeft 0 := ⟨by decide +kernel, ⟨by decide +kernel, by decide +kernel, by decide +kernel⟩, xws_one rfl (tb8 _ (List.mem_of_getElem? (i := 110) rfl)) rfl, tb1 _ (List.mem_of_getElem? (i := 10) rfl), by decide +kernel⟩
theorem pl_X10_team : xPl m_X10_team 1 := ⟨by decide +kernel, ⟨by decide +kernel, by decide +kernel, by decide +kernel⟩, xws_one rfl (tb8 _ (List.mem_of_getElem? (i := 114) rfl)) rfl, tb1 _ (List.mem_of_getElem? (i := 10) rfl), by decide +kernel⟩
theorem pl_X10_games : xPl m_X10_games 3 := ⟨by decide +kernel, ⟨by decide +kernel, by decide +kernel, by decide +kernel⟩, xws_one rfl (tb8 _ (List.mem_of_getElem? (i := 118) rfl)) rfl, tb1 _ (List.mem_of_getElem? (i := 10) rfl), by decide +kernel⟩
theorem pl_X10_winsOf : xPl m_X10_winsOf 1 := ⟨by decide +kernel, ⟨by decide +kernel, by decide +kernel, by decide +kernel⟩, xws_one rfl (tb8 _ (List.mem_of_getElem? (i := 130) rfl)) rfl, tb1 _ (List.mem_of_getElem? (i := 10) rfl), by decide +kernel⟩
theorem pl_X10_proofAgainst : xPl m_X10_proofAgainst 1 := ⟨by decide +kernel, ⟨by decide +kernel, by decide +kernel, by decide +kernel⟩, xws_one rfl (tb8 _ (List.mem_of_getElem? (i := 126) rfl)) rfl, tb1 _ (List.mem_of_getElem? (i := 10) rfl), by decide +kernel⟩
theorem pl_X10_canWin : xPl m_X10_canWin 1 := ⟨by decide +kernel, ⟨by decide +kernel, by decide +kernel, by decide +kernel⟩, xws_one rfl (tb8 _ (List.mem_of_getElem? (i := 122) rfl)) rfl, tb1 _ (List.mem_of_getElem? (i := 10) rfl), by decide +kernel⟩
theorem pl_X10_against : xPl m_X10_against 1 := ⟨by decide +kernel, ⟨by decide +kernel, by decide +kernel, by decide +kernel⟩, xws_one rfl (tb8 _ (List.mem_of_getElem? (i := 134) rfl)) rfl, tb1 _ (List.mem_of_getElem? (i := 10) rfl), by decide +kernel⟩
theorem pl_X10_table : xPl m_X10_table 2 := ⟨by decide +kernel, ⟨by decide +kernel, by decide +kernel, by decide +kernel⟩, xws_one rfl (tb8 _ (List.mem_of_getElem? (i := 138) rfl)) rfl, tb1 _ (List.mem_of_getElem? (i := 10) rfl), by decide +kernel⟩
theorem pl_X10_tell : xPl m_X10_tell 3 := ⟨by decide +kernel, ⟨by decide +kernel, by decide +kernel, by decide +kernel⟩, xws_one rfl (tb8 _ (List.mem_of_getElem? (i := 142) rfl)) rfl, tb1 _ (List.mem_of_getElem? (i := 10) rfl), by decide +kernel⟩
theorem pl_X10_isNear : xPl m_X10_isNear 2 := ⟨by decide +kernel, ⟨by decide +kernel, by decide +kernel, by decide +kernel⟩, xws_one rfl (tb8 _ (List.mem_of_getElem? (i := 161) rfl)) rfl, tb1 _ (List.mem_of_getElem? (i := 10) rfl), by decide +kernel⟩
theorem pl_X10_isRowNear : xPl m_X10_isRowNear 1 := ⟨by decide +kernel, ⟨by decide +kernel, by decide +kernel, by decide +kernel⟩, xws_one rfl (tb8 _ (List.mem_of_getElem? (i := 158) rfl)) rfl, tb1 _ (List.mem_of_getElem? (i := 10) rfl), by decide +kernel⟩
theorem pl_X10_isColumnNear : xPl m_X10_isColumnNear 1 := ⟨by decide +kernel, ⟨by decide +kernel, by decide +kernel, by decide +kernel⟩, xws_one rfl (tb8 _ (List.mem_of_getElem? (i := 165) rfl)) rfl, tb1 _ (List.mem_of_getElem? (i := 10) rfl), by decide +kernel⟩
theorem pl_X10_areAllNear : xPl m_X10_areAllNear 0 := ⟨by decide +kernel, ⟨by decide +kernel, by decide +kernel, by decide +kernel⟩, xws_one rfl (tb8 _ (List.mem_of_getElem? (i := 169) rfl)) rfl, tb1 _ (List.mem_of_getElem? (i := 10) rfl), by decide +kernel⟩
theorem pl_X10_areNear : xPl m_X10_areNear 1 := ⟨by decide +kernel, ⟨by decide +kernel, by decide +kernel, by decide +kernel⟩, xws_one rfl (tb8 _ (List.mem_of_getElem? (i := 154) rfl)) rfl, tb1 _ (List.mem_of_getElem? (i := 10) rfl), by decide +kernel⟩
theorem pl_X10_roundsAll : xPl m_X10_roundsAll 0 := ⟨by decide +kernel, ⟨by decide +kernel, by decide +kernel, by decide +kernel⟩, xws_one rfl (tb8 _ (List.mem_of_getElem? (i := 150) rfl)) rfl, tb1 _ (List.mem_of_getElem? (i := 10) rfl), by decide +kernel⟩
theorem pl_X10_rounded : xPl m_X10_rounded 2 := ⟨by decide +kernel, ⟨by decide +kernel, by decide +kernel, by decide +kernel⟩, xws_one rfl (tb8 _ (List.mem_of_getElem? (i := 146) rfl)) rfl, tb1 _ (List.mem_of_getElem? (i := 10) rfl), by decide +kernel⟩
theorem pl_X10_project : xPl m_X10_project 2 := ⟨by decide +kernel, ⟨by decide +kernel, by decide +kernel, by decide +kernel⟩, xws_one rfl (tb8 _ (List.mem_of_getElem? (i := 173) rfl)) rfl, tb1 _ (List.mem_of_getElem? (i := 10) rfl), by decide +kernel⟩
theorem pl_X10_toolCost : xPl m_X10_toolCost 2 := ⟨by decide +kernel, ⟨by decide +kernel, by decide +kernel, by decide +kernel⟩, xws_one rfl (tb8 _ (List.mem_of_getElem? (i := 177) rfl)) rfl, tb1 _ (List.mem_of_getElem? (i := 10) rfl), by decide +kernel⟩
theorem pl_X10_worthOf : xPl m_X10_worthOf 1 := ⟨by decide +kernel, ⟨by decide +kernel, by decide +kernel, by decide +kernel⟩, xws_one rfl (tb8 _ (List.mem_of_getElem? (i := 185) rfl)) rfl, tb1 _ (List.mem_of_getElem? (i := 10) rfl), by decide +kernel⟩
theorem pl_X10_best : xPl m_X10_best 0 := ⟨by decide +kernel, ⟨by decide +kernel, by decide +kernel, by decide +kernel⟩, xws_one rfl (tb8 _ (List.mem_of_getElem? (i := 181) rfl)) rfl, tb1 _ (List.mem_of_getElem? (i := 10) rfl), by decide +kernel⟩
theorem pl_X10_chosen : xPl m_X10_chosen 1 := ⟨by decide +kernel, ⟨by decide +kernel, by decide +kernel, by decide +kernel⟩, xws_one rfl (tb8 _ (List.mem_of_getElem? (i := 189) rfl)) rfl, tb1 _ (List.mem_of_getElem? (i := 10) rfl), by decide +kernel⟩
theorem pl_X10_checksum : xPl m_X10_checksum 1 := ⟨by decide +kernel, ⟨by decide +kernel, by decide +kernel, by decide +kernel⟩, xws_one rfl (tb8 _ (List.mem_of_getElem? (i := 194) rfl)) rfl, tb1 _ (List.mem_of_getElem? (i := 10) rfl), by decide +kernel⟩
theorem pl_X10_fullShare : xPl m_X10_fullShare 3 := ⟨by decide +kernel, ⟨by decide +kernel, by decide +kernel, by decide +kernel⟩, xws_one rfl (tb8 _ (List.mem_of_getElem? (i := 200) rfl)) rfl, tb1 _ (List.mem_of_getElem? (i := 10) rfl), by decide +kernel⟩
theorem pl_X10_meanFlow : xPl m_X10_meanFlow 3 := ⟨by decide +kernel, ⟨by decide +kernel, by decide +kernel, by decide +kernel⟩, xws_one rfl (tb8 _ (List.mem_of_getElem? (i := 204) rfl)) rfl, tb1 _ (List.mem_of_getElem? (i := 10) rfl), by decide +kernel⟩
theorem pl_X10_isSound : xPl m_X10_isSound 0 := ⟨by decide +kernel, ⟨by decide +kernel, by decide +kernel, by decide +kernel⟩, xws_one rfl (tb8 _ (List.mem_of_getElem? (i := 208) rfl)) rfl, tb1 _ (List.mem_of_getElem? (i := 10) rfl), by decide +kernel⟩
theorem pl_J6_bitCount_0f7a4 : xPl m_J6_bitCount_0f7a4 1 := ⟨by decide +kernel, ⟨by decide +kernel, by decide +kernel, by decide +kernel⟩, xws_one rfl (tb2 _ (List.mem_of_getElem? (i := 62) rfl)) rfl, tb1 _ (List.mem_of_getElem? (i := 20) rfl), by decide +kernel⟩
theorem pl_L_net : xPl m_L_net 3 := ⟨by decide +kernel, ⟨by decide +kernel, by decide +kernel, by decide +kernel⟩, xws_one rfl (tb3 _ (List.mem_of_getElem? (i := 131) rfl)) rfl, tb1 _ (List.mem_of_getElem? (i := 0) rfl), by decide +kernel⟩
theorem pl_L_edge : xPl m_L_edge 8 := ⟨by decide +kernel, ⟨by decide +kernel, by decide +kernel, by decide +kernel⟩, xws_one rfl (tb4 _ (List.mem_of_getElem? (i := 37) rfl)) rfl, tb1 _ (List.mem_of_getElem? (i := 0) rfl), by decide +kernel⟩
theorem pl_L_change : xPl m_L_change 7 := ⟨by decide +kernel, ⟨by decide +kernel, by decide +kernel, by decide +kernel⟩, xws_one rfl (tb4 _ (List.mem_of_getElem? (i := 82) rfl)) rfl, tb1 _ (List.mem_of_getElem? (i := 0) rfl), by decide +kernel⟩
theorem pl_L_drop : xPl m_L_drop 4 := ⟨by decide +kernel, ⟨by decide +kernel, by decide +kernel, by decide +kernel⟩, xws_one rfl (tb4 _ (List.mem_of_getElem? (i := 94) rfl)) rfl, tb1 _ (List.mem_of_getElem? (i := 0) rfl), by decide +kernel⟩
theorem pl_L_edges : xPl m_L_edges 3 := ⟨by decide +kernel, ⟨by decide +kernel, by decide +kernel, by decide +kernel⟩, xws_one rfl (tb4 _ (List.mem_of_getElem? (i := 105) rfl)) rfl, tb1 _ (List.mem_of_getElem? (i := 0) rfl), by decide +kernel⟩
theorem pl_L_supply : xPl m_L_supply 5 := ⟨by decide +kernel, ⟨by decide +kernel, by decide +kernel, by decide +kernel⟩, xws_one rfl (tb4 _ (List.mem_of_getElem? (i := 112) rfl)) rfl, tb1 _ (List.mem_of_getElem? (i := 0) rfl), by decide +kernel⟩
theorem pl_L_most : xPl m_L_most 5 := ⟨by decide +kernel, ⟨by decide +kernel, by decide +kernel, by decide +kernel⟩, xws_one rfl (tb4 _ (List.mem_of_getElem? (i := 124) rfl)) rfl, tb1 _ (List.mem_of_getElem? (i := 0) rfl), by decide +kernel⟩
theorem pl_L_flow : xPl m_L_flow 6 := ⟨by decide +kernel, ⟨by decide +kernel, by decide +kernel, by decide +kernel⟩, xws_one rfl (tb4 _ (List.mem_of_getElem? (i := 155) rfl)) rfl, tb1 _ (List.mem_of_getElem? (i := 0) rfl), by decide +kernel⟩
theorem pl_L_crowd : xPl m_L_crowd 5 := ⟨by decide +kernel, ⟨by decide +kernel, by decide +kernel, by decide +kernel⟩, xws_one rfl (tb4 _ (List.mem_of_getElem? (i := 167) rfl)) rfl, tb1 _ (List.mem_of_getElem? (i := 0) rfl), by decide +kernel⟩
theorem pl_L_cut : xPl m_L_cut 6 := ⟨by decide +kernel, ⟨by decide +kernel, by decide +kernel, by decide +kernel⟩, xws_one rfl (tb4 _ (List.mem_of_getElem? (i := 175) rfl)) rfl, tb1 _ (List.mem_of_getElem? (i := 0) rfl), by decide +kernel⟩
theorem pl_L_cutSum : xPl m_L_cutSum 6 := ⟨by decide +kernel, ⟨by decide +kernel, by decide +kernel, by decide +kernel⟩, xws_one rfl (tb4 _ (List.mem_of_getElem? (i := 182) rfl)) rfl, tb1 _ (List.mem_of_getElem? (i := 0) rfl), by decide +kernel⟩
theorem pl_L_cuts : xPl m_L_cuts 5 := ⟨by decide +kernel, ⟨by decide +kernel, by decide +kernel, by decide +kernel⟩, xws_one rfl (tb4 _ (List.mem_of_getElem? (i := 191) rfl)) rfl, tb1 _ (List.mem_of_getElem? (i := 0) rfl), by decide +kernel⟩
theorem pl_L_isFull : xPl m_L_isFull 6 := ⟨by decide +kernel, ⟨by decide +kernel, by decide +kernel, by decide +kernel⟩, xws_one rfl (tb4 _ (List.mem_of_getElem? (i := 198) rfl)) rfl, tb1 _ (List.mem_of_getElem? (i := 0) rfl), by decide +kernel⟩
theorem pl_L_rounds : xPl m_L_rounds 5 := ⟨by decide +kernel, ⟨by decide +kernel, by decide +kernel, by decide +kernel⟩, xws_one rfl (tb4 _ (List.mem_of_getElem? (i := 209) rfl)) rfl, tb1 _ (List.mem_of_getElem? (i := 0) rfl), by decide +kernel⟩
theorem pl_L_roundAmount : xPl m_L_roundAmount 6 := ⟨by decide +kernel, ⟨by decide +kernel, by decide +kernel, by decide +kernel⟩, xws_one rfl (tb4 _ (List.mem_of_getElem? (i := 236) rfl)) rfl, tb1 _ (List.mem_of_getElem? (i := 0) rfl), by decide +kernel⟩
theorem pl_L_roundSign : xPl m_L_roundSign 7 := ⟨by decide +kernel, ⟨by decide +kernel, by decide +kernel, by decide +kernel⟩, xws_one rfl (tb5 _ (List.mem_of_getElem? (i := 8) rfl)) rfl, tb1 _ (List.mem_of_getElem? (i := 0) rfl), by decide +kernel⟩
theorem pl_L_cost : xPl m_L_cost 5 := ⟨by decide +kernel, ⟨by decide +kernel, by decide +kernel, by decide +kernel⟩, xws_one rfl (tb5 _ (List.mem_of_getElem? (i := 24) rfl)) rfl, tb1 _ (List.mem_of_getElem? (i := 0) rfl), by decide +kernel⟩
theorem pl_L_cheapest : xPl m_L_cheapest 6 := ⟨by decide +kernel, ⟨by decide +kernel, by decide +kernel, by decide +kernel⟩, xws_one rfl (tb5 _ (List.mem_of_getElem? (i := 43) rfl)) rfl, tb1 _ (List.mem_of_getElem? (i := 0) rfl), by decide +kernel⟩
theorem pl_L_price : xPl m_L_price 6 := ⟨by decide +kernel, ⟨by decide +kernel, by decide +kernel, by decide +kernel⟩, xws_one rfl (tb5 _ (List.mem_of_getElem? (i := 50) rfl)) rfl, tb1 _ (List.mem_of_getElem? (i := 0) rfl), by decide +kernel⟩
theorem pl_L_edgeWays : xPl m_L_edgeWays 5 := ⟨by decide +kernel, ⟨by decide +kernel, by decide +kernel, by decide +kernel⟩, xws_one rfl (tb5 _ (List.mem_of_getElem? (i := 63) rfl)) rfl, tb1 _ (List.mem_of_getElem? (i := 0) rfl), by decide +kernel⟩
theorem pl_L_cornerWays : xPl m_L_cornerWays 5 := ⟨by decide +kernel, ⟨by decide +kernel, by decide +kernel, by decide +kernel⟩, xws_one rfl (tb5 _ (List.mem_of_getElem? (i := 74) rfl)) rfl, tb1 _ (List.mem_of_getElem? (i := 0) rfl), by decide +kernel⟩
theorem pl_L_apart : xPl m_L_apart 5 := ⟨by decide +kernel, ⟨by decide +kernel, by decide +kernel, by decide +kernel⟩, xws_one rfl (tb5 _ (List.mem_of_getElem? (i := 85) rfl)) rfl, tb1 _ (List.mem_of_getElem? (i := 0) rfl), by decide +kernel⟩
theorem pl_L_wider : xPl m_L_wider 6 := ⟨by decide +kernel, ⟨by decide +kernel, by decide +kernel, by decide +kernel⟩, xws_one rfl (tb5 _ (List.mem_of_getElem? (i := 107) rfl)) rfl, tb1 _ (List.mem_of_getElem? (i := 0) rfl), by decide +kernel⟩
theorem pl_L_without : xPl m_L_without 6 := ⟨by decide +kernel, ⟨by decide +kernel, by decide +kernel, by decide +kernel⟩, xws_one rfl (tb5 _ (List.mem_of_getElem? (i := 119) rfl)) rfl, tb1 _ (List.mem_of_getElem? (i := 0) rfl), by decide +kernel⟩
theorem pl_L_holds : xPl m_L_holds 3 := ⟨by decide +kernel, ⟨by decide +kernel, by decide +kernel, by decide +kernel⟩, xws_one rfl (tb5 _ (List.mem_of_getElem? (i := 126) rfl)) rfl, tb1 _ (List.mem_of_getElem? (i := 0) rfl), by decide +kernel⟩
theorem pl_L_meets : xPl m_L_meets 4 := ⟨by decide +kernel, ⟨by decide +kernel, by decide +kernel, by decide +kernel⟩, xws_one rfl (tb5 _ (List.mem_of_getElem? (i := 137) rfl)) rfl, tb1 _ (List.mem_of_getElem? (i := 0) rfl), by decide +kernel⟩
theorem pl_L_breaks : xPl m_L_breaks 3 := ⟨by decide +kernel, ⟨by decide +kernel, by decide +kernel, by decide +kernel⟩, xws_one rfl (tb5 _ (List.mem_of_getElem? (i := 145) rfl)) rfl, tb1 _ (List.mem_of_getElem? (i := 0) rfl), by decide +kernel⟩
theorem pl_L_parent : xPl m_L_parent 4 := ⟨by decide +kernel, ⟨by decide +kernel, by decide +kernel, by decide +kernel⟩, xws_one rfl (tb5 _ (List.mem_of_getElem? (i := 161) rfl)) rfl, tb1 _ (List.mem_of_getElem? (i := 0) rfl), by decide +kernel⟩
theorem pl_L_between : xPl m_L_between 5 := ⟨by decide +kernel, ⟨by decide +kernel, by decide +kernel, by decide +kernel⟩, xws_one rfl (tb5 _ (List.mem_of_getElem? (i := 169) rfl)) rfl, tb1 _ (List.mem_of_getElem? (i := 0) rfl), by decide +kernel⟩
theorem pl_L_inSteps : xPl m_L_inSteps 6 := ⟨by decide +kernel, ⟨by decide +kernel, by decide +kernel, by decide +kernel⟩, xws_one rfl (tb5 _ (List.mem_of_getElem? (i := 176) rfl)) rfl, tb1 _ (List.mem_of_getElem? (i := 0) rfl), by decide +kernel⟩
theorem pl_L_likes : xPl m_L_likes 4 := ⟨by decide +kernel, ⟨by decide +kernel, by decide +kernel, by decide +kernel⟩, xws_one rfl (tb5 _ (List.mem_of_getElem? (i := 188) rfl)) rfl, tb1 _ (List.mem_of_getElem? (i := 0) rfl), by decide +kernel⟩
theorem pl_L_pairOf : xPl m_L_pairOf 3 := ⟨by decide +kernel, ⟨by decide +kernel, by decide +kernel, by decide +kernel⟩, xws_one rfl (tb5 _ (List.mem_of_getElem? (i := 200) rfl)) rfl, tb1 _ (List.mem_of_getElem? (i := 0) rfl), by decide +kernel⟩
theorem pl_L_crowdOfLeft : xPl m_L_crowdOfLeft 2 := ⟨by decide +kernel, ⟨by decide +kernel, by decide +kernel, by decide +kernel⟩, xws_one rfl (tb5 _ (List.mem_of_getElem? (i := 208) rfl)) rfl, tb1 _ (List.mem_of_getElem? (i := 0) rfl), by decide +kernel⟩
theorem pl_L_team : xPl m_L_team 3 := ⟨by decide +kernel, ⟨by decide +kernel, by decide +kernel, by decide +kernel⟩, xws_one rfl (tb5 _ (List.mem_of_getElem? (i := 220) rfl)) rfl, tb1 _ (List.mem_of_getElem? (i := 0) rfl), by decide +kernel⟩
theorem pl_L_games : xPl m_L_games 5 := ⟨by decide +kernel, ⟨by decide +kernel, by decide +kernel, by decide +kernel⟩, xws_one rfl (tb5 _ (List.mem_of_getElem? (i := 233) rfl)) rfl, tb1 _ (List.mem_of_getElem? (i := 0) rfl), by decide +kernel⟩
theorem pl_L_canWin : xPl m_L_canWin 3 := ⟨by decide +kernel, ⟨by decide +kernel, by decide +kernel, by decide +kernel⟩, xws_one rfl (tb6 _ (List.mem_of_getElem? (i := 15) rfl)) rfl, tb1 _ (List.mem_of_getElem? (i := 0) rfl), by decide +kernel⟩
theorem pl_L_against : xPl m_L_against 3 := ⟨by decide +kernel, ⟨by decide +kernel, by decide +kernel, by decide +kernel⟩, xws_one rfl (tb6 _ (List.mem_of_getElem? (i := 33) rfl)) rfl, tb1 _ (List.mem_of_getElem? (i := 0) rfl), by decide +kernel⟩
theorem pl_L_table : xPl m_L_table 4 := ⟨by decide +kernel, ⟨by decide +kernel, by decide +kernel, by decide +kernel⟩, xws_one rfl (tb6 _ (List.mem_of_getElem? (i := 41) rfl)) rfl, tb1 _ (List.mem_of_getElem? (i := 0) rfl), by decide +kernel⟩
theorem pl_L_tell : xPl m_L_tell 5 := ⟨by decide +kernel, ⟨by decide +kernel, by decide +kernel, by decide +kernel⟩, xws_one rfl (tb6 _ (List.mem_of_getElem? (i := 53) rfl)) rfl, tb1 _ (List.mem_of_getElem? (i := 0) rfl), by decide +kernel⟩
theorem pl_L_rounded : xPl m_L_rounded 4 := ⟨by decide +kernel, ⟨by decide +kernel, by decide +kernel, by decide +kernel⟩, xws_one rfl (tb6 _ (List.mem_of_getElem? (i := 67) rfl)) rfl, tb1 _ (List.mem_of_getElem? (i := 0) rfl), by decide +kernel⟩
theorem pl_L_project : xPl m_L_project 4 := ⟨by decide +kernel, ⟨by decide +kernel, by decide +kernel, by decide +kernel⟩, xws_one rfl (tb6 _ (List.mem_of_getElem? (i := 74) rfl)) rfl, tb1 _ (List.mem_of_getElem? (i := 0) rfl), by decide +kernel⟩
theorem pl_L_toolCost : xPl m_L_toolCost 4 := ⟨by decide +kernel, ⟨by decide +kernel, by decide +kernel, by decide +kernel⟩, xws_one rfl (tb6 _ (List.mem_of_getElem? (i := 87) rfl)) rfl, tb1 _ (List.mem_of_getElem? (i := 0) rfl), by decide +kernel⟩
theorem pl_L_checksum : xPl m_L_checksum 3 := ⟨by decide +kernel, ⟨by decide +kernel, by decide +kernel, by decide +kernel⟩, xws_one rfl (tb6 _ (List.mem_of_getElem? (i := 96) rfl)) rfl, tb1 _ (List.mem_of_getElem? (i := 0) rfl), by decide +kernel⟩
theorem pl_L_fullShare : xPl m_L_fullShare 5 := ⟨by decide +kernel, ⟨by decide +kernel, by decide +kernel, by decide +kernel⟩, xws_one rfl (tb6 _ (List.mem_of_getElem? (i := 109) rfl)) rfl, tb1 _ (List.mem_of_getElem? (i := 0) rfl), by decide +kernel⟩
theorem pl_L_meanFlow : xPl m_L_meanFlow 5 := ⟨by decide +kernel, ⟨by decide +kernel, by decide +kernel, by decide +kernel⟩, xws_one rfl (tb6 _ (List.mem_of_getElem? (i := 120) rfl)) rfl, tb1 _ (List.mem_of_getElem? (i := 0) rfl), by decide +kernel⟩
theorem lk_RX9_83 : xLk RX9 (.invokevirtual 83) m_X9_netAt true := Or.inl ⟨_, rfl, rfl, rfl, tb4 _ (List.mem_of_getElem? (i := 45) rfl), tb0 _ (List.mem_of_getElem? (i := 19) rfl), Or.inl (tb4 _ (List.mem_of_getElem? (i := 43) rfl))⟩
theorem lk_RX9_87 : xLk RX9 (.invokestatic 87) m_X9_needEnds false := Or.inr (Or.inl ⟨_, rfl, rfl, tb4 _ (List.mem_of_getElem? (i := 64) rfl), Or.inl ⟨tb4 _ (List.mem_of_getElem? (i := 63) rfl), rfl⟩⟩)
theorem lk_RX9_91 : xLk RX9 (.invokestatic 91) m_X9_needNumbers false := Or.inr (Or.inl ⟨_, rfl, rfl, tb4 _ (List.mem_of_getElem? (i := 68) rfl), Or.inl ⟨tb4 _ (List.mem_of_getElem? (i := 67) rfl), rfl⟩⟩)
theorem lk_RX9_100 : xLk RX9 (.invokevirtual 100) m_X3_put true := Or.inl ⟨_, rfl, rfl, rfl, tb4 _ (List.mem_of_getElem? (i := 73) rfl), tb4 _ (List.mem_of_getElem? (i := 74) rfl), Or.inl (tb4 _ (List.mem_of_getElem? (i := 72) rfl))⟩
theorem lk_RX9_104 : xLk RX9 (.invokestatic 104) m_X9_needEdge false := Or.inr (Or.inl ⟨_, rfl, rfl, tb4 _ (List.mem_of_getElem? (i := 88) rfl), Or.inl ⟨tb4 _ (List.mem_of_getElem? (i := 87) rfl), rfl⟩⟩)
theorem lk_RX9_112 : xLk RX9 (.invokevirtual 112) m_X3_set true := Or.inl ⟨_, rfl, rfl, rfl, tb4 _ (List.mem_of_getElem? (i := 77) rfl), tb4 _ (List.mem_of_getElem? (i := 78) rfl), Or.inl (tb4 _ (List.mem_of_getElem? (i := 91) rfl))⟩
theorem lk_RX9_116 : xLk RX9 (.invokevirtual 116) m_X3_takeOut true := Or.inl ⟨_, rfl, rfl, rfl, tb4 _ (List.mem_of_getElem? (i := 100) rfl), tb4 _ (List.mem_of_getElem? (i := 101) rfl), Or.inl (tb4 _ (List.mem_of_getElem? (i := 99) rfl))⟩
theorem lk_RX9_119 : xLk RX9 (.invokestatic 119) m_X9_needCorner false := Or.inr (Or.inl ⟨_, rfl, rfl, tb4 _ (List.mem_of_getElem? (i := 118) rfl), Or.inl ⟨tb4 _ (List.mem_of_getElem? (i := 117) rfl), rfl⟩⟩)
theorem lk_RX9_127 : xLk RX9 (.invokevirtual 127) m_X9_greatestAmount true := Or.inl ⟨_, rfl, rfl, rfl, tb4 _ (List.mem_of_getElem? (i := 132) rfl), tb0 _ (List.mem_of_getElem? (i := 20) rfl), Or.inl (tb4 _ (List.mem_of_getElem? (i := 130) rfl))⟩
theorem lk_RX9_131 : xLk RX9 (.invokevirtual 131) m_X9_tellGreatest true := Or.inl ⟨_, rfl, rfl, rfl, tb4 _ (List.mem_of_getElem? (i := 162) rfl), tb0 _ (List.mem_of_getElem? (i := 21) rfl), Or.inl (tb4 _ (List.mem_of_getElem? (i := 160) rfl))⟩
theorem lk_RX9_134 : xLk RX9 (.invokevirtual 134) m_X6_numberOf true := Or.inl ⟨_, rfl, rfl, rfl, tb2 _ (List.mem_of_getElem? (i := 225) rfl), tb2 _ (List.mem_of_getElem? (i := 226) rfl), Or.inl (tb4 _ (List.mem_of_getElem? (i := 164) rfl))⟩
theorem lk_RX9_138 : xLk RX9 (.invokevirtual 138) m_X0_leastCrowd true := Or.inl ⟨_, rfl, rfl, rfl, tb2 _ (List.mem_of_getElem? (i := 181) rfl), tb2 _ (List.mem_of_getElem? (i := 182) rfl), Or.inl (tb2 _ (List.mem_of_getElem? (i := 180) rfl))⟩
theorem lk_RX9_146 : xLk RX9 (.invokevirtual 146) m_X0_findLeast true := Or.inl ⟨_, rfl, rfl, rfl, tb2 _ (List.mem_of_getElem? (i := 204) rfl), tb2 _ (List.mem_of_getElem? (i := 205) rfl), Or.inl (tb2 _ (List.mem_of_getElem? (i := 203) rfl))⟩
theorem lk_RX9_158 : xLk RX9 (.invokestatic 158) m_X9_hasOneOf false := Or.inr (Or.inl ⟨_, rfl, rfl, tb2 _ (List.mem_of_getElem? (i := 208) rfl), Or.inl ⟨tb4 _ (List.mem_of_getElem? (i := 187) rfl), rfl⟩⟩)
theorem lk_RX9_164 : xLk RX9 (.invokevirtual 164) m_X0_sumOfCut true := Or.inl ⟨_, rfl, rfl, rfl, tb2 _ (List.mem_of_getElem? (i := 211) rfl), tb2 _ (List.mem_of_getElem? (i := 212) rfl), Or.inl (tb2 _ (List.mem_of_getElem? (i := 218) rfl))⟩
theorem lk_RX9_171 : xLk RX9 (.invokevirtual 171) m_X6_leastOf true := Or.inl ⟨_, rfl, rfl, rfl, tb4 _ (List.mem_of_getElem? (i := 204) rfl), tb4 _ (List.mem_of_getElem? (i := 205) rfl), Or.inl (tb4 _ (List.mem_of_getElem? (i := 203) rfl))⟩
theorem lk_RX9_174 : xLk RX9 (.invokestatic 174) m_X9_needNoLeasts false := Or.inr (Or.inl ⟨_, rfl, rfl, tb4 _ (List.mem_of_getElem? (i := 216) rfl), Or.inl ⟨tb4 _ (List.mem_of_getElem? (i := 215) rfl), rfl⟩⟩)
theorem lk_RX9_178 : xLk RX9 (.invokevirtual 178) m_X6_goRounds true := Or.inl ⟨_, rfl, rfl, rfl, tb3 _ (List.mem_of_getElem? (i := 47) rfl), tb3 _ (List.mem_of_getElem? (i := 48) rfl), Or.inl (tb3 _ (List.mem_of_getElem? (i := 46) rfl))⟩
theorem lk_RX9_182 : xLk RX9 (.invokevirtual 182) m_X9_needRound true := Or.inl ⟨_, rfl, rfl, rfl, tb5 _ (List.mem_of_getElem? (i := 3) rfl), tb0 _ (List.mem_of_getElem? (i := 22) rfl), Or.inl (tb5 _ (List.mem_of_getElem? (i := 1) rfl))⟩
theorem lk_RX9_189 : xLk RX9 (.invokevirtual 189) m_X6_signAt true := Or.inl ⟨_, rfl, rfl, rfl, tb5 _ (List.mem_of_getElem? (i := 14) rfl), tb5 _ (List.mem_of_getElem? (i := 15) rfl), Or.inl (tb5 _ (List.mem_of_getElem? (i := 13) rfl))⟩
theorem lk_RX9_194 : xLk RX9 (.invokevirtual 194) m_X9_tellCheapest true := Or.inl ⟨_, rfl, rfl, rfl, tb5 _ (List.mem_of_getElem? (i := 31) rfl), tb0 _ (List.mem_of_getElem? (i := 23) rfl), Or.inl (tb5 _ (List.mem_of_getElem? (i := 29) rfl))⟩
theorem lk_RX9_197 : xLk RX9 (.invokevirtual 197) m_X6_costOf true := Or.inl ⟨_, rfl, rfl, rfl, tb5 _ (List.mem_of_getElem? (i := 34) rfl), tb5 _ (List.mem_of_getElem? (i := 35) rfl), Or.inl (tb5 _ (List.mem_of_getElem? (i := 33) rfl))⟩
theorem lk_RX9_200 : xLk RX9 (.invokevirtual 200) m_X6_setPrices true := Or.inl ⟨_, rfl, rfl, rfl, tb3 _ (List.mem_of_getElem? (i := 17) rfl), tb3 _ (List.mem_of_getElem? (i := 18) rfl), Or.inl (tb3 _ (List.mem_of_getElem? (i := 16) rfl))⟩
theorem lk_RX9_204 : xLk RX9 (.invokevirtual 204) m_X6_hasPrice true := Or.inl ⟨_, rfl, rfl, rfl, tb5 _ (List.mem_of_getElem? (i := 56) rfl), tb5 _ (List.mem_of_getElem? (i := 57) rfl), Or.inl (tb5 _ (List.mem_of_getElem? (i := 55) rfl))⟩
theorem lk_RX9_210 : xLk RX9 (.invokevirtual 210) m_X6_priceOf true := Or.inl ⟨_, rfl, rfl, rfl, tb3 _ (List.mem_of_getElem? (i := 30) rfl), tb3 _ (List.mem_of_getElem? (i := 31) rfl), Or.inl (tb5 _ (List.mem_of_getElem? (i := 60) rfl))⟩
theorem lk_RX9_213 : xLk RX9 (.invokevirtual 213) m_X6_waysByEdges true := Or.inl ⟨_, rfl, rfl, rfl, tb5 _ (List.mem_of_getElem? (i := 69) rfl), tb5 _ (List.mem_of_getElem? (i := 70) rfl), Or.inl (tb5 _ (List.mem_of_getElem? (i := 68) rfl))⟩
theorem lk_RX9_216 : xLk RX9 (.invokevirtual 216) m_X6_waysByCorners true := Or.inl ⟨_, rfl, rfl, rfl, tb5 _ (List.mem_of_getElem? (i := 80) rfl), tb5 _ (List.mem_of_getElem? (i := 81) rfl), Or.inl (tb5 _ (List.mem_of_getElem? (i := 79) rfl))⟩
theorem lk_RX9_219 : xLk RX9 (.invokevirtual 219) m_X3_leadsStraight true := Or.inl ⟨_, rfl, rfl, rfl, tb5 _ (List.mem_of_getElem? (i := 91) rfl), tb5 _ (List.mem_of_getElem? (i := 92) rfl), Or.inl (tb5 _ (List.mem_of_getElem? (i := 90) rfl))⟩
theorem lk_RX9_228 : xLk RX9 (.invokevirtual 228) m_X0_fewestApart true := Or.inl ⟨_, rfl, rfl, rfl, tb5 _ (List.mem_of_getElem? (i := 96) rfl), tb5 _ (List.mem_of_getElem? (i := 97) rfl), Or.inl (tb5 _ (List.mem_of_getElem? (i := 95) rfl))⟩
theorem lk_RX9_231 : xLk RX9 (.invokevirtual 231) m_X6_lay true := Or.inl ⟨_, rfl, rfl, rfl, tb2 _ (List.mem_of_getElem? (i := 107) rfl), tb2 _ (List.mem_of_getElem? (i := 108) rfl), Or.inl (tb2 _ (List.mem_of_getElem? (i := 106) rfl))⟩
theorem lk_RX9_237 : xLk RX9 (.invokevirtual 237) m_X6_setBounds true := Or.inl ⟨_, rfl, rfl, rfl, tb5 _ (List.mem_of_getElem? (i := 113) rfl), tb5 _ (List.mem_of_getElem? (i := 114) rfl), Or.inl (tb5 _ (List.mem_of_getElem? (i := 112) rfl))⟩
theorem lk_RX9_240 : xLk RX9 (.invokevirtual 240) m_X6_fill true := Or.inl ⟨_, rfl, rfl, rfl, tb2 _ (List.mem_of_getElem? (i := 137) rfl), tb2 _ (List.mem_of_getElem? (i := 138) rfl), Or.inl (tb2 _ (List.mem_of_getElem? (i := 136) rfl))⟩
theorem lk_RX9_244 : xLk RX9 (.invokestatic 244) m_X9_needFlow false := Or.inr (Or.inl ⟨_, rfl, rfl, tb4 _ (List.mem_of_getElem? (i := 135) rfl), Or.inl ⟨tb4 _ (List.mem_of_getElem? (i := 134) rfl), rfl⟩⟩)
theorem lk_RX9_248 : xLk RX9 (.invokevirtual 248) m_X6_meetDemands true := Or.inl ⟨_, rfl, rfl, rfl, tb5 _ (List.mem_of_getElem? (i := 132) rfl), tb5 _ (List.mem_of_getElem? (i := 133) rfl), Or.inl (tb5 _ (List.mem_of_getElem? (i := 131) rfl))⟩
theorem lk_RX9_254 : xLk RX9 (.invokevirtual 254) m_X6_tellLeastRow true := Or.inl ⟨_, rfl, rfl, rfl, tb2 _ (List.mem_of_getElem? (i := 196) rfl), tb2 _ (List.mem_of_getElem? (i := 197) rfl), Or.inl (tb2 _ (List.mem_of_getElem? (i := 195) rfl))⟩
theorem lk_RX9_257 : xLk RX9 (.invokevirtual 257) m_X0_leastBreaker true := Or.inl ⟨_, rfl, rfl, rfl, tb5 _ (List.mem_of_getElem? (i := 151) rfl), tb5 _ (List.mem_of_getElem? (i := 152) rfl), Or.inl (tb5 _ (List.mem_of_getElem? (i := 150) rfl))⟩
theorem lk_RX9_265 : xLk RX9 (.invokevirtual 265) m_X8_measure true := Or.inl ⟨_, rfl, rfl, rfl, tb3 _ (List.mem_of_getElem? (i := 56) rfl), tb3 _ (List.mem_of_getElem? (i := 57) rfl), Or.inl (tb3 _ (List.mem_of_getElem? (i := 55) rfl))⟩
theorem lk_RX9_269 : xLk RX9 (.invokevirtual 269) m_X8_grow true := Or.inl ⟨_, rfl, rfl, rfl, tb3 _ (List.mem_of_getElem? (i := 64) rfl), tb3 _ (List.mem_of_getElem? (i := 65) rfl), Or.inl (tb3 _ (List.mem_of_getElem? (i := 63) rfl))⟩
theorem lk_RX9_275 : xLk RX9 (.invokevirtual 275) m_X8_leastCut true := Or.inl ⟨_, rfl, rfl, rfl, tb3 _ (List.mem_of_getElem? (i := 68) rfl), tb3 _ (List.mem_of_getElem? (i := 69) rfl), Or.inl (tb3 _ (List.mem_of_getElem? (i := 82) rfl))⟩
theorem lk_RX9_281 : xLk RX9 (.invokevirtual 281) m_X6_arriveBy true := Or.inl ⟨_, rfl, rfl, rfl, tb5 _ (List.mem_of_getElem? (i := 183) rfl), tb5 _ (List.mem_of_getElem? (i := 184) rfl), Or.inl (tb5 _ (List.mem_of_getElem? (i := 182) rfl))⟩
theorem lk_RX9_284 : xLk RX9 (.invokestatic 284) m_X9_needLeft false := Or.inr (Or.inl ⟨_, rfl, rfl, tb5 _ (List.mem_of_getElem? (i := 194) rfl), Or.inl ⟨tb5 _ (List.mem_of_getElem? (i := 193) rfl), rfl⟩⟩)
theorem lk_RX9_292 : xLk RX9 (.invokevirtual 292) m_X4_gather true := Or.inl ⟨_, rfl, rfl, rfl, tb2 _ (List.mem_of_getElem? (i := 53) rfl), tb2 _ (List.mem_of_getElem? (i := 54) rfl), Or.inl (tb2 _ (List.mem_of_getElem? (i := 52) rfl))⟩
theorem lk_RX9_295 : xLk RX9 (.invokevirtual 295) m_X4_greatest true := Or.inl ⟨_, rfl, rfl, rfl, tb2 _ (List.mem_of_getElem? (i := 57) rfl), tb2 _ (List.mem_of_getElem? (i := 58) rfl), Or.inl (tb2 _ (List.mem_of_getElem? (i := 56) rfl))⟩
theorem lk_RX9_298 : xLk RX9 (.invokevirtual 298) m_X4_tellLeastRow true := Or.inl ⟨_, rfl, rfl, rfl, tb3 _ (List.mem_of_getElem? (i := 84) rfl), tb3 _ (List.mem_of_getElem? (i := 85) rfl), Or.inl (tb3 _ (List.mem_of_getElem? (i := 83) rfl))⟩
theorem lk_RX9_305 : xLk RX9 (.invokevirtual 305) m_X4_leftOfCover true := Or.inl ⟨_, rfl, rfl, rfl, tb2 _ (List.mem_of_getElem? (i := 71) rfl), tb2 _ (List.mem_of_getElem? (i := 72) rfl), Or.inl (tb2 _ (List.mem_of_getElem? (i := 70) rfl))⟩
theorem lk_RX9_309 : xLk RX9 (.invokevirtual 309) m_X4_likedByOthers true := Or.inl ⟨_, rfl, rfl, rfl, tb2 _ (List.mem_of_getElem? (i := 75) rfl), tb2 _ (List.mem_of_getElem? (i := 76) rfl), Or.inl (tb2 _ (List.mem_of_getElem? (i := 78) rfl))⟩
theorem lk_RX9_312 : xLk RX9 (.invokevirtual 312) m_X4_leastCrowd true := Or.inl ⟨_, rfl, rfl, rfl, tb5 _ (List.mem_of_getElem? (i := 214) rfl), tb5 _ (List.mem_of_getElem? (i := 215) rfl), Or.inl (tb5 _ (List.mem_of_getElem? (i := 213) rfl))⟩
theorem lk_RX9_323 : xLk RX9 (.invokevirtual 323) m_X2_enter true := Or.inl ⟨_, rfl, rfl, rfl, tb5 _ (List.mem_of_getElem? (i := 228) rfl), tb5 _ (List.mem_of_getElem? (i := 229) rfl), Or.inl (tb5 _ (List.mem_of_getElem? (i := 227) rfl))⟩
theorem lk_RX9_326 : xLk RX9 (.invokevirtual 326) m_X9_needTeam true := Or.inl ⟨_, rfl, rfl, rfl, tb6 _ (List.mem_of_getElem? (i := 0) rfl), tb0 _ (List.mem_of_getElem? (i := 24) rfl), Or.inl (tb5 _ (List.mem_of_getElem? (i := 238) rfl))⟩
theorem lk_RX9_333 : xLk RX9 (.invokevirtual 333) m_X2_gamesLeft true := Or.inl ⟨_, rfl, rfl, rfl, tb6 _ (List.mem_of_getElem? (i := 6) rfl), tb6 _ (List.mem_of_getElem? (i := 7) rfl), Or.inl (tb6 _ (List.mem_of_getElem? (i := 5) rfl))⟩
theorem lk_RX9_336 : xLk RX9 (.invokevirtual 336) m_X2_setGames true := Or.inl ⟨_, rfl, rfl, rfl, tb6 _ (List.mem_of_getElem? (i := 10) rfl), tb6 _ (List.mem_of_getElem? (i := 11) rfl), Or.inl (tb6 _ (List.mem_of_getElem? (i := 9) rfl))⟩
theorem lk_RX9_339 : xLk RX9 (.invokevirtual 339) m_X2_leastRivals true := Or.inl ⟨_, rfl, rfl, rfl, tb6 _ (List.mem_of_getElem? (i := 21) rfl), tb6 _ (List.mem_of_getElem? (i := 22) rfl), Or.inl (tb6 _ (List.mem_of_getElem? (i := 20) rfl))⟩
theorem lk_RX9_346 : xLk RX9 (.invokevirtual 346) m_X7_start true := Or.inl ⟨_, rfl, rfl, rfl, tb6 _ (List.mem_of_getElem? (i := 48) rfl), tb6 _ (List.mem_of_getElem? (i := 49) rfl), Or.inl (tb6 _ (List.mem_of_getElem? (i := 47) rfl))⟩
theorem lk_RX9_349 : xLk RX9 (.invokevirtual 349) m_X9_needPlace true := Or.inl ⟨_, rfl, rfl, rfl, tb6 _ (List.mem_of_getElem? (i := 60) rfl), tb0 _ (List.mem_of_getElem? (i := 26) rfl), Or.inl (tb6 _ (List.mem_of_getElem? (i := 58) rfl))⟩
theorem lk_RX9_354 : xLk RX9 (.invokevirtual 354) m_X7_placeOf true := Or.inl ⟨_, rfl, rfl, rfl, tb3 _ (List.mem_of_getElem? (i := 102) rfl), tb3 _ (List.mem_of_getElem? (i := 103) rfl), Or.inl (tb6 _ (List.mem_of_getElem? (i := 64) rfl))⟩
theorem lk_RX9_364 : xLk RX9 (.invokevirtual 364) m_X7_roundBy true := Or.inl ⟨_, rfl, rfl, rfl, tb3 _ (List.mem_of_getElem? (i := 94) rfl), tb3 _ (List.mem_of_getElem? (i := 95) rfl), Or.inl (tb3 _ (List.mem_of_getElem? (i := 93) rfl))⟩
theorem lk_RX9_378 : xLk RX9 (.invokevirtual 378) m_X5_put true := Or.inl ⟨_, rfl, rfl, rfl, tb6 _ (List.mem_of_getElem? (i := 82) rfl), tb6 _ (List.mem_of_getElem? (i := 83) rfl), Or.inl (tb6 _ (List.mem_of_getElem? (i := 81) rfl))⟩
theorem lk_RX9_390 : xLk RX9 (.invokevirtual 390) m_X5_choose true := Or.inl ⟨_, rfl, rfl, rfl, tb2 _ (List.mem_of_getElem? (i := 84) rfl), tb2 _ (List.mem_of_getElem? (i := 85) rfl), Or.inl (tb2 _ (List.mem_of_getElem? (i := 83) rfl))⟩
theorem lk_RX9_401 : xLk RX9 (.invokevirtual 401) m_X3_sumOfAll true := Or.inl ⟨_, rfl, rfl, rfl, tb6 _ (List.mem_of_getElem? (i := 102) rfl), tb6 _ (List.mem_of_getElem? (i := 103) rfl), Or.inl (tb6 _ (List.mem_of_getElem? (i := 101) rfl))⟩
theorem lk_RX9_405 : xLk RX9 (.invokestatic 405) m_X9_needSomeEdge false := Or.inr (Or.inl ⟨_, rfl, rfl, tb6 _ (List.mem_of_getElem? (i := 115) rfl), Or.inl ⟨tb6 _ (List.mem_of_getElem? (i := 114) rfl), rfl⟩⟩)
theorem lk_RX9_408 : xLk RX9 (.invokevirtual 408) m_X9_isFlowSound true := Or.inl ⟨_, rfl, rfl, rfl, tb2 _ (List.mem_of_getElem? (i := 104) rfl), tb0 _ (List.mem_of_getElem? (i := 1) rfl), Or.inl (tb2 _ (List.mem_of_getElem? (i := 102) rfl))⟩
theorem lk_RX9_411 : xLk RX9 (.invokevirtual 411) m_X9_isTreeSound true := Or.inl ⟨_, rfl, rfl, rfl, tb3 _ (List.mem_of_getElem? (i := 53) rfl), tb0 _ (List.mem_of_getElem? (i := 13) rfl), Or.inl (tb3 _ (List.mem_of_getElem? (i := 51) rfl))⟩
theorem lk_RX9_414 : xLk RX9 (.invokevirtual 414) m_X4_isCovered true := Or.inl ⟨_, rfl, rfl, rfl, tb3 _ (List.mem_of_getElem? (i := 114) rfl), tb3 _ (List.mem_of_getElem? (i := 115) rfl), Or.inl (tb3 _ (List.mem_of_getElem? (i := 113) rfl))⟩
theorem lk_RX9_417 : xLk RX9 (.invokevirtual 417) m_X7_isRounded true := Or.inl ⟨_, rfl, rfl, rfl, tb3 _ (List.mem_of_getElem? (i := 119) rfl), tb3 _ (List.mem_of_getElem? (i := 120) rfl), Or.inl (tb3 _ (List.mem_of_getElem? (i := 118) rfl))⟩
theorem lk_RX9_420 : xLk RX9 (.invokestatic 420) m_X9_hasBit false := Or.inr (Or.inl ⟨_, rfl, rfl, tb2 _ (List.mem_of_getElem? (i := 92) rfl), Or.inl ⟨tb2 _ (List.mem_of_getElem? (i := 193) rfl), rfl⟩⟩)
theorem lk_RX9_423 : xLk RX9 (.invokevirtual 423) m_X0_isCrowd true := Or.inl ⟨_, rfl, rfl, rfl, tb2 _ (List.mem_of_getElem? (i := 186) rfl), tb2 _ (List.mem_of_getElem? (i := 187) rfl), Or.inl (tb2 _ (List.mem_of_getElem? (i := 194) rfl))⟩
theorem lk_RX9_427 : xLk RX9 (.invokevirtual 427) m_X9_isCutSound true := Or.inl ⟨_, rfl, rfl, rfl, tb2 _ (List.mem_of_getElem? (i := 216) rfl), tb0 _ (List.mem_of_getElem? (i := 7) rfl), Or.inl (tb2 _ (List.mem_of_getElem? (i := 214) rfl))⟩
theorem lk_RX9_431 : xLk RX9 (.invokevirtual 431) m_X6_cheapen true := Or.inl ⟨_, rfl, rfl, rfl, tb2 _ (List.mem_of_getElem? (i := 229) rfl), tb2 _ (List.mem_of_getElem? (i := 230) rfl), Or.inl (tb2 _ (List.mem_of_getElem? (i := 228) rfl))⟩
theorem lk_RX9_434 : xLk RX9 (.invokevirtual 434) m_X6_arePricesRight true := Or.inl ⟨_, rfl, rfl, rfl, tb3 _ (List.mem_of_getElem? (i := 26) rfl), tb3 _ (List.mem_of_getElem? (i := 27) rfl), Or.inl (tb3 _ (List.mem_of_getElem? (i := 25) rfl))⟩
theorem lk_RX9_437 : xLk RX9 (.invokevirtual 437) m_X9_areRoundsSound true := Or.inl ⟨_, rfl, rfl, rfl, tb3 _ (List.mem_of_getElem? (i := 40) rfl), tb0 _ (List.mem_of_getElem? (i := 12) rfl), Or.inl (tb3 _ (List.mem_of_getElem? (i := 38) rfl))⟩
theorem lk_RX9_440 : xLk RX9 (.invokevirtual 440) m_X6_fills true := Or.inl ⟨_, rfl, rfl, rfl, tb2 _ (List.mem_of_getElem? (i := 220) rfl), tb2 _ (List.mem_of_getElem? (i := 221) rfl), Or.inl (tb2 _ (List.mem_of_getElem? (i := 219) rfl))⟩
theorem lk_RX9_443 : xLk RX9 (.invokevirtual 443) m_X3_hasLeast true := Or.inl ⟨_, rfl, rfl, rfl, tb3 _ (List.mem_of_getElem? (i := 43) rfl), tb3 _ (List.mem_of_getElem? (i := 44) rfl), Or.inl (tb3 _ (List.mem_of_getElem? (i := 42) rfl))⟩
theorem lk_RX9_449 : xLk RX9 (.invokevirtual 449) m_X8_leastOnWay true := Or.inl ⟨_, rfl, rfl, rfl, tb3 _ (List.mem_of_getElem? (i := 79) rfl), tb3 _ (List.mem_of_getElem? (i := 80) rfl), Or.inl (tb3 _ (List.mem_of_getElem? (i := 78) rfl))⟩
theorem lk_RX0_42 : xLk RX0 (.invokevirtual 42) m_X0_weigh true := Or.inl ⟨_, rfl, rfl, rfl, tb2 _ (List.mem_of_getElem? (i := 191) rfl), tb0 _ (List.mem_of_getElem? (i := 6) rfl), Or.inl (tb2 _ (List.mem_of_getElem? (i := 189) rfl))⟩
theorem lk_RX0_69 : xLk RX0 (.invokevirtual 69) m_X0_sumOfCut true := Or.inl ⟨_, rfl, rfl, rfl, tb2 _ (List.mem_of_getElem? (i := 211) rfl), tb2 _ (List.mem_of_getElem? (i := 212) rfl), Or.inl (tb2 _ (List.mem_of_getElem? (i := 210) rfl))⟩
theorem lk_RX0_73 : xLk RX0 (.invokevirtual 73) m_X0_isCrowd true := Or.inl ⟨_, rfl, rfl, rfl, tb2 _ (List.mem_of_getElem? (i := 186) rfl), tb2 _ (List.mem_of_getElem? (i := 187) rfl), Or.inl (tb2 _ (List.mem_of_getElem? (i := 185) rfl))⟩
theorem lk_RX0_77 : xLk RX0 (.invokevirtual 77) m_X0_isBroken true := Or.inl ⟨_, rfl, rfl, rfl, tb5 _ (List.mem_of_getElem? (i := 155) rfl), tb5 _ (List.mem_of_getElem? (i := 156) rfl), Or.inl (tb5 _ (List.mem_of_getElem? (i := 154) rfl))⟩
theorem lk_RX0_80 : xLk RX0 (.invokestatic 80) m_J6_bitCount_0f7a4 false := Or.inr (Or.inl ⟨_, rfl, rfl, tb2 _ (List.mem_of_getElem? (i := 61) rfl), Or.inl ⟨tb5 _ (List.mem_of_getElem? (i := 99) rfl), rfl⟩⟩)
theorem lk_RX0_86 : xLk RX0 (.invokevirtual 86) m_X3_reachFrom true := Or.inl ⟨_, rfl, rfl, rfl, tb5 _ (List.mem_of_getElem? (i := 101) rfl), tb5 _ (List.mem_of_getElem? (i := 102) rfl), Or.inl (tb5 _ (List.mem_of_getElem? (i := 100) rfl))⟩
theorem lk_RX1_55 : xLk RX1 (.invokevirtual 55) m_X1_isNode true := Or.inl ⟨_, rfl, rfl, rfl, tb2 _ (List.mem_of_getElem? (i := 123) rfl), tb2 _ (List.mem_of_getElem? (i := 124) rfl), Or.inl (tb2 _ (List.mem_of_getElem? (i := 122) rfl))⟩
theorem lk_RX1_59 : xLk RX1 (.invokevirtual 59) m_X1_setBounds true := Or.inl ⟨_, rfl, rfl, rfl, tb2 _ (List.mem_of_getElem? (i := 127) rfl), tb2 _ (List.mem_of_getElem? (i := 128) rfl), Or.inl (tb2 _ (List.mem_of_getElem? (i := 126) rfl))⟩
theorem lk_RX1_63 : xLk RX1 (.invokevirtual 63) m_X1_isEdge true := Or.inl ⟨_, rfl, rfl, rfl, tb2 _ (List.mem_of_getElem? (i := 131) rfl), tb2 _ (List.mem_of_getElem? (i := 132) rfl), Or.inl (tb2 _ (List.mem_of_getElem? (i := 130) rfl))⟩
theorem lk_RX1_66 : xLk RX1 (.invokevirtual 66) m_X1_keep true := Or.inl ⟨_, rfl, rfl, rfl, tb2 _ (List.mem_of_getElem? (i := 145) rfl), tb2 _ (List.mem_of_getElem? (i := 146) rfl), Or.inl (tb2 _ (List.mem_of_getElem? (i := 144) rfl))⟩
theorem lk_RX1_70 : xLk RX1 (.invokevirtual 70) m_X1_push true := Or.inl ⟨_, rfl, rfl, rfl, tb2 _ (List.mem_of_getElem? (i := 149) rfl), tb2 _ (List.mem_of_getElem? (i := 150) rfl), Or.inl (tb2 _ (List.mem_of_getElem? (i := 148) rfl))⟩
theorem lk_RX1_74 : xLk RX1 (.invokevirtual 74) m_X1_free true := Or.inl ⟨_, rfl, rfl, rfl, tb2 _ (List.mem_of_getElem? (i := 171) rfl), tb2 _ (List.mem_of_getElem? (i := 172) rfl), Or.inl (tb2 _ (List.mem_of_getElem? (i := 170) rfl))⟩
theorem lk_RX1_78 : xLk RX1 (.invokevirtual 78) m_X1_send true := Or.inl ⟨_, rfl, rfl, rfl, tb2 _ (List.mem_of_getElem? (i := 154) rfl), tb2 _ (List.mem_of_getElem? (i := 155) rfl), Or.inl (tb2 _ (List.mem_of_getElem? (i := 153) rfl))⟩
theorem lk_RX1_81 : xLk RX1 (.invokevirtual 81) m_X1_setDistances true := Or.inl ⟨_, rfl, rfl, rfl, tb2 _ (List.mem_of_getElem? (i := 159) rfl), tb0 _ (List.mem_of_getElem? (i := 3) rfl), Or.inl (tb2 _ (List.mem_of_getElem? (i := 157) rfl))⟩
theorem lk_RX1_86 : xLk RX1 (.invokevirtual 86) m_X1_leastSign true := Or.inl ⟨_, rfl, rfl, rfl, tb2 _ (List.mem_of_getElem? (i := 164) rfl), tb0 _ (List.mem_of_getElem? (i := 4) rfl), Or.inl (tb2 _ (List.mem_of_getElem? (i := 162) rfl))⟩
theorem lk_RX1_90 : xLk RX1 (.invokevirtual 90) m_X1_shift true := Or.inl ⟨_, rfl, rfl, rfl, tb2 _ (List.mem_of_getElem? (i := 168) rfl), tb0 _ (List.mem_of_getElem? (i := 5) rfl), Or.inl (tb2 _ (List.mem_of_getElem? (i := 166) rfl))⟩
theorem lk_RX1_94 : xLk RX1 (.invokevirtual 94) m_X1_lowerAll true := Or.inl ⟨_, rfl, rfl, rfl, tb2 _ (List.mem_of_getElem? (i := 238) rfl), tb0 _ (List.mem_of_getElem? (i := 8) rfl), Or.inl (tb2 _ (List.mem_of_getElem? (i := 236) rfl))⟩
theorem lk_RX1_98 : xLk RX1 (.invokevirtual 98) m_X1_findRing true := Or.inl ⟨_, rfl, rfl, rfl, tb3 _ (List.mem_of_getElem? (i := 6) rfl), tb0 _ (List.mem_of_getElem? (i := 10) rfl), Or.inl (tb3 _ (List.mem_of_getElem? (i := 4) rfl))⟩
theorem lk_RX1_101 : xLk RX1 (.invokevirtual 101) m_X1_relax true := Or.inl ⟨_, rfl, rfl, rfl, tb3 _ (List.mem_of_getElem? (i := 2) rfl), tb0 _ (List.mem_of_getElem? (i := 9) rfl), Or.inl (tb3 _ (List.mem_of_getElem? (i := 0) rfl))⟩
theorem lk_RX1_104 : xLk RX1 (.invokevirtual 104) m_X1_cameFrom true := Or.inl ⟨_, rfl, rfl, rfl, tb3 _ (List.mem_of_getElem? (i := 10) rfl), tb0 _ (List.mem_of_getElem? (i := 11) rfl), Or.inl (tb3 _ (List.mem_of_getElem? (i := 8) rfl))⟩
theorem lk_RX2_22 : xLk RX2 (.invokevirtual 22) m_X2_gamesLeft true := Or.inl ⟨_, rfl, rfl, rfl, tb6 _ (List.mem_of_getElem? (i := 6) rfl), tb6 _ (List.mem_of_getElem? (i := 7) rfl), Or.inl (tb6 _ (List.mem_of_getElem? (i := 24) rfl))⟩
theorem lk_RX2_30 : xLk RX2 (.invokevirtual 30) m_X2_winsTogether true := Or.inl ⟨_, rfl, rfl, rfl, tb6 _ (List.mem_of_getElem? (i := 28) rfl), tb0 _ (List.mem_of_getElem? (i := 25) rfl), Or.inl (tb6 _ (List.mem_of_getElem? (i := 26) rfl))⟩
theorem lk_RX2_34 : xLk RX2 (.invokestatic 34) m_J6_bitCount_0f7a4 false := Or.inr (Or.inl ⟨_, rfl, rfl, tb2 _ (List.mem_of_getElem? (i := 61) rfl), Or.inl ⟨tb6 _ (List.mem_of_getElem? (i := 30) rfl), rfl⟩⟩)
theorem lk_RX3_37 : xLk RX3 (.invokevirtual 37) m_X3_set true := Or.inl ⟨_, rfl, rfl, rfl, tb4 _ (List.mem_of_getElem? (i := 77) rfl), tb4 _ (List.mem_of_getElem? (i := 78) rfl), Or.inl (tb4 _ (List.mem_of_getElem? (i := 76) rfl))⟩
theorem lk_RX4_19 : xLk RX4 (.invokestatic 19) m_J6_bitCount_0f7a4 false := Or.inr (Or.inl ⟨_, rfl, rfl, tb2 _ (List.mem_of_getElem? (i := 61) rfl), Or.inl ⟨tb2 _ (List.mem_of_getElem? (i := 60) rfl), rfl⟩⟩)
theorem lk_RX4_25 : xLk RX4 (.invokevirtual 25) m_X4_greatest true := Or.inl ⟨_, rfl, rfl, rfl, tb2 _ (List.mem_of_getElem? (i := 57) rfl), tb2 _ (List.mem_of_getElem? (i := 58) rfl), Or.inl (tb3 _ (List.mem_of_getElem? (i := 87) rfl))⟩
theorem lk_RX4_29 : xLk RX4 (.invokevirtual 29) m_X4_leastRight true := Or.inl ⟨_, rfl, rfl, rfl, tb3 _ (List.mem_of_getElem? (i := 90) rfl), tb0 _ (List.mem_of_getElem? (i := 15) rfl), Or.inl (tb3 _ (List.mem_of_getElem? (i := 88) rfl))⟩
theorem lk_RX4_39 : xLk RX4 (.invokevirtual 39) m_X4_likedByOthers true := Or.inl ⟨_, rfl, rfl, rfl, tb2 _ (List.mem_of_getElem? (i := 75) rfl), tb2 _ (List.mem_of_getElem? (i := 76) rfl), Or.inl (tb2 _ (List.mem_of_getElem? (i := 74) rfl))⟩
theorem lk_RX4_42 : xLk RX4 (.invokevirtual 42) m_X4_leftOfCover true := Or.inl ⟨_, rfl, rfl, rfl, tb2 _ (List.mem_of_getElem? (i := 71) rfl), tb2 _ (List.mem_of_getElem? (i := 72) rfl), Or.inl (tb3 _ (List.mem_of_getElem? (i := 117) rfl))⟩
theorem lk_RX5_34 : xLk RX5 (.invokevirtual 34) m_X5_worthOf true := Or.inl ⟨_, rfl, rfl, rfl, tb2 _ (List.mem_of_getElem? (i := 89) rfl), tb0 _ (List.mem_of_getElem? (i := 0) rfl), Or.inl (tb2 _ (List.mem_of_getElem? (i := 87) rfl))⟩
theorem lk_RX6_30 : xLk RX6 (.invokevirtual 30) m_X1_start true := Or.inl ⟨_, rfl, rfl, rfl, tb2 _ (List.mem_of_getElem? (i := 111) rfl), tb2 _ (List.mem_of_getElem? (i := 112) rfl), Or.inl (tb2 _ (List.mem_of_getElem? (i := 110) rfl))⟩
theorem lk_RX6_34 : xLk RX6 (.invokevirtual 34) m_X6_addEdges true := Or.inl ⟨_, rfl, rfl, rfl, tb2 _ (List.mem_of_getElem? (i := 116) rfl), tb0 _ (List.mem_of_getElem? (i := 2) rfl), Or.inl (tb2 _ (List.mem_of_getElem? (i := 114) rfl))⟩
theorem lk_RX6_46 : xLk RX6 (.invokevirtual 46) m_X1_add true := Or.inl ⟨_, rfl, rfl, rfl, tb2 _ (List.mem_of_getElem? (i := 119) rfl), tb2 _ (List.mem_of_getElem? (i := 120) rfl), Or.inl (tb2 _ (List.mem_of_getElem? (i := 118) rfl))⟩
theorem lk_RX6_66 : xLk RX6 (.invokevirtual 66) m_X1_setBounds true := Or.inl ⟨_, rfl, rfl, rfl, tb2 _ (List.mem_of_getElem? (i := 127) rfl), tb2 _ (List.mem_of_getElem? (i := 128) rfl), Or.inl (tb5 _ (List.mem_of_getElem? (i := 116) rfl))⟩
theorem lk_RX6_70 : xLk RX6 (.invokevirtual 70) m_X1_settle true := Or.inl ⟨_, rfl, rfl, rfl, tb2 _ (List.mem_of_getElem? (i := 141) rfl), tb2 _ (List.mem_of_getElem? (i := 142) rfl), Or.inl (tb2 _ (List.mem_of_getElem? (i := 140) rfl))⟩
theorem lk_RX6_74 : xLk RX6 (.invokevirtual 74) m_X1_keep true := Or.inl ⟨_, rfl, rfl, rfl, tb2 _ (List.mem_of_getElem? (i := 145) rfl), tb2 _ (List.mem_of_getElem? (i := 146) rfl), Or.inl (tb2 _ (List.mem_of_getElem? (i := 174) rfl))⟩
theorem lk_RX6_77 : xLk RX6 (.invokevirtual 77) m_X1_numberOf true := Or.inl ⟨_, rfl, rfl, rfl, tb2 _ (List.mem_of_getElem? (i := 176) rfl), tb2 _ (List.mem_of_getElem? (i := 177) rfl), Or.inl (tb2 _ (List.mem_of_getElem? (i := 175) rfl))⟩
theorem lk_RX6_81 : xLk RX6 (.invokevirtual 81) m_X1_push true := Or.inl ⟨_, rfl, rfl, rfl, tb2 _ (List.mem_of_getElem? (i := 149) rfl), tb2 _ (List.mem_of_getElem? (i := 150) rfl), Or.inl (tb2 _ (List.mem_of_getElem? (i := 179) rfl))⟩
theorem lk_RX6_88 : xLk RX6 (.invokevirtual 88) m_X1_lower true := Or.inl ⟨_, rfl, rfl, rfl, tb2 _ (List.mem_of_getElem? (i := 200) rfl), tb2 _ (List.mem_of_getElem? (i := 201) rfl), Or.inl (tb2 _ (List.mem_of_getElem? (i := 199) rfl))⟩
theorem lk_RX6_91 : xLk RX6 (.invokevirtual 91) m_X1_cheapen true := Or.inl ⟨_, rfl, rfl, rfl, tb2 _ (List.mem_of_getElem? (i := 233) rfl), tb2 _ (List.mem_of_getElem? (i := 234) rfl), Or.inl (tb2 _ (List.mem_of_getElem? (i := 232) rfl))⟩
theorem lk_RX6_94 : xLk RX6 (.invokevirtual 94) m_X1_keepCheap true := Or.inl ⟨_, rfl, rfl, rfl, tb3 _ (List.mem_of_getElem? (i := 13) rfl), tb3 _ (List.mem_of_getElem? (i := 14) rfl), Or.inl (tb3 _ (List.mem_of_getElem? (i := 12) rfl))⟩
theorem lk_RX6_97 : xLk RX6 (.invokevirtual 97) m_X1_sumOfCosts true := Or.inl ⟨_, rfl, rfl, rfl, tb5 _ (List.mem_of_getElem? (i := 38) rfl), tb5 _ (List.mem_of_getElem? (i := 39) rfl), Or.inl (tb5 _ (List.mem_of_getElem? (i := 37) rfl))⟩
theorem lk_RX6_100 : xLk RX6 (.invokevirtual 100) m_X1_free true := Or.inl ⟨_, rfl, rfl, rfl, tb2 _ (List.mem_of_getElem? (i := 171) rfl), tb2 _ (List.mem_of_getElem? (i := 172) rfl), Or.inl (tb3 _ (List.mem_of_getElem? (i := 20) rfl))⟩
theorem lk_RX6_103 : xLk RX6 (.invokevirtual 103) m_X1_setLevelsFrom true := Or.inl ⟨_, rfl, rfl, rfl, tb3 _ (List.mem_of_getElem? (i := 22) rfl), tb3 _ (List.mem_of_getElem? (i := 23) rfl), Or.inl (tb3 _ (List.mem_of_getElem? (i := 21) rfl))⟩
theorem lk_RX6_106 : xLk RX6 (.invokevirtual 106) m_X1_levelOf true := Or.inl ⟨_, rfl, rfl, rfl, tb3 _ (List.mem_of_getElem? (i := 34) rfl), tb3 _ (List.mem_of_getElem? (i := 35) rfl), Or.inl (tb3 _ (List.mem_of_getElem? (i := 33) rfl))⟩
theorem lk_RX6_113 : xLk RX6 (.invokevirtual 113) m_X1_send true := Or.inl ⟨_, rfl, rfl, rfl, tb2 _ (List.mem_of_getElem? (i := 154) rfl), tb2 _ (List.mem_of_getElem? (i := 155) rfl), Or.inl (tb3 _ (List.mem_of_getElem? (i := 50) rfl))⟩
theorem lk_RX6_116 : xLk RX6 (.invokevirtual 116) m_X1_signAt true := Or.inl ⟨_, rfl, rfl, rfl, tb5 _ (List.mem_of_getElem? (i := 18) rfl), tb5 _ (List.mem_of_getElem? (i := 19) rfl), Or.inl (tb5 _ (List.mem_of_getElem? (i := 17) rfl))⟩
theorem lk_RX6_126 : xLk RX6 (.invokevirtual 126) m_X6_numberOf true := Or.inl ⟨_, rfl, rfl, rfl, tb2 _ (List.mem_of_getElem? (i := 225) rfl), tb2 _ (List.mem_of_getElem? (i := 226) rfl), Or.inl (tb2 _ (List.mem_of_getElem? (i := 224) rfl))⟩
theorem lk_RX6_127 : xLk RX6 (.invokevirtual 127) m_X6_priceOf true := Or.inl ⟨_, rfl, rfl, rfl, tb3 _ (List.mem_of_getElem? (i := 30) rfl), tb3 _ (List.mem_of_getElem? (i := 31) rfl), Or.inl (tb3 _ (List.mem_of_getElem? (i := 29) rfl))⟩
theorem lk_RX7_32 : xLk RX7 (.invokevirtual 32) m_X7_placeOf true := Or.inl ⟨_, rfl, rfl, rfl, tb3 _ (List.mem_of_getElem? (i := 102) rfl), tb3 _ (List.mem_of_getElem? (i := 103) rfl), Or.inl (tb3 _ (List.mem_of_getElem? (i := 101) rfl))⟩
theorem lk_RX7_36 : xLk RX7 (.invokevirtual 36) m_X7_addUp true := Or.inl ⟨_, rfl, rfl, rfl, tb3 _ (List.mem_of_getElem? (i := 99) rfl), tb0 _ (List.mem_of_getElem? (i := 16) rfl), Or.inl (tb3 _ (List.mem_of_getElem? (i := 97) rfl))⟩
theorem lk_RX7_40 : xLk RX7 (.invokevirtual 40) m_X1_start true := Or.inl ⟨_, rfl, rfl, rfl, tb2 _ (List.mem_of_getElem? (i := 111) rfl), tb2 _ (List.mem_of_getElem? (i := 112) rfl), Or.inl (tb3 _ (List.mem_of_getElem? (i := 105) rfl))⟩
theorem lk_RX7_46 : xLk RX7 (.invokestatic 46) m_X7_addRounded false := Or.inr (Or.inl ⟨_, rfl, rfl, tb3 _ (List.mem_of_getElem? (i := 107) rfl), Or.inl ⟨tb3 _ (List.mem_of_getElem? (i := 106) rfl), rfl⟩⟩)
theorem lk_RX7_50 : xLk RX7 (.invokevirtual 50) m_X1_settle true := Or.inl ⟨_, rfl, rfl, rfl, tb2 _ (List.mem_of_getElem? (i := 141) rfl), tb2 _ (List.mem_of_getElem? (i := 142) rfl), Or.inl (tb3 _ (List.mem_of_getElem? (i := 110) rfl))⟩
theorem lk_RX7_54 : xLk RX7 (.invokevirtual 54) m_X1_lower true := Or.inl ⟨_, rfl, rfl, rfl, tb2 _ (List.mem_of_getElem? (i := 200) rfl), tb2 _ (List.mem_of_getElem? (i := 201) rfl), Or.inl (tb3 _ (List.mem_of_getElem? (i := 111) rfl))⟩
theorem lk_RX7_57 : xLk RX7 (.invokevirtual 57) m_X1_numberOf true := Or.inl ⟨_, rfl, rfl, rfl, tb2 _ (List.mem_of_getElem? (i := 176) rfl), tb2 _ (List.mem_of_getElem? (i := 177) rfl), Or.inl (tb3 _ (List.mem_of_getElem? (i := 112) rfl))⟩
theorem lk_RX7_61 : xLk RX7 (.invokevirtual 61) m_X1_add true := Or.inl ⟨_, rfl, rfl, rfl, tb2 _ (List.mem_of_getElem? (i := 119) rfl), tb2 _ (List.mem_of_getElem? (i := 120) rfl), Or.inl (tb3 _ (List.mem_of_getElem? (i := 109) rfl))⟩
theorem lk_RX7_65 : xLk RX7 (.invokestatic 65) m_X7_isNear false := Or.inr (Or.inl ⟨_, rfl, rfl, tb3 _ (List.mem_of_getElem? (i := 123) rfl), Or.inl ⟨tb3 _ (List.mem_of_getElem? (i := 122) rfl), rfl⟩⟩)
theorem lk_RX7_69 : xLk RX7 (.invokevirtual 69) m_X7_sumOfTenths true := Or.inl ⟨_, rfl, rfl, rfl, tb3 _ (List.mem_of_getElem? (i := 127) rfl), tb0 _ (List.mem_of_getElem? (i := 17) rfl), Or.inl (tb3 _ (List.mem_of_getElem? (i := 125) rfl))⟩
theorem lk_RX8_28 : xLk RX8 (.invokevirtual 28) m_X0_sumBothWays true := Or.inl ⟨_, rfl, rfl, rfl, tb3 _ (List.mem_of_getElem? (i := 60) rfl), tb3 _ (List.mem_of_getElem? (i := 61) rfl), Or.inl (tb3 _ (List.mem_of_getElem? (i := 59) rfl))⟩
theorem lk_RX8_41 : xLk RX8 (.invokevirtual 41) m_X8_leastCut true := Or.inl ⟨_, rfl, rfl, rfl, tb3 _ (List.mem_of_getElem? (i := 68) rfl), tb3 _ (List.mem_of_getElem? (i := 69) rfl), Or.inl (tb3 _ (List.mem_of_getElem? (i := 67) rfl))⟩
theorem lk_RX8_45 : xLk RX8 (.invokevirtual 45) m_X8_sideInAll true := Or.inl ⟨_, rfl, rfl, rfl, tb3 _ (List.mem_of_getElem? (i := 75) rfl), tb0 _ (List.mem_of_getElem? (i := 14) rfl), Or.inl (tb3 _ (List.mem_of_getElem? (i := 73) rfl))⟩
theorem lk_RL_7 : xLk RL (.invokevirtual 7) m_X9_net true := Or.inl ⟨_, rfl, rfl, rfl, tb3 _ (List.mem_of_getElem? (i := 135) rfl), tb3 _ (List.mem_of_getElem? (i := 136) rfl), Or.inl (tb3 _ (List.mem_of_getElem? (i := 134) rfl))⟩
theorem lk_RL_17 : xLk RL (.invokevirtual 17) m_X9_edge true := Or.inl ⟨_, rfl, rfl, rfl, tb4 _ (List.mem_of_getElem? (i := 40) rfl), tb4 _ (List.mem_of_getElem? (i := 41) rfl), Or.inl (tb4 _ (List.mem_of_getElem? (i := 39) rfl))⟩
theorem lk_RL_23 : xLk RL (.invokevirtual 23) m_X9_change true := Or.inl ⟨_, rfl, rfl, rfl, tb4 _ (List.mem_of_getElem? (i := 84) rfl), tb4 _ (List.mem_of_getElem? (i := 85) rfl), Or.inl (tb4 _ (List.mem_of_getElem? (i := 83) rfl))⟩
theorem lk_RL_27 : xLk RL (.invokevirtual 27) m_X9_drop true := Or.inl ⟨_, rfl, rfl, rfl, tb4 _ (List.mem_of_getElem? (i := 96) rfl), tb4 _ (List.mem_of_getElem? (i := 97) rfl), Or.inl (tb4 _ (List.mem_of_getElem? (i := 95) rfl))⟩
theorem lk_RL_31 : xLk RL (.invokevirtual 31) m_X9_edges true := Or.inl ⟨_, rfl, rfl, rfl, tb4 _ (List.mem_of_getElem? (i := 107) rfl), tb4 _ (List.mem_of_getElem? (i := 108) rfl), Or.inl (tb4 _ (List.mem_of_getElem? (i := 106) rfl))⟩
theorem lk_RL_34 : xLk RL (.invokevirtual 34) m_X9_supply true := Or.inl ⟨_, rfl, rfl, rfl, tb4 _ (List.mem_of_getElem? (i := 114) rfl), tb4 _ (List.mem_of_getElem? (i := 115) rfl), Or.inl (tb4 _ (List.mem_of_getElem? (i := 113) rfl))⟩
theorem lk_RL_38 : xLk RL (.invokevirtual 38) m_X9_most true := Or.inl ⟨_, rfl, rfl, rfl, tb4 _ (List.mem_of_getElem? (i := 127) rfl), tb4 _ (List.mem_of_getElem? (i := 128) rfl), Or.inl (tb4 _ (List.mem_of_getElem? (i := 126) rfl))⟩
theorem lk_RL_43 : xLk RL (.invokevirtual 43) m_X9_flow true := Or.inl ⟨_, rfl, rfl, rfl, tb4 _ (List.mem_of_getElem? (i := 157) rfl), tb4 _ (List.mem_of_getElem? (i := 158) rfl), Or.inl (tb4 _ (List.mem_of_getElem? (i := 156) rfl))⟩
theorem lk_RL_47 : xLk RL (.invokevirtual 47) m_X9_crowd true := Or.inl ⟨_, rfl, rfl, rfl, tb4 _ (List.mem_of_getElem? (i := 169) rfl), tb4 _ (List.mem_of_getElem? (i := 170) rfl), Or.inl (tb4 _ (List.mem_of_getElem? (i := 168) rfl))⟩
theorem lk_RL_50 : xLk RL (.invokevirtual 50) m_X9_cut true := Or.inl ⟨_, rfl, rfl, rfl, tb4 _ (List.mem_of_getElem? (i := 177) rfl), tb4 _ (List.mem_of_getElem? (i := 178) rfl), Or.inl (tb4 _ (List.mem_of_getElem? (i := 176) rfl))⟩
theorem lk_RL_54 : xLk RL (.invokevirtual 54) m_X9_cutSum true := Or.inl ⟨_, rfl, rfl, rfl, tb4 _ (List.mem_of_getElem? (i := 184) rfl), tb4 _ (List.mem_of_getElem? (i := 185) rfl), Or.inl (tb4 _ (List.mem_of_getElem? (i := 183) rfl))⟩
theorem lk_RL_57 : xLk RL (.invokevirtual 57) m_X9_cuts true := Or.inl ⟨_, rfl, rfl, rfl, tb4 _ (List.mem_of_getElem? (i := 193) rfl), tb4 _ (List.mem_of_getElem? (i := 194) rfl), Or.inl (tb4 _ (List.mem_of_getElem? (i := 192) rfl))⟩
theorem lk_RL_60 : xLk RL (.invokevirtual 60) m_X9_isFull true := Or.inl ⟨_, rfl, rfl, rfl, tb4 _ (List.mem_of_getElem? (i := 200) rfl), tb4 _ (List.mem_of_getElem? (i := 201) rfl), Or.inl (tb4 _ (List.mem_of_getElem? (i := 199) rfl))⟩
theorem lk_RL_64 : xLk RL (.invokevirtual 64) m_X9_rounds true := Or.inl ⟨_, rfl, rfl, rfl, tb4 _ (List.mem_of_getElem? (i := 212) rfl), tb4 _ (List.mem_of_getElem? (i := 213) rfl), Or.inl (tb4 _ (List.mem_of_getElem? (i := 211) rfl))⟩
theorem lk_RL_69 : xLk RL (.invokevirtual 69) m_X9_roundAmount true := Or.inl ⟨_, rfl, rfl, rfl, tb4 _ (List.mem_of_getElem? (i := 238) rfl), tb4 _ (List.mem_of_getElem? (i := 239) rfl), Or.inl (tb4 _ (List.mem_of_getElem? (i := 237) rfl))⟩
theorem lk_RL_72 : xLk RL (.invokevirtual 72) m_X9_roundSign true := Or.inl ⟨_, rfl, rfl, rfl, tb5 _ (List.mem_of_getElem? (i := 10) rfl), tb5 _ (List.mem_of_getElem? (i := 11) rfl), Or.inl (tb5 _ (List.mem_of_getElem? (i := 9) rfl))⟩
theorem lk_RL_75 : xLk RL (.invokevirtual 75) m_X9_cost true := Or.inl ⟨_, rfl, rfl, rfl, tb5 _ (List.mem_of_getElem? (i := 26) rfl), tb5 _ (List.mem_of_getElem? (i := 27) rfl), Or.inl (tb5 _ (List.mem_of_getElem? (i := 25) rfl))⟩
theorem lk_RL_78 : xLk RL (.invokevirtual 78) m_X9_cheapest true := Or.inl ⟨_, rfl, rfl, rfl, tb5 _ (List.mem_of_getElem? (i := 45) rfl), tb5 _ (List.mem_of_getElem? (i := 46) rfl), Or.inl (tb5 _ (List.mem_of_getElem? (i := 44) rfl))⟩
theorem lk_RL_81 : xLk RL (.invokevirtual 81) m_X9_price true := Or.inl ⟨_, rfl, rfl, rfl, tb5 _ (List.mem_of_getElem? (i := 52) rfl), tb5 _ (List.mem_of_getElem? (i := 53) rfl), Or.inl (tb5 _ (List.mem_of_getElem? (i := 51) rfl))⟩
theorem lk_RL_84 : xLk RL (.invokevirtual 84) m_X9_edgeWays true := Or.inl ⟨_, rfl, rfl, rfl, tb5 _ (List.mem_of_getElem? (i := 65) rfl), tb5 _ (List.mem_of_getElem? (i := 66) rfl), Or.inl (tb5 _ (List.mem_of_getElem? (i := 64) rfl))⟩
theorem lk_RL_87 : xLk RL (.invokevirtual 87) m_X9_cornerWays true := Or.inl ⟨_, rfl, rfl, rfl, tb5 _ (List.mem_of_getElem? (i := 76) rfl), tb5 _ (List.mem_of_getElem? (i := 77) rfl), Or.inl (tb5 _ (List.mem_of_getElem? (i := 75) rfl))⟩
theorem lk_RL_90 : xLk RL (.invokevirtual 90) m_X9_apart true := Or.inl ⟨_, rfl, rfl, rfl, tb5 _ (List.mem_of_getElem? (i := 87) rfl), tb5 _ (List.mem_of_getElem? (i := 88) rfl), Or.inl (tb5 _ (List.mem_of_getElem? (i := 86) rfl))⟩
theorem lk_RL_93 : xLk RL (.invokevirtual 93) m_X9_wider true := Or.inl ⟨_, rfl, rfl, rfl, tb5 _ (List.mem_of_getElem? (i := 109) rfl), tb5 _ (List.mem_of_getElem? (i := 110) rfl), Or.inl (tb5 _ (List.mem_of_getElem? (i := 108) rfl))⟩
theorem lk_RL_96 : xLk RL (.invokevirtual 96) m_X9_without true := Or.inl ⟨_, rfl, rfl, rfl, tb5 _ (List.mem_of_getElem? (i := 121) rfl), tb5 _ (List.mem_of_getElem? (i := 122) rfl), Or.inl (tb5 _ (List.mem_of_getElem? (i := 120) rfl))⟩
theorem lk_RL_99 : xLk RL (.invokevirtual 99) m_X9_holds true := Or.inl ⟨_, rfl, rfl, rfl, tb5 _ (List.mem_of_getElem? (i := 128) rfl), tb5 _ (List.mem_of_getElem? (i := 129) rfl), Or.inl (tb5 _ (List.mem_of_getElem? (i := 127) rfl))⟩
theorem lk_RL_103 : xLk RL (.invokevirtual 103) m_X9_meets true := Or.inl ⟨_, rfl, rfl, rfl, tb5 _ (List.mem_of_getElem? (i := 139) rfl), tb5 _ (List.mem_of_getElem? (i := 140) rfl), Or.inl (tb5 _ (List.mem_of_getElem? (i := 138) rfl))⟩
theorem lk_RL_106 : xLk RL (.invokevirtual 106) m_X9_breaks true := Or.inl ⟨_, rfl, rfl, rfl, tb5 _ (List.mem_of_getElem? (i := 147) rfl), tb5 _ (List.mem_of_getElem? (i := 148) rfl), Or.inl (tb5 _ (List.mem_of_getElem? (i := 146) rfl))⟩
theorem lk_RL_109 : xLk RL (.invokevirtual 109) m_X9_parent true := Or.inl ⟨_, rfl, rfl, rfl, tb5 _ (List.mem_of_getElem? (i := 163) rfl), tb5 _ (List.mem_of_getElem? (i := 164) rfl), Or.inl (tb5 _ (List.mem_of_getElem? (i := 162) rfl))⟩
theorem lk_RL_112 : xLk RL (.invokevirtual 112) m_X9_between true := Or.inl ⟨_, rfl, rfl, rfl, tb5 _ (List.mem_of_getElem? (i := 171) rfl), tb5 _ (List.mem_of_getElem? (i := 172) rfl), Or.inl (tb5 _ (List.mem_of_getElem? (i := 170) rfl))⟩
theorem lk_RL_115 : xLk RL (.invokevirtual 115) m_X9_inSteps true := Or.inl ⟨_, rfl, rfl, rfl, tb5 _ (List.mem_of_getElem? (i := 178) rfl), tb5 _ (List.mem_of_getElem? (i := 179) rfl), Or.inl (tb5 _ (List.mem_of_getElem? (i := 177) rfl))⟩
theorem lk_RL_118 : xLk RL (.invokevirtual 118) m_X9_likes true := Or.inl ⟨_, rfl, rfl, rfl, tb5 _ (List.mem_of_getElem? (i := 190) rfl), tb5 _ (List.mem_of_getElem? (i := 191) rfl), Or.inl (tb5 _ (List.mem_of_getElem? (i := 189) rfl))⟩
theorem lk_RL_121 : xLk RL (.invokevirtual 121) m_X9_pairOf true := Or.inl ⟨_, rfl, rfl, rfl, tb5 _ (List.mem_of_getElem? (i := 202) rfl), tb5 _ (List.mem_of_getElem? (i := 203) rfl), Or.inl (tb5 _ (List.mem_of_getElem? (i := 201) rfl))⟩
theorem lk_RL_124 : xLk RL (.invokevirtual 124) m_X9_crowdOfLeft true := Or.inl ⟨_, rfl, rfl, rfl, tb5 _ (List.mem_of_getElem? (i := 210) rfl), tb5 _ (List.mem_of_getElem? (i := 211) rfl), Or.inl (tb5 _ (List.mem_of_getElem? (i := 209) rfl))⟩
theorem lk_RL_128 : xLk RL (.invokevirtual 128) m_X9_team true := Or.inl ⟨_, rfl, rfl, rfl, tb5 _ (List.mem_of_getElem? (i := 222) rfl), tb5 _ (List.mem_of_getElem? (i := 223) rfl), Or.inl (tb5 _ (List.mem_of_getElem? (i := 221) rfl))⟩
theorem lk_RL_131 : xLk RL (.invokevirtual 131) m_X9_games true := Or.inl ⟨_, rfl, rfl, rfl, tb5 _ (List.mem_of_getElem? (i := 235) rfl), tb5 _ (List.mem_of_getElem? (i := 236) rfl), Or.inl (tb5 _ (List.mem_of_getElem? (i := 234) rfl))⟩
theorem lk_RL_134 : xLk RL (.invokevirtual 134) m_X9_canWin true := Or.inl ⟨_, rfl, rfl, rfl, tb6 _ (List.mem_of_getElem? (i := 17) rfl), tb6 _ (List.mem_of_getElem? (i := 18) rfl), Or.inl (tb6 _ (List.mem_of_getElem? (i := 16) rfl))⟩
theorem lk_RL_137 : xLk RL (.invokevirtual 137) m_X9_against true := Or.inl ⟨_, rfl, rfl, rfl, tb6 _ (List.mem_of_getElem? (i := 35) rfl), tb6 _ (List.mem_of_getElem? (i := 36) rfl), Or.inl (tb6 _ (List.mem_of_getElem? (i := 34) rfl))⟩
theorem lk_RL_140 : xLk RL (.invokevirtual 140) m_X9_table true := Or.inl ⟨_, rfl, rfl, rfl, tb6 _ (List.mem_of_getElem? (i := 43) rfl), tb6 _ (List.mem_of_getElem? (i := 44) rfl), Or.inl (tb6 _ (List.mem_of_getElem? (i := 42) rfl))⟩
theorem lk_RL_143 : xLk RL (.invokevirtual 143) m_X9_tell true := Or.inl ⟨_, rfl, rfl, rfl, tb6 _ (List.mem_of_getElem? (i := 55) rfl), tb6 _ (List.mem_of_getElem? (i := 56) rfl), Or.inl (tb6 _ (List.mem_of_getElem? (i := 54) rfl))⟩
theorem lk_RL_146 : xLk RL (.invokevirtual 146) m_X9_rounded true := Or.inl ⟨_, rfl, rfl, rfl, tb6 _ (List.mem_of_getElem? (i := 69) rfl), tb6 _ (List.mem_of_getElem? (i := 70) rfl), Or.inl (tb6 _ (List.mem_of_getElem? (i := 68) rfl))⟩
theorem lk_RL_149 : xLk RL (.invokevirtual 149) m_X9_project true := Or.inl ⟨_, rfl, rfl, rfl, tb6 _ (List.mem_of_getElem? (i := 76) rfl), tb6 _ (List.mem_of_getElem? (i := 77) rfl), Or.inl (tb6 _ (List.mem_of_getElem? (i := 75) rfl))⟩
theorem lk_RL_152 : xLk RL (.invokevirtual 152) m_X9_toolCost true := Or.inl ⟨_, rfl, rfl, rfl, tb6 _ (List.mem_of_getElem? (i := 89) rfl), tb6 _ (List.mem_of_getElem? (i := 90) rfl), Or.inl (tb6 _ (List.mem_of_getElem? (i := 88) rfl))⟩
theorem lk_RL_155 : xLk RL (.invokevirtual 155) m_X9_checksum true := Or.inl ⟨_, rfl, rfl, rfl, tb6 _ (List.mem_of_getElem? (i := 98) rfl), tb6 _ (List.mem_of_getElem? (i := 99) rfl), Or.inl (tb6 _ (List.mem_of_getElem? (i := 97) rfl))⟩
theorem lk_RL_159 : xLk RL (.invokevirtual 159) m_X9_fullShare true := Or.inl ⟨_, rfl, rfl, rfl, tb6 _ (List.mem_of_getElem? (i := 111) rfl), tb6 _ (List.mem_of_getElem? (i := 112) rfl), Or.inl (tb6 _ (List.mem_of_getElem? (i := 110) rfl))⟩
theorem lk_RL_163 : xLk RL (.invokevirtual 163) m_X9_meanFlow true := Or.inl ⟨_, rfl, rfl, rfl, tb6 _ (List.mem_of_getElem? (i := 122) rfl), tb6 _ (List.mem_of_getElem? (i := 123) rfl), Or.inl (tb6 _ (List.mem_of_getElem? (i := 121) rfl))⟩
theorem lk_RL_167 : xLk RL (.invokespecial 167) m_X9_init true := Or.inr (Or.inr ⟨_, rfl, rfl, rfl, rfl, rfl, tb1 _ (List.mem_of_getElem? (i := 24) rfl), Or.inl (tb1 _ (List.mem_of_getElem? (i := 23) rfl))⟩)
theorem lk_RL_170 : xLk RL (.invokespecial 170) m_X10_init true := Or.inr (Or.inr ⟨_, rfl, rfl, rfl, rfl, rfl, tb6 _ (List.mem_of_getElem? (i := 128) rfl), Or.inl (tb6 _ (List.mem_of_getElem? (i := 127) rfl))⟩)
theorem lk_RL_171 : xLk RL (.invokestatic 171) m_L_net false := Or.inr (Or.inl ⟨_, rfl, rfl, tb3 _ (List.mem_of_getElem? (i := 130) rfl), Or.inl ⟨tb3 _ (List.mem_of_getElem? (i := 129) rfl), rfl⟩⟩)
theorem lk_RL_176 : xLk RL (.invokevirtual 176) m_X10_net true := Or.inl ⟨_, rfl, rfl, rfl, tb6 _ (List.mem_of_getElem? (i := 236) rfl), tb6 _ (List.mem_of_getElem? (i := 237) rfl), Or.inl (tb6 _ (List.mem_of_getElem? (i := 235) rfl))⟩
theorem lk_RL_177 : xLk RL (.invokevirtual 177) m_X10_thrown true := Or.inl ⟨_, rfl, rfl, rfl, tb6 _ (List.mem_of_getElem? (i := 232) rfl), tb6 _ (List.mem_of_getElem? (i := 233) rfl), Or.inl (tb6 _ (List.mem_of_getElem? (i := 231) rfl))⟩
theorem lk_RL_180 : xLk RL (.invokestatic 180) m_L_edge false := Or.inr (Or.inl ⟨_, rfl, rfl, tb4 _ (List.mem_of_getElem? (i := 36) rfl), Or.inl ⟨tb4 _ (List.mem_of_getElem? (i := 35) rfl), rfl⟩⟩)
theorem lk_RL_183 : xLk RL (.invokevirtual 183) m_X10_edge true := Or.inl ⟨_, rfl, rfl, rfl, tb7 _ (List.mem_of_getElem? (i := 3) rfl), tb7 _ (List.mem_of_getElem? (i := 4) rfl), Or.inl (tb7 _ (List.mem_of_getElem? (i := 2) rfl))⟩
theorem lk_RL_184 : xLk RL (.invokestatic 184) m_L_change false := Or.inr (Or.inl ⟨_, rfl, rfl, tb4 _ (List.mem_of_getElem? (i := 81) rfl), Or.inl ⟨tb4 _ (List.mem_of_getElem? (i := 80) rfl), rfl⟩⟩)
theorem lk_RL_187 : xLk RL (.invokevirtual 187) m_X10_change true := Or.inl ⟨_, rfl, rfl, rfl, tb7 _ (List.mem_of_getElem? (i := 22) rfl), tb7 _ (List.mem_of_getElem? (i := 23) rfl), Or.inl (tb7 _ (List.mem_of_getElem? (i := 21) rfl))⟩
theorem lk_RL_188 : xLk RL (.invokestatic 188) m_L_drop false := Or.inr (Or.inl ⟨_, rfl, rfl, tb4 _ (List.mem_of_getElem? (i := 93) rfl), Or.inl ⟨tb4 _ (List.mem_of_getElem? (i := 92) rfl), rfl⟩⟩)
theorem lk_RL_191 : xLk RL (.invokevirtual 191) m_X10_drop true := Or.inl ⟨_, rfl, rfl, rfl, tb7 _ (List.mem_of_getElem? (i := 30) rfl), tb7 _ (List.mem_of_getElem? (i := 31) rfl), Or.inl (tb7 _ (List.mem_of_getElem? (i := 29) rfl))⟩
theorem lk_RL_192 : xLk RL (.invokestatic 192) m_L_edges false := Or.inr (Or.inl ⟨_, rfl, rfl, tb4 _ (List.mem_of_getElem? (i := 104) rfl), Or.inl ⟨tb4 _ (List.mem_of_getElem? (i := 103) rfl), rfl⟩⟩)
theorem lk_RL_194 : xLk RL (.invokevirtual 194) m_X10_edges true := Or.inl ⟨_, rfl, rfl, rfl, tb7 _ (List.mem_of_getElem? (i := 34) rfl), tb7 _ (List.mem_of_getElem? (i := 35) rfl), Or.inl (tb7 _ (List.mem_of_getElem? (i := 33) rfl))⟩
theorem lk_RL_195 : xLk RL (.invokestatic 195) m_L_supply false := Or.inr (Or.inl ⟨_, rfl, rfl, tb4 _ (List.mem_of_getElem? (i := 111) rfl), Or.inl ⟨tb4 _ (List.mem_of_getElem? (i := 110) rfl), rfl⟩⟩)
theorem lk_RL_198 : xLk RL (.invokevirtual 198) m_X10_supply true := Or.inl ⟨_, rfl, rfl, rfl, tb7 _ (List.mem_of_getElem? (i := 38) rfl), tb7 _ (List.mem_of_getElem? (i := 39) rfl), Or.inl (tb7 _ (List.mem_of_getElem? (i := 37) rfl))⟩
theorem lk_RL_199 : xLk RL (.invokestatic 199) m_L_most false := Or.inr (Or.inl ⟨_, rfl, rfl, tb4 _ (List.mem_of_getElem? (i := 123) rfl), Or.inl ⟨tb4 _ (List.mem_of_getElem? (i := 122) rfl), rfl⟩⟩)
theorem lk_RL_201 : xLk RL (.invokevirtual 201) m_X10_most true := Or.inl ⟨_, rfl, rfl, rfl, tb7 _ (List.mem_of_getElem? (i := 42) rfl), tb7 _ (List.mem_of_getElem? (i := 43) rfl), Or.inl (tb7 _ (List.mem_of_getElem? (i := 41) rfl))⟩
theorem lk_RL_202 : xLk RL (.invokestatic 202) m_L_flow false := Or.inr (Or.inl ⟨_, rfl, rfl, tb4 _ (List.mem_of_getElem? (i := 154) rfl), Or.inl ⟨tb4 _ (List.mem_of_getElem? (i := 153) rfl), rfl⟩⟩)
theorem lk_RL_205 : xLk RL (.invokevirtual 205) m_X10_flow true := Or.inl ⟨_, rfl, rfl, rfl, tb7 _ (List.mem_of_getElem? (i := 101) rfl), tb7 _ (List.mem_of_getElem? (i := 102) rfl), Or.inl (tb7 _ (List.mem_of_getElem? (i := 100) rfl))⟩
theorem lk_RL_206 : xLk RL (.invokestatic 206) m_L_crowd false := Or.inr (Or.inl ⟨_, rfl, rfl, tb4 _ (List.mem_of_getElem? (i := 166) rfl), Or.inl ⟨tb4 _ (List.mem_of_getElem? (i := 165) rfl), rfl⟩⟩)
theorem lk_RL_208 : xLk RL (.invokevirtual 208) m_X10_crowd true := Or.inl ⟨_, rfl, rfl, rfl, tb7 _ (List.mem_of_getElem? (i := 127) rfl), tb7 _ (List.mem_of_getElem? (i := 128) rfl), Or.inl (tb7 _ (List.mem_of_getElem? (i := 126) rfl))⟩
theorem lk_RL_209 : xLk RL (.invokestatic 209) m_L_cut false := Or.inr (Or.inl ⟨_, rfl, rfl, tb4 _ (List.mem_of_getElem? (i := 174) rfl), Or.inl ⟨tb4 _ (List.mem_of_getElem? (i := 173) rfl), rfl⟩⟩)
theorem lk_RL_212 : xLk RL (.invokevirtual 212) m_X10_cut true := Or.inl ⟨_, rfl, rfl, rfl, tb7 _ (List.mem_of_getElem? (i := 131) rfl), tb7 _ (List.mem_of_getElem? (i := 132) rfl), Or.inl (tb7 _ (List.mem_of_getElem? (i := 130) rfl))⟩
theorem lk_RL_213 : xLk RL (.invokestatic 213) m_L_cutSum false := Or.inr (Or.inl ⟨_, rfl, rfl, tb4 _ (List.mem_of_getElem? (i := 181) rfl), Or.inl ⟨tb4 _ (List.mem_of_getElem? (i := 180) rfl), rfl⟩⟩)
theorem lk_RL_215 : xLk RL (.invokevirtual 215) m_X10_cutSum true := Or.inl ⟨_, rfl, rfl, rfl, tb7 _ (List.mem_of_getElem? (i := 136) rfl), tb7 _ (List.mem_of_getElem? (i := 137) rfl), Or.inl (tb7 _ (List.mem_of_getElem? (i := 135) rfl))⟩
theorem lk_RL_216 : xLk RL (.invokestatic 216) m_L_cuts false := Or.inr (Or.inl ⟨_, rfl, rfl, tb4 _ (List.mem_of_getElem? (i := 190) rfl), Or.inl ⟨tb4 _ (List.mem_of_getElem? (i := 189) rfl), rfl⟩⟩)
theorem lk_RL_218 : xLk RL (.invokevirtual 218) m_X10_cuts true := Or.inl ⟨_, rfl, rfl, rfl, tb7 _ (List.mem_of_getElem? (i := 140) rfl), tb7 _ (List.mem_of_getElem? (i := 141) rfl), Or.inl (tb7 _ (List.mem_of_getElem? (i := 139) rfl))⟩
theorem lk_RL_219 : xLk RL (.invokestatic 219) m_L_isFull false := Or.inr (Or.inl ⟨_, rfl, rfl, tb4 _ (List.mem_of_getElem? (i := 197) rfl), Or.inl ⟨tb4 _ (List.mem_of_getElem? (i := 196) rfl), rfl⟩⟩)
theorem lk_RL_221 : xLk RL (.invokevirtual 221) m_X10_isFull true := Or.inl ⟨_, rfl, rfl, rfl, tb7 _ (List.mem_of_getElem? (i := 144) rfl), tb7 _ (List.mem_of_getElem? (i := 145) rfl), Or.inl (tb7 _ (List.mem_of_getElem? (i := 143) rfl))⟩
theorem lk_RL_222 : xLk RL (.invokestatic 222) m_L_rounds false := Or.inr (Or.inl ⟨_, rfl, rfl, tb4 _ (List.mem_of_getElem? (i := 208) rfl), Or.inl ⟨tb4 _ (List.mem_of_getElem? (i := 207) rfl), rfl⟩⟩)
theorem lk_RL_224 : xLk RL (.invokevirtual 224) m_X10_rounds true := Or.inl ⟨_, rfl, rfl, rfl, tb7 _ (List.mem_of_getElem? (i := 148) rfl), tb7 _ (List.mem_of_getElem? (i := 149) rfl), Or.inl (tb7 _ (List.mem_of_getElem? (i := 147) rfl))⟩
theorem lk_RL_225 : xLk RL (.invokestatic 225) m_L_roundAmount false := Or.inr (Or.inl ⟨_, rfl, rfl, tb4 _ (List.mem_of_getElem? (i := 235) rfl), Or.inl ⟨tb4 _ (List.mem_of_getElem? (i := 234) rfl), rfl⟩⟩)
theorem lk_RL_227 : xLk RL (.invokevirtual 227) m_X10_roundAmount true := Or.inl ⟨_, rfl, rfl, rfl, tb7 _ (List.mem_of_getElem? (i := 187) rfl), tb7 _ (List.mem_of_getElem? (i := 188) rfl), Or.inl (tb7 _ (List.mem_of_getElem? (i := 186) rfl))⟩
theorem lk_RL_228 : xLk RL (.invokestatic 228) m_L_roundSign false := Or.inr (Or.inl ⟨_, rfl, rfl, tb5 _ (List.mem_of_getElem? (i := 7) rfl), Or.inl ⟨tb5 _ (List.mem_of_getElem? (i := 6) rfl), rfl⟩⟩)
theorem lk_RL_230 : xLk RL (.invokevirtual 230) m_X10_roundSign true := Or.inl ⟨_, rfl, rfl, rfl, tb7 _ (List.mem_of_getElem? (i := 195) rfl), tb7 _ (List.mem_of_getElem? (i := 196) rfl), Or.inl (tb7 _ (List.mem_of_getElem? (i := 194) rfl))⟩
theorem lk_RL_231 : xLk RL (.invokestatic 231) m_L_cost false := Or.inr (Or.inl ⟨_, rfl, rfl, tb5 _ (List.mem_of_getElem? (i := 23) rfl), Or.inl ⟨tb5 _ (List.mem_of_getElem? (i := 22) rfl), rfl⟩⟩)
theorem lk_RL_233 : xLk RL (.invokevirtual 233) m_X10_cost true := Or.inl ⟨_, rfl, rfl, rfl, tb7 _ (List.mem_of_getElem? (i := 199) rfl), tb7 _ (List.mem_of_getElem? (i := 200) rfl), Or.inl (tb7 _ (List.mem_of_getElem? (i := 198) rfl))⟩
theorem lk_RL_234 : xLk RL (.invokestatic 234) m_L_cheapest false := Or.inr (Or.inl ⟨_, rfl, rfl, tb5 _ (List.mem_of_getElem? (i := 42) rfl), Or.inl ⟨tb5 _ (List.mem_of_getElem? (i := 41) rfl), rfl⟩⟩)
theorem lk_RL_236 : xLk RL (.invokevirtual 236) m_X10_cheapest true := Or.inl ⟨_, rfl, rfl, rfl, tb7 _ (List.mem_of_getElem? (i := 219) rfl), tb7 _ (List.mem_of_getElem? (i := 220) rfl), Or.inl (tb7 _ (List.mem_of_getElem? (i := 218) rfl))⟩
theorem lk_RL_237 : xLk RL (.invokestatic 237) m_L_price false := Or.inr (Or.inl ⟨_, rfl, rfl, tb5 _ (List.mem_of_getElem? (i := 49) rfl), Or.inl ⟨tb5 _ (List.mem_of_getElem? (i := 48) rfl), rfl⟩⟩)
theorem lk_RL_239 : xLk RL (.invokevirtual 239) m_X10_price true := Or.inl ⟨_, rfl, rfl, rfl, tb7 _ (List.mem_of_getElem? (i := 223) rfl), tb7 _ (List.mem_of_getElem? (i := 224) rfl), Or.inl (tb7 _ (List.mem_of_getElem? (i := 222) rfl))⟩
theorem lk_RL_240 : xLk RL (.invokestatic 240) m_L_edgeWays false := Or.inr (Or.inl ⟨_, rfl, rfl, tb5 _ (List.mem_of_getElem? (i := 62) rfl), Or.inl ⟨tb5 _ (List.mem_of_getElem? (i := 61) rfl), rfl⟩⟩)
theorem lk_RL_242 : xLk RL (.invokevirtual 242) m_X10_edgeWays true := Or.inl ⟨_, rfl, rfl, rfl, tb7 _ (List.mem_of_getElem? (i := 227) rfl), tb7 _ (List.mem_of_getElem? (i := 228) rfl), Or.inl (tb7 _ (List.mem_of_getElem? (i := 226) rfl))⟩
theorem lk_RL_243 : xLk RL (.invokestatic 243) m_L_cornerWays false := Or.inr (Or.inl ⟨_, rfl, rfl, tb5 _ (List.mem_of_getElem? (i := 73) rfl), Or.inl ⟨tb5 _ (List.mem_of_getElem? (i := 72) rfl), rfl⟩⟩)
theorem lk_RL_245 : xLk RL (.invokevirtual 245) m_X10_cornerWays true := Or.inl ⟨_, rfl, rfl, rfl, tb7 _ (List.mem_of_getElem? (i := 235) rfl), tb7 _ (List.mem_of_getElem? (i := 236) rfl), Or.inl (tb7 _ (List.mem_of_getElem? (i := 234) rfl))⟩
theorem lk_RL_246 : xLk RL (.invokestatic 246) m_L_apart false := Or.inr (Or.inl ⟨_, rfl, rfl, tb5 _ (List.mem_of_getElem? (i := 84) rfl), Or.inl ⟨tb5 _ (List.mem_of_getElem? (i := 83) rfl), rfl⟩⟩)
theorem lk_RL_248 : xLk RL (.invokevirtual 248) m_X10_apart true := Or.inl ⟨_, rfl, rfl, rfl, tb8 _ (List.mem_of_getElem? (i := 14) rfl), tb8 _ (List.mem_of_getElem? (i := 15) rfl), Or.inl (tb8 _ (List.mem_of_getElem? (i := 13) rfl))⟩
theorem lk_RL_249 : xLk RL (.invokestatic 249) m_L_wider false := Or.inr (Or.inl ⟨_, rfl, rfl, tb5 _ (List.mem_of_getElem? (i := 106) rfl), Or.inl ⟨tb5 _ (List.mem_of_getElem? (i := 105) rfl), rfl⟩⟩)
theorem lk_RL_251 : xLk RL (.invokevirtual 251) m_X10_wider true := Or.inl ⟨_, rfl, rfl, rfl, tb8 _ (List.mem_of_getElem? (i := 18) rfl), tb8 _ (List.mem_of_getElem? (i := 19) rfl), Or.inl (tb8 _ (List.mem_of_getElem? (i := 17) rfl))⟩
theorem lk_RL_252 : xLk RL (.invokestatic 252) m_L_without false := Or.inr (Or.inl ⟨_, rfl, rfl, tb5 _ (List.mem_of_getElem? (i := 118) rfl), Or.inl ⟨tb5 _ (List.mem_of_getElem? (i := 117) rfl), rfl⟩⟩)
theorem lk_RL_254 : xLk RL (.invokevirtual 254) m_X10_without true := Or.inl ⟨_, rfl, rfl, rfl, tb8 _ (List.mem_of_getElem? (i := 22) rfl), tb8 _ (List.mem_of_getElem? (i := 23) rfl), Or.inl (tb8 _ (List.mem_of_getElem? (i := 21) rfl))⟩
theorem lk_RL_255 : xLk RL (.invokestatic 255) m_L_holds false := Or.inr (Or.inl ⟨_, rfl, rfl, tb5 _ (List.mem_of_getElem? (i := 125) rfl), Or.inl ⟨tb5 _ (List.mem_of_getElem? (i := 124) rfl), rfl⟩⟩)
theorem lk_RL_257 : xLk RL (.invokevirtual 257) m_X10_holds true := Or.inl ⟨_, rfl, rfl, rfl, tb8 _ (List.mem_of_getElem? (i := 26) rfl), tb8 _ (List.mem_of_getElem? (i := 27) rfl), Or.inl (tb8 _ (List.mem_of_getElem? (i := 25) rfl))⟩
theorem lk_RL_258 : xLk RL (.invokestatic 258) m_L_meets false := Or.inr (Or.inl ⟨_, rfl, rfl, tb5 _ (List.mem_of_getElem? (i := 136) rfl), Or.inl ⟨tb5 _ (List.mem_of_getElem? (i := 135) rfl), rfl⟩⟩)
theorem lk_RL_260 : xLk RL (.invokevirtual 260) m_X10_meets true := Or.inl ⟨_, rfl, rfl, rfl, tb8 _ (List.mem_of_getElem? (i := 38) rfl), tb8 _ (List.mem_of_getElem? (i := 39) rfl), Or.inl (tb8 _ (List.mem_of_getElem? (i := 37) rfl))⟩
theorem lk_RL_261 : xLk RL (.invokestatic 261) m_L_breaks false := Or.inr (Or.inl ⟨_, rfl, rfl, tb5 _ (List.mem_of_getElem? (i := 144) rfl), Or.inl ⟨tb5 _ (List.mem_of_getElem? (i := 143) rfl), rfl⟩⟩)
theorem lk_RL_263 : xLk RL (.invokevirtual 263) m_X10_breaks true := Or.inl ⟨_, rfl, rfl, rfl, tb8 _ (List.mem_of_getElem? (i := 46) rfl), tb8 _ (List.mem_of_getElem? (i := 47) rfl), Or.inl (tb8 _ (List.mem_of_getElem? (i := 45) rfl))⟩
theorem lk_RL_264 : xLk RL (.invokestatic 264) m_L_parent false := Or.inr (Or.inl ⟨_, rfl, rfl, tb5 _ (List.mem_of_getElem? (i := 160) rfl), Or.inl ⟨tb5 _ (List.mem_of_getElem? (i := 159) rfl), rfl⟩⟩)
theorem lk_RL_266 : xLk RL (.invokevirtual 266) m_X10_parent true := Or.inl ⟨_, rfl, rfl, rfl, tb8 _ (List.mem_of_getElem? (i := 50) rfl), tb8 _ (List.mem_of_getElem? (i := 51) rfl), Or.inl (tb8 _ (List.mem_of_getElem? (i := 49) rfl))⟩
theorem lk_RL_267 : xLk RL (.invokestatic 267) m_L_between false := Or.inr (Or.inl ⟨_, rfl, rfl, tb5 _ (List.mem_of_getElem? (i := 168) rfl), Or.inl ⟨tb5 _ (List.mem_of_getElem? (i := 167) rfl), rfl⟩⟩)
theorem lk_RL_269 : xLk RL (.invokevirtual 269) m_X10_between true := Or.inl ⟨_, rfl, rfl, rfl, tb8 _ (List.mem_of_getElem? (i := 67) rfl), tb8 _ (List.mem_of_getElem? (i := 68) rfl), Or.inl (tb8 _ (List.mem_of_getElem? (i := 66) rfl))⟩
theorem lk_RL_270 : xLk RL (.invokestatic 270) m_L_inSteps false := Or.inr (Or.inl ⟨_, rfl, rfl, tb5 _ (List.mem_of_getElem? (i := 175) rfl), Or.inl ⟨tb5 _ (List.mem_of_getElem? (i := 174) rfl), rfl⟩⟩)
theorem lk_RL_272 : xLk RL (.invokevirtual 272) m_X10_inSteps true := Or.inl ⟨_, rfl, rfl, rfl, tb8 _ (List.mem_of_getElem? (i := 71) rfl), tb8 _ (List.mem_of_getElem? (i := 72) rfl), Or.inl (tb8 _ (List.mem_of_getElem? (i := 70) rfl))⟩
theorem lk_RL_273 : xLk RL (.invokestatic 273) m_L_likes false := Or.inr (Or.inl ⟨_, rfl, rfl, tb5 _ (List.mem_of_getElem? (i := 187) rfl), Or.inl ⟨tb5 _ (List.mem_of_getElem? (i := 186) rfl), rfl⟩⟩)
theorem lk_RL_275 : xLk RL (.invokevirtual 275) m_X10_likes true := Or.inl ⟨_, rfl, rfl, rfl, tb8 _ (List.mem_of_getElem? (i := 84) rfl), tb8 _ (List.mem_of_getElem? (i := 85) rfl), Or.inl (tb8 _ (List.mem_of_getElem? (i := 83) rfl))⟩
theorem lk_RL_276 : xLk RL (.invokevirtual 276) m_X9_pairs true := Or.inl ⟨_, rfl, rfl, rfl, tb2 _ (List.mem_of_getElem? (i := 49) rfl), tb2 _ (List.mem_of_getElem? (i := 50) rfl), Or.inl (tb2 _ (List.mem_of_getElem? (i := 48) rfl))⟩
theorem lk_RL_279 : xLk RL (.invokevirtual 279) m_X10_pairs true := Or.inl ⟨_, rfl, rfl, rfl, tb8 _ (List.mem_of_getElem? (i := 88) rfl), tb8 _ (List.mem_of_getElem? (i := 89) rfl), Or.inl (tb8 _ (List.mem_of_getElem? (i := 87) rfl))⟩
theorem lk_RL_280 : xLk RL (.invokestatic 280) m_L_pairOf false := Or.inr (Or.inl ⟨_, rfl, rfl, tb5 _ (List.mem_of_getElem? (i := 199) rfl), Or.inl ⟨tb5 _ (List.mem_of_getElem? (i := 198) rfl), rfl⟩⟩)
theorem lk_RL_282 : xLk RL (.invokevirtual 282) m_X10_pairOf true := Or.inl ⟨_, rfl, rfl, rfl, tb8 _ (List.mem_of_getElem? (i := 100) rfl), tb8 _ (List.mem_of_getElem? (i := 101) rfl), Or.inl (tb8 _ (List.mem_of_getElem? (i := 99) rfl))⟩
theorem lk_RL_283 : xLk RL (.invokevirtual 283) m_X9_cover true := Or.inl ⟨_, rfl, rfl, rfl, tb2 _ (List.mem_of_getElem? (i := 67) rfl), tb2 _ (List.mem_of_getElem? (i := 68) rfl), Or.inl (tb2 _ (List.mem_of_getElem? (i := 66) rfl))⟩
theorem lk_RL_287 : xLk RL (.invokevirtual 287) m_X10_cover true := Or.inl ⟨_, rfl, rfl, rfl, tb8 _ (List.mem_of_getElem? (i := 104) rfl), tb8 _ (List.mem_of_getElem? (i := 105) rfl), Or.inl (tb8 _ (List.mem_of_getElem? (i := 103) rfl))⟩
theorem lk_RL_288 : xLk RL (.invokestatic 288) m_L_crowdOfLeft false := Or.inr (Or.inl ⟨_, rfl, rfl, tb5 _ (List.mem_of_getElem? (i := 207) rfl), Or.inl ⟨tb5 _ (List.mem_of_getElem? (i := 206) rfl), rfl⟩⟩)
theorem lk_RL_291 : xLk RL (.invokevirtual 291) m_X10_crowdOfLeft true := Or.inl ⟨_, rfl, rfl, rfl, tb8 _ (List.mem_of_getElem? (i := 108) rfl), tb8 _ (List.mem_of_getElem? (i := 109) rfl), Or.inl (tb8 _ (List.mem_of_getElem? (i := 107) rfl))⟩
theorem lk_RL_292 : xLk RL (.invokestatic 292) m_L_team false := Or.inr (Or.inl ⟨_, rfl, rfl, tb5 _ (List.mem_of_getElem? (i := 219) rfl), Or.inl ⟨tb5 _ (List.mem_of_getElem? (i := 218) rfl), rfl⟩⟩)
theorem lk_RL_294 : xLk RL (.invokevirtual 294) m_X10_team true := Or.inl ⟨_, rfl, rfl, rfl, tb8 _ (List.mem_of_getElem? (i := 112) rfl), tb8 _ (List.mem_of_getElem? (i := 113) rfl), Or.inl (tb8 _ (List.mem_of_getElem? (i := 111) rfl))⟩
theorem lk_RL_295 : xLk RL (.invokestatic 295) m_L_games false := Or.inr (Or.inl ⟨_, rfl, rfl, tb5 _ (List.mem_of_getElem? (i := 232) rfl), Or.inl ⟨tb5 _ (List.mem_of_getElem? (i := 231) rfl), rfl⟩⟩)
theorem lk_RL_297 : xLk RL (.invokevirtual 297) m_X10_games true := Or.inl ⟨_, rfl, rfl, rfl, tb8 _ (List.mem_of_getElem? (i := 116) rfl), tb8 _ (List.mem_of_getElem? (i := 117) rfl), Or.inl (tb8 _ (List.mem_of_getElem? (i := 115) rfl))⟩
theorem lk_RL_298 : xLk RL (.invokestatic 298) m_L_canWin false := Or.inr (Or.inl ⟨_, rfl, rfl, tb6 _ (List.mem_of_getElem? (i := 14) rfl), Or.inl ⟨tb6 _ (List.mem_of_getElem? (i := 13) rfl), rfl⟩⟩)
theorem lk_RL_300 : xLk RL (.invokevirtual 300) m_X10_canWin true := Or.inl ⟨_, rfl, rfl, rfl, tb8 _ (List.mem_of_getElem? (i := 120) rfl), tb8 _ (List.mem_of_getElem? (i := 121) rfl), Or.inl (tb8 _ (List.mem_of_getElem? (i := 119) rfl))⟩
theorem lk_RL_301 : xLk RL (.invokestatic 301) m_L_against false := Or.inr (Or.inl ⟨_, rfl, rfl, tb6 _ (List.mem_of_getElem? (i := 32) rfl), Or.inl ⟨tb6 _ (List.mem_of_getElem? (i := 31) rfl), rfl⟩⟩)
theorem lk_RL_303 : xLk RL (.invokevirtual 303) m_X10_against true := Or.inl ⟨_, rfl, rfl, rfl, tb8 _ (List.mem_of_getElem? (i := 132) rfl), tb8 _ (List.mem_of_getElem? (i := 133) rfl), Or.inl (tb8 _ (List.mem_of_getElem? (i := 131) rfl))⟩
theorem lk_RL_304 : xLk RL (.invokestatic 304) m_L_table false := Or.inr (Or.inl ⟨_, rfl, rfl, tb6 _ (List.mem_of_getElem? (i := 40) rfl), Or.inl ⟨tb6 _ (List.mem_of_getElem? (i := 39) rfl), rfl⟩⟩)
theorem lk_RL_306 : xLk RL (.invokevirtual 306) m_X10_table true := Or.inl ⟨_, rfl, rfl, rfl, tb8 _ (List.mem_of_getElem? (i := 136) rfl), tb8 _ (List.mem_of_getElem? (i := 137) rfl), Or.inl (tb8 _ (List.mem_of_getElem? (i := 135) rfl))⟩
theorem lk_RL_307 : xLk RL (.invokestatic 307) m_L_tell false := Or.inr (Or.inl ⟨_, rfl, rfl, tb6 _ (List.mem_of_getElem? (i := 52) rfl), Or.inl ⟨tb6 _ (List.mem_of_getElem? (i := 51) rfl), rfl⟩⟩)
theorem lk_RL_309 : xLk RL (.invokevirtual 309) m_X10_tell true := Or.inl ⟨_, rfl, rfl, rfl, tb8 _ (List.mem_of_getElem? (i := 140) rfl), tb8 _ (List.mem_of_getElem? (i := 141) rfl), Or.inl (tb8 _ (List.mem_of_getElem? (i := 139) rfl))⟩
theorem lk_RL_310 : xLk RL (.invokestatic 310) m_L_rounded false := Or.inr (Or.inl ⟨_, rfl, rfl, tb6 _ (List.mem_of_getElem? (i := 66) rfl), Or.inl ⟨tb6 _ (List.mem_of_getElem? (i := 65) rfl), rfl⟩⟩)
theorem lk_RL_312 : xLk RL (.invokevirtual 312) m_X10_rounded true := Or.inl ⟨_, rfl, rfl, rfl, tb8 _ (List.mem_of_getElem? (i := 144) rfl), tb8 _ (List.mem_of_getElem? (i := 145) rfl), Or.inl (tb8 _ (List.mem_of_getElem? (i := 143) rfl))⟩
theorem lk_RL_313 : xLk RL (.invokestatic 313) m_L_project false := Or.inr (Or.inl ⟨_, rfl, rfl, tb6 _ (List.mem_of_getElem? (i := 73) rfl), Or.inl ⟨tb6 _ (List.mem_of_getElem? (i := 72) rfl), rfl⟩⟩)
theorem lk_RL_315 : xLk RL (.invokevirtual 315) m_X10_project true := Or.inl ⟨_, rfl, rfl, rfl, tb8 _ (List.mem_of_getElem? (i := 171) rfl), tb8 _ (List.mem_of_getElem? (i := 172) rfl), Or.inl (tb8 _ (List.mem_of_getElem? (i := 170) rfl))⟩
theorem lk_RL_316 : xLk RL (.invokestatic 316) m_L_toolCost false := Or.inr (Or.inl ⟨_, rfl, rfl, tb6 _ (List.mem_of_getElem? (i := 86) rfl), Or.inl ⟨tb6 _ (List.mem_of_getElem? (i := 85) rfl), rfl⟩⟩)
theorem lk_RL_318 : xLk RL (.invokevirtual 318) m_X10_toolCost true := Or.inl ⟨_, rfl, rfl, rfl, tb8 _ (List.mem_of_getElem? (i := 175) rfl), tb8 _ (List.mem_of_getElem? (i := 176) rfl), Or.inl (tb8 _ (List.mem_of_getElem? (i := 174) rfl))⟩
theorem lk_RL_319 : xLk RL (.invokevirtual 319) m_X9_best true := Or.inl ⟨_, rfl, rfl, rfl, tb2 _ (List.mem_of_getElem? (i := 80) rfl), tb2 _ (List.mem_of_getElem? (i := 81) rfl), Or.inl (tb2 _ (List.mem_of_getElem? (i := 79) rfl))⟩
theorem lk_RL_322 : xLk RL (.invokevirtual 322) m_X10_best true := Or.inl ⟨_, rfl, rfl, rfl, tb8 _ (List.mem_of_getElem? (i := 179) rfl), tb8 _ (List.mem_of_getElem? (i := 180) rfl), Or.inl (tb8 _ (List.mem_of_getElem? (i := 178) rfl))⟩
theorem lk_RL_323 : xLk RL (.invokevirtual 323) m_X9_chosen true := Or.inl ⟨_, rfl, rfl, rfl, tb2 _ (List.mem_of_getElem? (i := 95) rfl), tb2 _ (List.mem_of_getElem? (i := 96) rfl), Or.inl (tb2 _ (List.mem_of_getElem? (i := 94) rfl))⟩
theorem lk_RL_326 : xLk RL (.invokevirtual 326) m_X10_chosen true := Or.inl ⟨_, rfl, rfl, rfl, tb8 _ (List.mem_of_getElem? (i := 187) rfl), tb8 _ (List.mem_of_getElem? (i := 188) rfl), Or.inl (tb8 _ (List.mem_of_getElem? (i := 186) rfl))⟩
theorem lk_RL_327 : xLk RL (.invokestatic 327) m_L_checksum false := Or.inr (Or.inl ⟨_, rfl, rfl, tb6 _ (List.mem_of_getElem? (i := 95) rfl), Or.inl ⟨tb6 _ (List.mem_of_getElem? (i := 94) rfl), rfl⟩⟩)
theorem lk_RL_329 : xLk RL (.invokevirtual 329) m_X10_checksum true := Or.inl ⟨_, rfl, rfl, rfl, tb8 _ (List.mem_of_getElem? (i := 192) rfl), tb8 _ (List.mem_of_getElem? (i := 193) rfl), Or.inl (tb8 _ (List.mem_of_getElem? (i := 191) rfl))⟩
theorem lk_RL_330 : xLk RL (.invokestatic 330) m_L_fullShare false := Or.inr (Or.inl ⟨_, rfl, rfl, tb6 _ (List.mem_of_getElem? (i := 108) rfl), Or.inl ⟨tb6 _ (List.mem_of_getElem? (i := 107) rfl), rfl⟩⟩)
theorem lk_RL_333 : xLk RL (.invokevirtual 333) m_X10_fullShare true := Or.inl ⟨_, rfl, rfl, rfl, tb8 _ (List.mem_of_getElem? (i := 198) rfl), tb8 _ (List.mem_of_getElem? (i := 199) rfl), Or.inl (tb8 _ (List.mem_of_getElem? (i := 197) rfl))⟩
theorem lk_RL_334 : xLk RL (.invokestatic 334) m_L_meanFlow false := Or.inr (Or.inl ⟨_, rfl, rfl, tb6 _ (List.mem_of_getElem? (i := 119) rfl), Or.inl ⟨tb6 _ (List.mem_of_getElem? (i := 118) rfl), rfl⟩⟩)
theorem lk_RL_336 : xLk RL (.invokevirtual 336) m_X10_meanFlow true := Or.inl ⟨_, rfl, rfl, rfl, tb8 _ (List.mem_of_getElem? (i := 202) rfl), tb8 _ (List.mem_of_getElem? (i := 203) rfl), Or.inl (tb8 _ (List.mem_of_getElem? (i := 201) rfl))⟩
theorem lk_RL_337 : xLk RL (.invokevirtual 337) m_X9_isSound true := Or.inl ⟨_, rfl, rfl, rfl, tb2 _ (List.mem_of_getElem? (i := 99) rfl), tb2 _ (List.mem_of_getElem? (i := 100) rfl), Or.inl (tb2 _ (List.mem_of_getElem? (i := 98) rfl))⟩
theorem lk_RL_341 : xLk RL (.invokevirtual 341) m_X10_isSound true := Or.inl ⟨_, rfl, rfl, rfl, tb8 _ (List.mem_of_getElem? (i := 206) rfl), tb8 _ (List.mem_of_getElem? (i := 207) rfl), Or.inl (tb8 _ (List.mem_of_getElem? (i := 205) rfl))⟩
theorem lk_RX10_95 : xLk RX10 (.invokestatic 95) m_X10_has false := Or.inr (Or.inl ⟨_, rfl, rfl, tb7 _ (List.mem_of_getElem? (i := 66) rfl), Or.inl ⟨tb7 _ (List.mem_of_getElem? (i := 65) rfl), rfl⟩⟩)
theorem lk_RX10_102 : xLk RX10 (.invokestatic 102) m_X10_in false := Or.inr (Or.inl ⟨_, rfl, rfl, tb7 _ (List.mem_of_getElem? (i := 0) rfl), Or.inl ⟨tb6 _ (List.mem_of_getElem? (i := 239) rfl), rfl⟩⟩)
theorem lk_RX10_106 : xLk RX10 (.invokevirtual 106) m_X10_isCorner true := Or.inl ⟨_, rfl, rfl, rfl, tb7 _ (List.mem_of_getElem? (i := 16) rfl), tb0 _ (List.mem_of_getElem? (i := 29) rfl), Or.inl (tb7 _ (List.mem_of_getElem? (i := 14) rfl))⟩
theorem lk_RX10_109 : xLk RX10 (.invokevirtual 109) m_X10_isNet true := Or.inl ⟨_, rfl, rfl, rfl, tb7 _ (List.mem_of_getElem? (i := 8) rfl), tb0 _ (List.mem_of_getElem? (i := 27) rfl), Or.inl (tb7 _ (List.mem_of_getElem? (i := 6) rfl))⟩
theorem lk_RX10_113 : xLk RX10 (.invokevirtual 113) m_X10_areTwo true := Or.inl ⟨_, rfl, rfl, rfl, tb7 _ (List.mem_of_getElem? (i := 12) rfl), tb0 _ (List.mem_of_getElem? (i := 28) rfl), Or.inl (tb7 _ (List.mem_of_getElem? (i := 10) rfl))⟩
theorem lk_RX10_116 : xLk RX10 (.invokevirtual 116) m_X10_isEdge true := Or.inl ⟨_, rfl, rfl, rfl, tb7 _ (List.mem_of_getElem? (i := 27) rfl), tb0 _ (List.mem_of_getElem? (i := 30) rfl), Or.inl (tb7 _ (List.mem_of_getElem? (i := 25) rfl))⟩
theorem lk_RX10_119 : xLk RX10 (.invokestatic 119) m_X10_areBounds false := Or.inr (Or.inl ⟨_, rfl, rfl, tb7 _ (List.mem_of_getElem? (i := 19) rfl), Or.inl ⟨tb7 _ (List.mem_of_getElem? (i := 18) rfl), rfl⟩⟩)
theorem lk_RX10_122 : xLk RX10 (.invokevirtual 122) m_X10_leaves true := Or.inl ⟨_, rfl, rfl, rfl, tb7 _ (List.mem_of_getElem? (i := 74) rfl), tb0 _ (List.mem_of_getElem? (i := 37) rfl), Or.inl (tb7 _ (List.mem_of_getElem? (i := 72) rfl))⟩
theorem lk_RX10_125 : xLk RX10 (.invokevirtual 125) m_X10_enters true := Or.inl ⟨_, rfl, rfl, rfl, tb7 _ (List.mem_of_getElem? (i := 82) rfl), tb0 _ (List.mem_of_getElem? (i := 39) rfl), Or.inl (tb7 _ (List.mem_of_getElem? (i := 80) rfl))⟩
theorem lk_RX10_128 : xLk RX10 (.invokevirtual 128) m_X10_sets true := Or.inl ⟨_, rfl, rfl, rfl, tb7 _ (List.mem_of_getElem? (i := 63) rfl), tb0 _ (List.mem_of_getElem? (i := 35) rfl), Or.inl (tb7 _ (List.mem_of_getElem? (i := 61) rfl))⟩
theorem lk_RX10_132 : xLk RX10 (.invokevirtual 132) m_X10_leastOut true := Or.inl ⟨_, rfl, rfl, rfl, tb7 _ (List.mem_of_getElem? (i := 70) rfl), tb0 _ (List.mem_of_getElem? (i := 36) rfl), Or.inl (tb7 _ (List.mem_of_getElem? (i := 68) rfl))⟩
theorem lk_RX10_136 : xLk RX10 (.invokevirtual 136) m_X10_mostIn true := Or.inl ⟨_, rfl, rfl, rfl, tb7 _ (List.mem_of_getElem? (i := 78) rfl), tb0 _ (List.mem_of_getElem? (i := 38) rfl), Or.inl (tb7 _ (List.mem_of_getElem? (i := 76) rfl))⟩
theorem lk_RX10_139 : xLk RX10 (.invokevirtual 139) m_X10_mostOut true := Or.inl ⟨_, rfl, rfl, rfl, tb7 _ (List.mem_of_getElem? (i := 94) rfl), tb0 _ (List.mem_of_getElem? (i := 41) rfl), Or.inl (tb7 _ (List.mem_of_getElem? (i := 92) rfl))⟩
theorem lk_RX10_142 : xLk RX10 (.invokevirtual 142) m_X10_leastIn true := Or.inl ⟨_, rfl, rfl, rfl, tb7 _ (List.mem_of_getElem? (i := 98) rfl), tb0 _ (List.mem_of_getElem? (i := 42) rfl), Or.inl (tb7 _ (List.mem_of_getElem? (i := 96) rfl))⟩
theorem lk_RX10_145 : xLk RX10 (.invokevirtual 145) m_X10_proof true := Or.inl ⟨_, rfl, rfl, rfl, tb7 _ (List.mem_of_getElem? (i := 59) rfl), tb0 _ (List.mem_of_getElem? (i := 34) rfl), Or.inl (tb7 _ (List.mem_of_getElem? (i := 57) rfl))⟩
theorem lk_RX10_150 : xLk RX10 (.invokestatic 150) m_X10_isBetween false := Or.inr (Or.inl ⟨_, rfl, rfl, tb7 _ (List.mem_of_getElem? (i := 86) rfl), Or.inl ⟨tb7 _ (List.mem_of_getElem? (i := 85) rfl), rfl⟩⟩)
theorem lk_RX10_153 : xLk RX10 (.invokevirtual 153) m_X10_sumOf true := Or.inl ⟨_, rfl, rfl, rfl, tb7 _ (List.mem_of_getElem? (i := 90) rfl), tb0 _ (List.mem_of_getElem? (i := 40) rfl), Or.inl (tb7 _ (List.mem_of_getElem? (i := 88) rfl))⟩
theorem lk_RX10_156 : xLk RX10 (.invokestatic 156) m_X10_beyond false := Or.inr (Or.inl ⟨_, rfl, rfl, tb7 _ (List.mem_of_getElem? (i := 121) rfl), Or.inl ⟨tb7 _ (List.mem_of_getElem? (i := 120) rfl), rfl⟩⟩)
theorem lk_RX10_160 : xLk RX10 (.invokestatic 160) m_X10_max false := Or.inr (Or.inl ⟨_, rfl, rfl, tb7 _ (List.mem_of_getElem? (i := 124) rfl), Or.inl ⟨tb7 _ (List.mem_of_getElem? (i := 123) rfl), rfl⟩⟩)
theorem lk_RX10_163 : xLk RX10 (.invokevirtual 163) m_X10_leastOf true := Or.inl ⟨_, rfl, rfl, rfl, tb7 _ (List.mem_of_getElem? (i := 118) rfl), tb0 _ (List.mem_of_getElem? (i := 46) rfl), Or.inl (tb7 _ (List.mem_of_getElem? (i := 116) rfl))⟩
theorem lk_RX10_167 : xLk RX10 (.invokevirtual 167) m_X10_looksAt true := Or.inl ⟨_, rfl, rfl, rfl, tb7 _ (List.mem_of_getElem? (i := 51) rfl), tb0 _ (List.mem_of_getElem? (i := 32) rfl), Or.inl (tb7 _ (List.mem_of_getElem? (i := 49) rfl))⟩
theorem lk_RX10_171 : xLk RX10 (.invokevirtual 171) m_X10_amount true := Or.inl ⟨_, rfl, rfl, rfl, tb7 _ (List.mem_of_getElem? (i := 55) rfl), tb0 _ (List.mem_of_getElem? (i := 33) rfl), Or.inl (tb7 _ (List.mem_of_getElem? (i := 53) rfl))⟩
theorem lk_RX10_174 : xLk RX10 (.invokevirtual 174) m_X10_settles true := Or.inl ⟨_, rfl, rfl, rfl, tb7 _ (List.mem_of_getElem? (i := 114) rfl), tb0 _ (List.mem_of_getElem? (i := 45) rfl), Or.inl (tb7 _ (List.mem_of_getElem? (i := 112) rfl))⟩
theorem lk_RX10_178 : xLk RX10 (.invokevirtual 178) m_X10_wrong true := Or.inl ⟨_, rfl, rfl, rfl, tb7 _ (List.mem_of_getElem? (i := 47) rfl), tb0 _ (List.mem_of_getElem? (i := 31) rfl), Or.inl (tb7 _ (List.mem_of_getElem? (i := 45) rfl))⟩
theorem lk_RX10_181 : xLk RX10 (.invokevirtual 181) m_X10_wrongEdge true := Or.inl ⟨_, rfl, rfl, rfl, tb7 _ (List.mem_of_getElem? (i := 106) rfl), tb0 _ (List.mem_of_getElem? (i := 43) rfl), Or.inl (tb7 _ (List.mem_of_getElem? (i := 104) rfl))⟩
theorem lk_RX10_184 : xLk RX10 (.invokevirtual 184) m_X10_finds true := Or.inl ⟨_, rfl, rfl, rfl, tb7 _ (List.mem_of_getElem? (i := 110) rfl), tb0 _ (List.mem_of_getElem? (i := 44) rfl), Or.inl (tb7 _ (List.mem_of_getElem? (i := 108) rfl))⟩
theorem lk_RX10_187 : xLk RX10 (.invokevirtual 187) m_X10_most true := Or.inl ⟨_, rfl, rfl, rfl, tb7 _ (List.mem_of_getElem? (i := 42) rfl), tb7 _ (List.mem_of_getElem? (i := 43) rfl), Or.inl (tb7 _ (List.mem_of_getElem? (i := 134) rfl))⟩
theorem lk_RX10_190 : xLk RX10 (.invokevirtual 190) m_X10_isOpen true := Or.inl ⟨_, rfl, rfl, rfl, tb7 _ (List.mem_of_getElem? (i := 169) rfl), tb0 _ (List.mem_of_getElem? (i := 51) rfl), Or.inl (tb7 _ (List.mem_of_getElem? (i := 167) rfl))⟩
theorem lk_RX10_193 : xLk RX10 (.invokevirtual 193) m_X10_begin true := Or.inl ⟨_, rfl, rfl, rfl, tb7 _ (List.mem_of_getElem? (i := 173) rfl), tb0 _ (List.mem_of_getElem? (i := 52) rfl), Or.inl (tb7 _ (List.mem_of_getElem? (i := 171) rfl))⟩
theorem lk_RX10_196 : xLk RX10 (.invokevirtual 196) m_X10_end true := Or.inl ⟨_, rfl, rfl, rfl, tb7 _ (List.mem_of_getElem? (i := 177) rfl), tb0 _ (List.mem_of_getElem? (i := 53) rfl), Or.inl (tb7 _ (List.mem_of_getElem? (i := 175) rfl))⟩
theorem lk_RX10_199 : xLk RX10 (.invokestatic 199) m_X10_min false := Or.inr (Or.inl ⟨_, rfl, rfl, tb7 _ (List.mem_of_getElem? (i := 180) rfl), Or.inl ⟨tb7 _ (List.mem_of_getElem? (i := 179) rfl), rfl⟩⟩)
theorem lk_RX10_202 : xLk RX10 (.invokevirtual 202) m_X10_measures true := Or.inl ⟨_, rfl, rfl, rfl, tb7 _ (List.mem_of_getElem? (i := 165) rfl), tb0 _ (List.mem_of_getElem? (i := 50) rfl), Or.inl (tb7 _ (List.mem_of_getElem? (i := 163) rfl))⟩
theorem lk_RX10_212 : xLk RX10 (.invokevirtual 212) m_X10_goes true := Or.inl ⟨_, rfl, rfl, rfl, tb7 _ (List.mem_of_getElem? (i := 161) rfl), tb0 _ (List.mem_of_getElem? (i := 49) rfl), Or.inl (tb7 _ (List.mem_of_getElem? (i := 159) rfl))⟩
theorem lk_RX10_216 : xLk RX10 (.invokevirtual 216) m_X10_puts true := Or.inl ⟨_, rfl, rfl, rfl, tb7 _ (List.mem_of_getElem? (i := 184) rfl), tb0 _ (List.mem_of_getElem? (i := 54) rfl), Or.inl (tb7 _ (List.mem_of_getElem? (i := 182) rfl))⟩
theorem lk_RX10_219 : xLk RX10 (.invokevirtual 219) m_X10_wrongRounds true := Or.inl ⟨_, rfl, rfl, rfl, tb7 _ (List.mem_of_getElem? (i := 153) rfl), tb0 _ (List.mem_of_getElem? (i := 47) rfl), Or.inl (tb7 _ (List.mem_of_getElem? (i := 151) rfl))⟩
theorem lk_RX10_222 : xLk RX10 (.invokevirtual 222) m_X10_roundsTo true := Or.inl ⟨_, rfl, rfl, rfl, tb7 _ (List.mem_of_getElem? (i := 157) rfl), tb0 _ (List.mem_of_getElem? (i := 48) rfl), Or.inl (tb7 _ (List.mem_of_getElem? (i := 155) rfl))⟩
theorem lk_RX10_225 : xLk RX10 (.invokevirtual 225) m_X10_isRound true := Or.inl ⟨_, rfl, rfl, rfl, tb7 _ (List.mem_of_getElem? (i := 192) rfl), tb0 _ (List.mem_of_getElem? (i := 55) rfl), Or.inl (tb7 _ (List.mem_of_getElem? (i := 190) rfl))⟩
theorem lk_RX10_229 : xLk RX10 (.invokevirtual 229) m_X10_costAlong true := Or.inl ⟨_, rfl, rfl, rfl, tb7 _ (List.mem_of_getElem? (i := 212) rfl), tb0 _ (List.mem_of_getElem? (i := 58) rfl), Or.inl (tb7 _ (List.mem_of_getElem? (i := 210) rfl))⟩
theorem lk_RX10_232 : xLk RX10 (.invokevirtual 232) m_X10_costsFrom true := Or.inl ⟨_, rfl, rfl, rfl, tb7 _ (List.mem_of_getElem? (i := 208) rfl), tb0 _ (List.mem_of_getElem? (i := 57) rfl), Or.inl (tb7 _ (List.mem_of_getElem? (i := 206) rfl))⟩
theorem lk_RX10_235 : xLk RX10 (.invokevirtual 235) m_X10_turnsRound true := Or.inl ⟨_, rfl, rfl, rfl, tb7 _ (List.mem_of_getElem? (i := 216) rfl), tb0 _ (List.mem_of_getElem? (i := 59) rfl), Or.inl (tb7 _ (List.mem_of_getElem? (i := 214) rfl))⟩
theorem lk_RX10_238 : xLk RX10 (.invokevirtual 238) m_X10_findsCheap true := Or.inl ⟨_, rfl, rfl, rfl, tb7 _ (List.mem_of_getElem? (i := 204) rfl), tb0 _ (List.mem_of_getElem? (i := 56) rfl), Or.inl (tb7 _ (List.mem_of_getElem? (i := 202) rfl))⟩
theorem lk_RX10_241 : xLk RX10 (.invokevirtual 241) m_X10_counts true := Or.inl ⟨_, rfl, rfl, rfl, tb7 _ (List.mem_of_getElem? (i := 232) rfl), tb0 _ (List.mem_of_getElem? (i := 60) rfl), Or.inl (tb7 _ (List.mem_of_getElem? (i := 230) rfl))⟩
theorem lk_RX10_244 : xLk RX10 (.invokevirtual 244) m_X10_leads true := Or.inl ⟨_, rfl, rfl, rfl, tb8 _ (List.mem_of_getElem? (i := 8) rfl), tb0 _ (List.mem_of_getElem? (i := 63) rfl), Or.inl (tb8 _ (List.mem_of_getElem? (i := 6) rfl))⟩
theorem lk_RX10_247 : xLk RX10 (.invokestatic 247) m_X10_bits false := Or.inr (Or.inl ⟨_, rfl, rfl, tb8 _ (List.mem_of_getElem? (i := 11) rfl), Or.inl ⟨tb8 _ (List.mem_of_getElem? (i := 10) rfl), rfl⟩⟩)
theorem lk_RX10_250 : xLk RX10 (.invokevirtual 250) m_X10_direct true := Or.inl ⟨_, rfl, rfl, rfl, tb8 _ (List.mem_of_getElem? (i := 0) rfl), tb0 _ (List.mem_of_getElem? (i := 61) rfl), Or.inl (tb7 _ (List.mem_of_getElem? (i := 238) rfl))⟩
theorem lk_RX10_253 : xLk RX10 (.invokevirtual 253) m_X10_parting true := Or.inl ⟨_, rfl, rfl, rfl, tb8 _ (List.mem_of_getElem? (i := 4) rfl), tb0 _ (List.mem_of_getElem? (i := 62) rfl), Or.inl (tb8 _ (List.mem_of_getElem? (i := 2) rfl))⟩
theorem lk_RX10_256 : xLk RX10 (.invokevirtual 256) m_X10_supplies true := Or.inl ⟨_, rfl, rfl, rfl, tb8 _ (List.mem_of_getElem? (i := 35) rfl), tb0 _ (List.mem_of_getElem? (i := 65) rfl), Or.inl (tb8 _ (List.mem_of_getElem? (i := 33) rfl))⟩
theorem lk_RX10_259 : xLk RX10 (.invokevirtual 259) m_X10_breaking true := Or.inl ⟨_, rfl, rfl, rfl, tb8 _ (List.mem_of_getElem? (i := 31) rfl), tb0 _ (List.mem_of_getElem? (i := 64) rfl), Or.inl (tb8 _ (List.mem_of_getElem? (i := 29) rfl))⟩
theorem lk_RX10_262 : xLk RX10 (.invokevirtual 262) m_X10_leastMeeting true := Or.inl ⟨_, rfl, rfl, rfl, tb8 _ (List.mem_of_getElem? (i := 43) rfl), tb0 _ (List.mem_of_getElem? (i := 66) rfl), Or.inl (tb8 _ (List.mem_of_getElem? (i := 41) rfl))⟩
theorem lk_RX10_266 : xLk RX10 (.invokevirtual 266) m_X10_bothWays true := Or.inl ⟨_, rfl, rfl, rfl, tb8 _ (List.mem_of_getElem? (i := 64) rfl), tb0 _ (List.mem_of_getElem? (i := 69) rfl), Or.inl (tb8 _ (List.mem_of_getElem? (i := 62) rfl))⟩
theorem lk_RX10_269 : xLk RX10 (.invokevirtual 269) m_X10_leastBetween true := Or.inl ⟨_, rfl, rfl, rfl, tb8 _ (List.mem_of_getElem? (i := 59) rfl), tb0 _ (List.mem_of_getElem? (i := 68) rfl), Or.inl (tb8 _ (List.mem_of_getElem? (i := 57) rfl))⟩
theorem lk_RX10_272 : xLk RX10 (.invokevirtual 272) m_X10_grows true := Or.inl ⟨_, rfl, rfl, rfl, tb8 _ (List.mem_of_getElem? (i := 55) rfl), tb0 _ (List.mem_of_getElem? (i := 67) rfl), Or.inl (tb8 _ (List.mem_of_getElem? (i := 53) rfl))⟩
theorem lk_RX10_275 : xLk RX10 (.invokevirtual 275) m_X10_parted true := Or.inl ⟨_, rfl, rfl, rfl, tb8 _ (List.mem_of_getElem? (i := 76) rfl), tb0 _ (List.mem_of_getElem? (i := 70) rfl), Or.inl (tb8 _ (List.mem_of_getElem? (i := 74) rfl))⟩
theorem lk_RX10_279 : xLk RX10 (.invokevirtual 279) m_X10_lost true := Or.inl ⟨_, rfl, rfl, rfl, tb8 _ (List.mem_of_getElem? (i := 81) rfl), tb0 _ (List.mem_of_getElem? (i := 71) rfl), Or.inl (tb8 _ (List.mem_of_getElem? (i := 79) rfl))⟩
theorem lk_RX10_282 : xLk RX10 (.invokevirtual 282) m_X10_likedBy true := Or.inl ⟨_, rfl, rfl, rfl, tb8 _ (List.mem_of_getElem? (i := 97) rfl), tb0 _ (List.mem_of_getElem? (i := 73) rfl), Or.inl (tb8 _ (List.mem_of_getElem? (i := 95) rfl))⟩
theorem lk_RX10_285 : xLk RX10 (.invokevirtual 285) m_X10_pairsOf true := Or.inl ⟨_, rfl, rfl, rfl, tb8 _ (List.mem_of_getElem? (i := 93) rfl), tb0 _ (List.mem_of_getElem? (i := 72) rfl), Or.inl (tb8 _ (List.mem_of_getElem? (i := 91) rfl))⟩
theorem lk_RX10_291 : xLk RX10 (.invokevirtual 291) m_X10_winsOf true := Or.inl ⟨_, rfl, rfl, rfl, tb8 _ (List.mem_of_getElem? (i := 129) rfl), tb0 _ (List.mem_of_getElem? (i := 75) rfl), Or.inl (tb8 _ (List.mem_of_getElem? (i := 127) rfl))⟩
theorem lk_RX10_294 : xLk RX10 (.invokevirtual 294) m_X10_proofAgainst true := Or.inl ⟨_, rfl, rfl, rfl, tb8 _ (List.mem_of_getElem? (i := 125) rfl), tb0 _ (List.mem_of_getElem? (i := 74) rfl), Or.inl (tb8 _ (List.mem_of_getElem? (i := 123) rfl))⟩
theorem lk_RX10_297 : xLk RX10 (.invokestatic 297) m_X10_isNear false := Or.inr (Or.inl ⟨_, rfl, rfl, tb8 _ (List.mem_of_getElem? (i := 160) rfl), Or.inl ⟨tb8 _ (List.mem_of_getElem? (i := 159) rfl), rfl⟩⟩)
theorem lk_RX10_300 : xLk RX10 (.invokevirtual 300) m_X10_isRowNear true := Or.inl ⟨_, rfl, rfl, rfl, tb8 _ (List.mem_of_getElem? (i := 157) rfl), tb0 _ (List.mem_of_getElem? (i := 78) rfl), Or.inl (tb8 _ (List.mem_of_getElem? (i := 155) rfl))⟩
theorem lk_RX10_303 : xLk RX10 (.invokevirtual 303) m_X10_isColumnNear true := Or.inl ⟨_, rfl, rfl, rfl, tb8 _ (List.mem_of_getElem? (i := 164) rfl), tb0 _ (List.mem_of_getElem? (i := 79) rfl), Or.inl (tb8 _ (List.mem_of_getElem? (i := 162) rfl))⟩
theorem lk_RX10_306 : xLk RX10 (.invokevirtual 306) m_X10_areAllNear true := Or.inl ⟨_, rfl, rfl, rfl, tb8 _ (List.mem_of_getElem? (i := 168) rfl), tb0 _ (List.mem_of_getElem? (i := 80) rfl), Or.inl (tb8 _ (List.mem_of_getElem? (i := 166) rfl))⟩
theorem lk_RX10_310 : xLk RX10 (.invokevirtual 310) m_X10_areNear true := Or.inl ⟨_, rfl, rfl, rfl, tb8 _ (List.mem_of_getElem? (i := 153) rfl), tb0 _ (List.mem_of_getElem? (i := 77) rfl), Or.inl (tb8 _ (List.mem_of_getElem? (i := 151) rfl))⟩
theorem lk_RX10_313 : xLk RX10 (.invokevirtual 313) m_X10_roundsAll true := Or.inl ⟨_, rfl, rfl, rfl, tb8 _ (List.mem_of_getElem? (i := 149) rfl), tb0 _ (List.mem_of_getElem? (i := 76) rfl), Or.inl (tb8 _ (List.mem_of_getElem? (i := 147) rfl))⟩
theorem lk_RX10_319 : xLk RX10 (.invokevirtual 319) m_X10_worthOf true := Or.inl ⟨_, rfl, rfl, rfl, tb8 _ (List.mem_of_getElem? (i := 184) rfl), tb0 _ (List.mem_of_getElem? (i := 81) rfl), Or.inl (tb8 _ (List.mem_of_getElem? (i := 182) rfl))⟩
theorem lk_RX10_322 : xLk RX10 (.invokevirtual 322) m_X10_best true := Or.inl ⟨_, rfl, rfl, rfl, tb8 _ (List.mem_of_getElem? (i := 179) rfl), tb8 _ (List.mem_of_getElem? (i := 180) rfl), Or.inl (tb8 _ (List.mem_of_getElem? (i := 190) rfl))⟩
theorem lk_RX9_17 : xLk RX9 (.invokespecial 17) m_X6_init true := Or.inr (Or.inr ⟨_, rfl, rfl, rfl, rfl, rfl, tb1 _ (List.mem_of_getElem? (i := 34) rfl), Or.inr ⟨"CutsetWorks", tb1 _ (List.mem_of_getElem? (i := 33) rfl)⟩⟩)
theorem lk_RX9_24 : xLk RX9 (.invokespecial 24) m_X0_init true := Or.inr (Or.inr ⟨_, rfl, rfl, rfl, rfl, rfl, tb1 _ (List.mem_of_getElem? (i := 112) rfl), Or.inr ⟨"CutsetWorks", tb1 _ (List.mem_of_getElem? (i := 111) rfl)⟩⟩)
theorem lk_RX9_31 : xLk RX9 (.invokespecial 31) m_X8_init true := Or.inr (Or.inr ⟨_, rfl, rfl, rfl, rfl, rfl, tb1 _ (List.mem_of_getElem? (i := 143) rfl), Or.inr ⟨"CutsetWorks", tb1 _ (List.mem_of_getElem? (i := 142) rfl)⟩⟩)
theorem lk_RX9_38 : xLk RX9 (.invokespecial 38) m_X4_init true := Or.inr (Or.inr ⟨_, rfl, rfl, rfl, rfl, rfl, tb1 _ (List.mem_of_getElem? (i := 163) rfl), Or.inr ⟨"CutsetWorks", tb1 _ (List.mem_of_getElem? (i := 162) rfl)⟩⟩)
theorem lk_RX9_45 : xLk RX9 (.invokespecial 45) m_X2_init true := Or.inr (Or.inr ⟨_, rfl, rfl, rfl, rfl, rfl, tb1 _ (List.mem_of_getElem? (i := 181) rfl), Or.inr ⟨"CutsetWorks", tb1 _ (List.mem_of_getElem? (i := 180) rfl)⟩⟩)
theorem lk_RX9_52 : xLk RX9 (.invokespecial 52) m_X7_init true := Or.inr (Or.inr ⟨_, rfl, rfl, rfl, rfl, rfl, tb1 _ (List.mem_of_getElem? (i := 198) rfl), Or.inr ⟨"CutsetWorks", tb1 _ (List.mem_of_getElem? (i := 197) rfl)⟩⟩)
theorem lk_RX9_59 : xLk RX9 (.invokespecial 59) m_X5_init true := Or.inr (Or.inr ⟨_, rfl, rfl, rfl, rfl, rfl, tb1 _ (List.mem_of_getElem? (i := 230) rfl), Or.inr ⟨"CutsetWorks", tb1 _ (List.mem_of_getElem? (i := 229) rfl)⟩⟩)
theorem lk_RX9_80 : xLk RX9 (.invokespecial 80) m_X3_init true := Or.inr (Or.inr ⟨_, rfl, rfl, rfl, rfl, rfl, tb3 _ (List.mem_of_getElem? (i := 226) rfl), Or.inr ⟨"CutsetWorks", tb3 _ (List.mem_of_getElem? (i := 225) rfl)⟩⟩)
theorem lk_RX0_49 : xLk RX0 (.invokestatic 49) m_X9_hasBit false := Or.inr (Or.inl ⟨_, rfl, rfl, tb2 _ (List.mem_of_getElem? (i := 92) rfl), Or.inr ⟨rfl, "CutsetWorks", tb2 _ (List.mem_of_getElem? (i := 184) rfl)⟩⟩)
theorem lk_RX0_65 : xLk RX0 (.invokestatic 65) m_X9_hasOneOf false := Or.inr (Or.inl ⟨_, rfl, rfl, tb2 _ (List.mem_of_getElem? (i := 208) rfl), Or.inr ⟨rfl, "CutsetWorks", tb2 _ (List.mem_of_getElem? (i := 207) rfl)⟩⟩)
theorem lk_RX2_26 : xLk RX2 (.invokestatic 26) m_X9_hasBit false := Or.inr (Or.inl ⟨_, rfl, rfl, tb2 _ (List.mem_of_getElem? (i := 92) rfl), Or.inr ⟨rfl, "CutsetWorks", tb6 _ (List.mem_of_getElem? (i := 25) rfl)⟩⟩)
theorem lk_RX3_41 : xLk RX3 (.invokestatic 41) m_X9_hasBit false := Or.inr (Or.inl ⟨_, rfl, rfl, tb2 _ (List.mem_of_getElem? (i := 92) rfl), Or.inr ⟨rfl, "CutsetWorks", tb5 _ (List.mem_of_getElem? (i := 104) rfl)⟩⟩)
theorem lk_RX4_33 : xLk RX4 (.invokestatic 33) m_X9_hasBit false := Or.inr (Or.inl ⟨_, rfl, rfl, tb2 _ (List.mem_of_getElem? (i := 92) rfl), Or.inr ⟨rfl, "CutsetWorks", tb3 _ (List.mem_of_getElem? (i := 92) rfl)⟩⟩)
theorem lk_RX5_38 : xLk RX5 (.invokestatic 38) m_X9_hasBit false := Or.inr (Or.inl ⟨_, rfl, rfl, tb2 _ (List.mem_of_getElem? (i := 92) rfl), Or.inr ⟨rfl, "CutsetWorks", tb2 _ (List.mem_of_getElem? (i := 91) rfl)⟩⟩)
theorem lk_RX6_11 : xLk RX6 (.invokespecial 11) m_X1_init true := Or.inr (Or.inr ⟨_, rfl, rfl, rfl, rfl, rfl, tb1 _ (List.mem_of_getElem? (i := 40) rfl), Or.inr ⟨"CutsetWorks", tb1 _ (List.mem_of_getElem? (i := 39) rfl)⟩⟩)
theorem lk_RX6_122 : xLk RX6 (.invokestatic 122) m_X9_hasOneOf false := Or.inr (Or.inl ⟨_, rfl, rfl, tb2 _ (List.mem_of_getElem? (i := 208) rfl), Or.inr ⟨rfl, "CutsetWorks", tb2 _ (List.mem_of_getElem? (i := 223) rfl)⟩⟩)
theorem lk_RX8_37 : xLk RX8 (.invokestatic 37) m_X9_hasOneOf false := Or.inr (Or.inl ⟨_, rfl, rfl, tb2 _ (List.mem_of_getElem? (i := 208) rfl), Or.inr ⟨rfl, "CutsetWorks", tb3 _ (List.mem_of_getElem? (i := 72) rfl)⟩⟩)
theorem lk_RX8_49 : xLk RX8 (.invokestatic 49) m_X9_hasBit false := Or.inr (Or.inl ⟨_, rfl, rfl, tb2 _ (List.mem_of_getElem? (i := 92) rfl), Or.inr ⟨rfl, "CutsetWorks", tb3 _ (List.mem_of_getElem? (i := 77) rfl)⟩⟩)
theorem fl_RX9_11 : xFL RX9 11 9 0 true := ⟨RX9, TX9, 9, rfl, by decide, rfl, Or.inr ⟨.object "CutsetWorks$Net", by decide +kernel⟩, Or.inl (tb2 _ (List.mem_of_getElem? (i := 20) rfl))⟩
theorem fl_RX9_18 : xFL RX9 18 9 2 true := ⟨RX9, TX9, 9, rfl, by decide, rfl, Or.inl ⟨"CutsetWorks$Streams", by decide +kernel⟩, Or.inl (tb2 _ (List.mem_of_getElem? (i := 22) rfl))⟩
theorem fl_RX9_25 : xFL RX9 25 9 3 true := ⟨RX9, TX9, 9, rfl, by decide, rfl, Or.inl ⟨"CutsetWorks$Cuts", by decide +kernel⟩, Or.inl (tb2 _ (List.mem_of_getElem? (i := 23) rfl))⟩
theorem fl_RX9_32 : xFL RX9 32 9 4 true := ⟨RX9, TX9, 9, rfl, by decide, rfl, Or.inl ⟨"CutsetWorks$Tree", by decide +kernel⟩, Or.inl (tb2 _ (List.mem_of_getElem? (i := 24) rfl))⟩
theorem fl_RX9_39 : xFL RX9 39 9 5 true := ⟨RX9, TX9, 9, rfl, by decide, rfl, Or.inl ⟨"CutsetWorks$Pairing", by decide +kernel⟩, Or.inl (tb2 _ (List.mem_of_getElem? (i := 25) rfl))⟩
theorem fl_RX9_46 : xFL RX9 46 9 6 true := ⟨RX9, TX9, 9, rfl, by decide, rfl, Or.inl ⟨"CutsetWorks$League", by decide +kernel⟩, Or.inl (tb2 _ (List.mem_of_getElem? (i := 26) rfl))⟩
theorem fl_RX9_53 : xFL RX9 53 9 7 true := ⟨RX9, TX9, 9, rfl, by decide, rfl, Or.inl ⟨"CutsetWorks$Table", by decide +kernel⟩, Or.inl (tb2 _ (List.mem_of_getElem? (i := 27) rfl))⟩
theorem fl_RX9_60 : xFL RX9 60 9 8 true := ⟨RX9, TX9, 9, rfl, by decide, rfl, Or.inl ⟨"CutsetWorks$Projects", by decide +kernel⟩, Or.inl (tb2 _ (List.mem_of_getElem? (i := 28) rfl))⟩
theorem fl_RX9_71 : xFL RX9 71 9 1 false := ⟨RX9, TX9, 9, rfl, by decide, rfl, xpI, Or.inl (tb2 _ (List.mem_of_getElem? (i := 21) rfl))⟩
theorem fl_RX0_9 : xFL RX0 9 0 0 false := ⟨RX0, TX0, 7, rfl, by decide, rfl, xpI, Or.inl (tb1 _ (List.mem_of_getElem? (i := 115) rfl))⟩
theorem fl_RX0_15 : xFL RX0 15 0 1 false := ⟨RX0, TX0, 7, rfl, by decide, rfl, xpI, Or.inl (tb1 _ (List.mem_of_getElem? (i := 116) rfl))⟩
theorem fl_RX0_18 : xFL RX0 18 0 2 false := ⟨RX0, TX0, 7, rfl, by decide, rfl, xpI, Or.inl (tb1 _ (List.mem_of_getElem? (i := 117) rfl))⟩
theorem fl_RX0_21 : xFL RX0 21 0 3 false := ⟨RX0, TX0, 7, rfl, by decide, rfl, xpI, Or.inl (tb1 _ (List.mem_of_getElem? (i := 118) rfl))⟩
theorem fl_RX0_56 : xFL RX0 56 0 4 false := ⟨RX0, TX0, 7, rfl, by decide, rfl, xpI, Or.inl (tb1 _ (List.mem_of_getElem? (i := 119) rfl))⟩
theorem fl_RX0_59 : xFL RX0 59 0 5 false := ⟨RX0, TX0, 7, rfl, by decide, rfl, xpI, Or.inl (tb1 _ (List.mem_of_getElem? (i := 121) rfl))⟩
theorem fl_RX0_62 : xFL RX0 62 0 6 false := ⟨RX0, TX0, 7, rfl, by decide, rfl, xpI, Or.inl (tb1 _ (List.mem_of_getElem? (i := 123) rfl))⟩
theorem fl_RX1_11 : xFL RX1 11 1 2 true := ⟨RX1, TX1, 14, rfl, by decide, rfl, Or.inr ⟨.int, xpA⟩, Or.inl (tb1 _ (List.mem_of_getElem? (i := 45) rfl))⟩
theorem fl_RX1_15 : xFL RX1 15 1 3 true := ⟨RX1, TX1, 14, rfl, by decide, rfl, Or.inr ⟨.int, xpA⟩, Or.inl (tb1 _ (List.mem_of_getElem? (i := 46) rfl))⟩
theorem fl_RX1_18 : xFL RX1 18 1 4 true := ⟨RX1, TX1, 14, rfl, by decide, rfl, Or.inr ⟨.int, xpA⟩, Or.inl (tb1 _ (List.mem_of_getElem? (i := 47) rfl))⟩
theorem fl_RX1_21 : xFL RX1 21 1 5 true := ⟨RX1, TX1, 14, rfl, by decide, rfl, Or.inr ⟨.int, xpA⟩, Or.inl (tb1 _ (List.mem_of_getElem? (i := 48) rfl))⟩
theorem fl_RX1_24 : xFL RX1 24 1 6 true := ⟨RX1, TX1, 14, rfl, by decide, rfl, Or.inr ⟨.int, xpA⟩, Or.inl (tb1 _ (List.mem_of_getElem? (i := 49) rfl))⟩
theorem fl_RX1_27 : xFL RX1 27 1 7 true := ⟨RX1, TX1, 14, rfl, by decide, rfl, Or.inr ⟨.int, xpA⟩, Or.inl (tb1 _ (List.mem_of_getElem? (i := 50) rfl))⟩
theorem fl_RX1_30 : xFL RX1 30 1 8 true := ⟨RX1, TX1, 14, rfl, by decide, rfl, Or.inr ⟨.int, xpA⟩, Or.inl (tb1 _ (List.mem_of_getElem? (i := 51) rfl))⟩
theorem fl_RX1_33 : xFL RX1 33 1 9 true := ⟨RX1, TX1, 14, rfl, by decide, rfl, Or.inr ⟨.int, xpA⟩, Or.inl (tb1 _ (List.mem_of_getElem? (i := 52) rfl))⟩
theorem fl_RX1_36 : xFL RX1 36 1 10 true := ⟨RX1, TX1, 14, rfl, by decide, rfl, Or.inr ⟨.int, xpA⟩, Or.inl (tb1 _ (List.mem_of_getElem? (i := 53) rfl))⟩
theorem fl_RX1_39 : xFL RX1 39 1 11 true := ⟨RX1, TX1, 14, rfl, by decide, rfl, Or.inr ⟨.int, xpA⟩, Or.inl (tb1 _ (List.mem_of_getElem? (i := 54) rfl))⟩
theorem fl_RX1_42 : xFL RX1 42 1 12 true := ⟨RX1, TX1, 14, rfl, by decide, rfl, Or.inr ⟨.int, xpA⟩, Or.inl (tb1 _ (List.mem_of_getElem? (i := 55) rfl))⟩
theorem fl_RX1_45 : xFL RX1 45 1 0 false := ⟨RX1, TX1, 14, rfl, by decide, rfl, xpI, Or.inl (tb1 _ (List.mem_of_getElem? (i := 43) rfl))⟩
theorem fl_RX1_49 : xFL RX1 49 1 1 false := ⟨RX1, TX1, 14, rfl, by decide, rfl, xpI, Or.inl (tb1 _ (List.mem_of_getElem? (i := 44) rfl))⟩
theorem fl_RX1_52 : xFL RX1 52 1 13 false := ⟨RX1, TX1, 14, rfl, by decide, rfl, xpI, Or.inl (tb1 _ (List.mem_of_getElem? (i := 56) rfl))⟩
theorem fl_RX2_11 : xFL RX2 11 2 1 true := ⟨RX2, TX2, 3, rfl, by decide, rfl, Or.inr ⟨.int, xpA⟩, Or.inl (tb1 _ (List.mem_of_getElem? (i := 186) rfl))⟩
theorem fl_RX2_15 : xFL RX2 15 2 2 true := ⟨RX2, TX2, 3, rfl, by decide, rfl, Or.inr ⟨.int, xpA⟩, Or.inl (tb1 _ (List.mem_of_getElem? (i := 187) rfl))⟩
theorem fl_RX2_18 : xFL RX2 18 2 0 false := ⟨RX2, TX2, 3, rfl, by decide, rfl, xpI, Or.inl (tb1 _ (List.mem_of_getElem? (i := 184) rfl))⟩
theorem fl_RX3_9 : xFL RX3 9 3 0 false := ⟨RX3, TX3, 8, rfl, by decide, rfl, xpI, Or.inl (tb3 _ (List.mem_of_getElem? (i := 229) rfl))⟩
theorem fl_RX3_15 : xFL RX3 15 3 1 true := ⟨RX3, TX3, 8, rfl, by decide, rfl, Or.inr ⟨.int, xpA⟩, Or.inl (tb3 _ (List.mem_of_getElem? (i := 234) rfl))⟩
theorem fl_RX3_19 : xFL RX3 19 3 2 true := ⟨RX3, TX3, 8, rfl, by decide, rfl, Or.inr ⟨.int, xpA⟩, Or.inl (tb3 _ (List.mem_of_getElem? (i := 237) rfl))⟩
theorem fl_RX3_22 : xFL RX3 22 3 3 true := ⟨RX3, TX3, 8, rfl, by decide, rfl, Or.inr ⟨.int, xpA⟩, Or.inl (tb4 _ (List.mem_of_getElem? (i := 0) rfl))⟩
theorem fl_RX3_25 : xFL RX3 25 3 4 true := ⟨RX3, TX3, 8, rfl, by decide, rfl, Or.inr ⟨.int, xpA⟩, Or.inl (tb4 _ (List.mem_of_getElem? (i := 4) rfl))⟩
theorem fl_RX3_28 : xFL RX3 28 3 5 true := ⟨RX3, TX3, 8, rfl, by decide, rfl, Or.inr ⟨.int, xpA⟩, Or.inl (tb4 _ (List.mem_of_getElem? (i := 8) rfl))⟩
theorem fl_RX3_31 : xFL RX3 31 3 6 true := ⟨RX3, TX3, 8, rfl, by decide, rfl, Or.inr ⟨.int, xpA⟩, Or.inl (tb4 _ (List.mem_of_getElem? (i := 10) rfl))⟩
theorem fl_RX3_34 : xFL RX3 34 3 7 false := ⟨RX3, TX3, 8, rfl, by decide, rfl, xpI, Or.inl (tb4 _ (List.mem_of_getElem? (i := 14) rfl))⟩
theorem fl_RX4_9 : xFL RX4 9 4 0 true := ⟨RX4, TX4, 3, rfl, by decide, rfl, Or.inr ⟨.int, xpA⟩, Or.inl (tb1 _ (List.mem_of_getElem? (i := 166) rfl))⟩
theorem fl_RX4_13 : xFL RX4 13 4 1 true := ⟨RX4, TX4, 3, rfl, by decide, rfl, Or.inr ⟨.int, xpA⟩, Or.inl (tb1 _ (List.mem_of_getElem? (i := 168) rfl))⟩
theorem fl_RX4_16 : xFL RX4 16 4 2 true := ⟨RX4, TX4, 3, rfl, by decide, rfl, Or.inr ⟨.int, xpA⟩, Or.inl (tb1 _ (List.mem_of_getElem? (i := 169) rfl))⟩
theorem fl_RX5_11 : xFL RX5 11 5 1 true := ⟨RX5, TX5, 7, rfl, by decide, rfl, Or.inr ⟨.int, xpA⟩, Or.inl (tb1 _ (List.mem_of_getElem? (i := 235) rfl))⟩
theorem fl_RX5_15 : xFL RX5 15 5 2 true := ⟨RX5, TX5, 7, rfl, by decide, rfl, Or.inr ⟨.int, xpA⟩, Or.inl (tb1 _ (List.mem_of_getElem? (i := 236) rfl))⟩
theorem fl_RX5_18 : xFL RX5 18 5 3 true := ⟨RX5, TX5, 7, rfl, by decide, rfl, Or.inr ⟨.int, xpA⟩, Or.inl (tb1 _ (List.mem_of_getElem? (i := 237) rfl))⟩
theorem fl_RX5_21 : xFL RX5 21 5 0 false := ⟨RX5, TX5, 7, rfl, by decide, rfl, xpI, Or.inl (tb1 _ (List.mem_of_getElem? (i := 233) rfl))⟩
theorem fl_RX5_25 : xFL RX5 25 5 4 false := ⟨RX5, TX5, 7, rfl, by decide, rfl, xpI, Or.inl (tb1 _ (List.mem_of_getElem? (i := 239) rfl))⟩
theorem fl_RX5_28 : xFL RX5 28 5 5 false := ⟨RX5, TX5, 7, rfl, by decide, rfl, xpI, Or.inl (tb2 _ (List.mem_of_getElem? (i := 1) rfl))⟩
theorem fl_RX5_31 : xFL RX5 31 5 6 false := ⟨RX5, TX5, 7, rfl, by decide, rfl, xpI, Or.inl (tb2 _ (List.mem_of_getElem? (i := 3) rfl))⟩
theorem fl_RX6_12 : xFL RX6 12 6 0 true := ⟨RX6, TX6, 6, rfl, by decide, rfl, Or.inl ⟨"CutsetWorks$Flows", by decide +kernel⟩, Or.inl (tb1 _ (List.mem_of_getElem? (i := 87) rfl))⟩
theorem fl_RX6_18 : xFL RX6 18 6 1 false := ⟨RX6, TX6, 6, rfl, by decide, rfl, xpI, Or.inl (tb1 _ (List.mem_of_getElem? (i := 89) rfl))⟩
theorem fl_RX6_22 : xFL RX6 22 6 2 false := ⟨RX6, TX6, 6, rfl, by decide, rfl, xpI, Or.inl (tb1 _ (List.mem_of_getElem? (i := 90) rfl))⟩
theorem fl_RX6_41 : xFL RX6 41 6 3 false := ⟨RX6, TX6, 6, rfl, by decide, rfl, xpI, Or.inl (tb1 _ (List.mem_of_getElem? (i := 91) rfl))⟩
theorem fl_RX6_85 : xFL RX6 85 6 4 false := ⟨RX6, TX6, 6, rfl, by decide, rfl, xpI, Or.inl (tb1 _ (List.mem_of_getElem? (i := 92) rfl))⟩
theorem fl_RX6_110 : xFL RX6 110 6 5 false := ⟨RX6, TX6, 6, rfl, by decide, rfl, xpI, Or.inl (tb1 _ (List.mem_of_getElem? (i := 94) rfl))⟩
theorem fl_RX7_9 : xFL RX7 9 7 2 true := ⟨RX7, TX7, 7, rfl, by decide, rfl, Or.inr ⟨.int, xpA⟩, Or.inl (tb1 _ (List.mem_of_getElem? (i := 205) rfl))⟩
theorem fl_RX7_13 : xFL RX7 13 7 3 true := ⟨RX7, TX7, 7, rfl, by decide, rfl, Or.inr ⟨.int, xpA⟩, Or.inl (tb1 _ (List.mem_of_getElem? (i := 207) rfl))⟩
theorem fl_RX7_16 : xFL RX7 16 7 4 true := ⟨RX7, TX7, 7, rfl, by decide, rfl, Or.inr ⟨.int, xpA⟩, Or.inl (tb1 _ (List.mem_of_getElem? (i := 209) rfl))⟩
theorem fl_RX7_19 : xFL RX7 19 7 5 true := ⟨RX7, TX7, 7, rfl, by decide, rfl, Or.inr ⟨.int, xpA⟩, Or.inl (tb1 _ (List.mem_of_getElem? (i := 210) rfl))⟩
theorem fl_RX7_22 : xFL RX7 22 7 0 false := ⟨RX7, TX7, 7, rfl, by decide, rfl, xpI, Or.inl (tb1 _ (List.mem_of_getElem? (i := 201) rfl))⟩
theorem fl_RX7_26 : xFL RX7 26 7 1 false := ⟨RX7, TX7, 7, rfl, by decide, rfl, xpI, Or.inl (tb1 _ (List.mem_of_getElem? (i := 203) rfl))⟩
theorem fl_RX7_29 : xFL RX7 29 7 6 false := ⟨RX7, TX7, 7, rfl, by decide, rfl, xpI, Or.inl (tb1 _ (List.mem_of_getElem? (i := 211) rfl))⟩
theorem fl_RX8_9 : xFL RX8 9 8 1 true := ⟨RX8, TX8, 4, rfl, by decide, rfl, Or.inr ⟨.int, xpA⟩, Or.inl (tb1 _ (List.mem_of_getElem? (i := 147) rfl))⟩
theorem fl_RX8_15 : xFL RX8 15 8 2 true := ⟨RX8, TX8, 4, rfl, by decide, rfl, Or.inr ⟨.int, xpA⟩, Or.inl (tb1 _ (List.mem_of_getElem? (i := 148) rfl))⟩
theorem fl_RX8_18 : xFL RX8 18 8 3 true := ⟨RX8, TX8, 4, rfl, by decide, rfl, Or.inr ⟨.int, xpA⟩, Or.inl (tb1 _ (List.mem_of_getElem? (i := 150) rfl))⟩
theorem fl_RX8_27 : xFL RX8 27 8 0 false := ⟨RX8, TX8, 4, rfl, by decide, rfl, xpI, Or.inl (tb1 _ (List.mem_of_getElem? (i := 146) rfl))⟩
theorem fl_RX10_7 : xFL RX10 7 10 1 true := ⟨RX10, TX10, 33, rfl, by decide, rfl, Or.inr ⟨.int, xpA⟩, Or.inl (tb6 _ (List.mem_of_getElem? (i := 132) rfl))⟩
theorem fl_RX10_13 : xFL RX10 13 10 2 true := ⟨RX10, TX10, 33, rfl, by decide, rfl, Or.inr ⟨.int, xpA⟩, Or.inl (tb6 _ (List.mem_of_getElem? (i := 133) rfl))⟩
theorem fl_RX10_16 : xFL RX10 16 10 3 true := ⟨RX10, TX10, 33, rfl, by decide, rfl, Or.inr ⟨.int, xpA⟩, Or.inl (tb6 _ (List.mem_of_getElem? (i := 134) rfl))⟩
theorem fl_RX10_19 : xFL RX10 19 10 4 true := ⟨RX10, TX10, 33, rfl, by decide, rfl, Or.inr ⟨.int, xpA⟩, Or.inl (tb6 _ (List.mem_of_getElem? (i := 135) rfl))⟩
theorem fl_RX10_22 : xFL RX10 22 10 5 true := ⟨RX10, TX10, 33, rfl, by decide, rfl, Or.inr ⟨.int, xpA⟩, Or.inl (tb6 _ (List.mem_of_getElem? (i := 136) rfl))⟩
theorem fl_RX10_25 : xFL RX10 25 10 6 true := ⟨RX10, TX10, 33, rfl, by decide, rfl, Or.inr ⟨.int, xpA⟩, Or.inl (tb6 _ (List.mem_of_getElem? (i := 137) rfl))⟩
theorem fl_RX10_28 : xFL RX10 28 10 7 true := ⟨RX10, TX10, 33, rfl, by decide, rfl, Or.inr ⟨.int, xpA⟩, Or.inl (tb6 _ (List.mem_of_getElem? (i := 138) rfl))⟩
theorem fl_RX10_31 : xFL RX10 31 10 8 true := ⟨RX10, TX10, 33, rfl, by decide, rfl, Or.inr ⟨.int, xpA⟩, Or.inl (tb6 _ (List.mem_of_getElem? (i := 139) rfl))⟩
theorem fl_RX10_34 : xFL RX10 34 10 9 true := ⟨RX10, TX10, 33, rfl, by decide, rfl, Or.inr ⟨.int, xpA⟩, Or.inl (tb6 _ (List.mem_of_getElem? (i := 140) rfl))⟩
theorem fl_RX10_37 : xFL RX10 37 10 11 true := ⟨RX10, TX10, 33, rfl, by decide, rfl, Or.inr ⟨.int, xpA⟩, Or.inl (tb6 _ (List.mem_of_getElem? (i := 142) rfl))⟩
theorem fl_RX10_40 : xFL RX10 40 10 12 true := ⟨RX10, TX10, 33, rfl, by decide, rfl, Or.inr ⟨.int, xpA⟩, Or.inl (tb6 _ (List.mem_of_getElem? (i := 143) rfl))⟩
theorem fl_RX10_43 : xFL RX10 43 10 13 false := ⟨RX10, TX10, 33, rfl, by decide, rfl, xpI, Or.inl (tb6 _ (List.mem_of_getElem? (i := 144) rfl))⟩
theorem fl_RX10_47 : xFL RX10 47 10 14 false := ⟨RX10, TX10, 33, rfl, by decide, rfl, xpI, Or.inl (tb6 _ (List.mem_of_getElem? (i := 145) rfl))⟩
theorem fl_RX10_50 : xFL RX10 50 10 15 true := ⟨RX10, TX10, 33, rfl, by decide, rfl, Or.inr ⟨.int, xpA⟩, Or.inl (tb6 _ (List.mem_of_getElem? (i := 146) rfl))⟩
theorem fl_RX10_53 : xFL RX10 53 10 16 true := ⟨RX10, TX10, 33, rfl, by decide, rfl, Or.inr ⟨.int, xpA⟩, Or.inl (tb6 _ (List.mem_of_getElem? (i := 147) rfl))⟩
theorem fl_RX10_56 : xFL RX10 56 10 18 true := ⟨RX10, TX10, 33, rfl, by decide, rfl, Or.inr ⟨.int, xpA⟩, Or.inl (tb6 _ (List.mem_of_getElem? (i := 149) rfl))⟩
theorem fl_RX10_59 : xFL RX10 59 10 19 true := ⟨RX10, TX10, 33, rfl, by decide, rfl, Or.inr ⟨.int, xpA⟩, Or.inl (tb6 _ (List.mem_of_getElem? (i := 150) rfl))⟩
theorem fl_RX10_62 : xFL RX10 62 10 20 true := ⟨RX10, TX10, 33, rfl, by decide, rfl, Or.inr ⟨.int, xpA⟩, Or.inl (tb6 _ (List.mem_of_getElem? (i := 151) rfl))⟩
theorem fl_RX10_65 : xFL RX10 65 10 21 true := ⟨RX10, TX10, 33, rfl, by decide, rfl, Or.inr ⟨.int, xpA⟩, Or.inl (tb6 _ (List.mem_of_getElem? (i := 152) rfl))⟩
theorem fl_RX10_68 : xFL RX10 68 10 22 true := ⟨RX10, TX10, 33, rfl, by decide, rfl, Or.inr ⟨.int, xpA⟩, Or.inl (tb6 _ (List.mem_of_getElem? (i := 153) rfl))⟩
theorem fl_RX10_71 : xFL RX10 71 10 23 true := ⟨RX10, TX10, 33, rfl, by decide, rfl, Or.inr ⟨.int, xpA⟩, Or.inl (tb6 _ (List.mem_of_getElem? (i := 154) rfl))⟩
theorem fl_RX10_74 : xFL RX10 74 10 24 true := ⟨RX10, TX10, 33, rfl, by decide, rfl, Or.inr ⟨.int, xpA⟩, Or.inl (tb6 _ (List.mem_of_getElem? (i := 155) rfl))⟩
theorem fl_RX10_77 : xFL RX10 77 10 25 true := ⟨RX10, TX10, 33, rfl, by decide, rfl, Or.inr ⟨.int, xpA⟩, Or.inl (tb6 _ (List.mem_of_getElem? (i := 156) rfl))⟩
theorem fl_RX10_80 : xFL RX10 80 10 26 true := ⟨RX10, TX10, 33, rfl, by decide, rfl, Or.inr ⟨.int, xpA⟩, Or.inl (tb6 _ (List.mem_of_getElem? (i := 157) rfl))⟩
theorem fl_RX10_83 : xFL RX10 83 10 29 true := ⟨RX10, TX10, 33, rfl, by decide, rfl, Or.inr ⟨.int, xpA⟩, Or.inl (tb6 _ (List.mem_of_getElem? (i := 160) rfl))⟩
theorem fl_RX10_86 : xFL RX10 86 10 30 true := ⟨RX10, TX10, 33, rfl, by decide, rfl, Or.inr ⟨.int, xpA⟩, Or.inl (tb6 _ (List.mem_of_getElem? (i := 161) rfl))⟩
theorem fl_RX10_89 : xFL RX10 89 10 31 true := ⟨RX10, TX10, 33, rfl, by decide, rfl, Or.inr ⟨.int, xpA⟩, Or.inl (tb6 _ (List.mem_of_getElem? (i := 162) rfl))⟩
theorem fl_RX10_92 : xFL RX10 92 10 32 false := ⟨RX10, TX10, 33, rfl, by decide, rfl, xpI, Or.inl (tb6 _ (List.mem_of_getElem? (i := 163) rfl))⟩
theorem fl_RX10_99 : xFL RX10 99 10 0 false := ⟨RX10, TX10, 33, rfl, by decide, rfl, xpI, Or.inl (tb6 _ (List.mem_of_getElem? (i := 131) rfl))⟩
theorem fl_RX10_206 : xFL RX10 206 10 27 false := ⟨RX10, TX10, 33, rfl, by decide, rfl, xpI, Or.inl (tb6 _ (List.mem_of_getElem? (i := 158) rfl))⟩
theorem fl_RX10_209 : xFL RX10 209 10 28 false := ⟨RX10, TX10, 33, rfl, by decide, rfl, xpI, Or.inl (tb6 _ (List.mem_of_getElem? (i := 159) rfl))⟩
theorem fl_RX10_288 : xFL RX10 288 10 10 false := ⟨RX10, TX10, 33, rfl, by decide, rfl, xpI, Or.inl (tb6 _ (List.mem_of_getElem? (i := 141) rfl))⟩
theorem fl_RX10_316 : xFL RX10 316 10 17 false := ⟨RX10, TX10, 33, rfl, by decide, rfl, xpI, Or.inl (tb6 _ (List.mem_of_getElem? (i := 148) rfl))⟩
theorem fl_RX9_95 : xFL RX9 95 3 7 false := ⟨RX3, TX3, 8, rfl, by decide, rfl, xpI, Or.inr ⟨"CutsetWorks", tb4 _ (List.mem_of_getElem? (i := 17) rfl)⟩⟩
theorem fl_RX9_108 : xFL RX9 108 3 4 true := ⟨RX3, TX3, 8, rfl, by decide, rfl, Or.inr ⟨.int, xpA⟩, Or.inr ⟨"CutsetWorks", tb4 _ (List.mem_of_getElem? (i := 7) rfl)⟩⟩
theorem fl_RX9_124 : xFL RX9 124 3 6 true := ⟨RX3, TX3, 8, rfl, by decide, rfl, Or.inr ⟨.int, xpA⟩, Or.inr ⟨"CutsetWorks", tb4 _ (List.mem_of_getElem? (i := 12) rfl)⟩⟩
theorem fl_RX9_149 : xFL RX9 149 0 5 false := ⟨RX0, TX0, 7, rfl, by decide, rfl, xpI, Or.inr ⟨"CutsetWorks", tb1 _ (List.mem_of_getElem? (i := 122) rfl)⟩⟩
theorem fl_RX9_152 : xFL RX9 152 0 4 false := ⟨RX0, TX0, 7, rfl, by decide, rfl, xpI, Or.inr ⟨"CutsetWorks", tb1 _ (List.mem_of_getElem? (i := 120) rfl)⟩⟩
theorem fl_RX9_155 : xFL RX9 155 3 0 false := ⟨RX3, TX3, 8, rfl, by decide, rfl, xpI, Or.inr ⟨"CutsetWorks", tb3 _ (List.mem_of_getElem? (i := 233) rfl)⟩⟩
theorem fl_RX9_168 : xFL RX9 168 0 6 false := ⟨RX0, TX0, 7, rfl, by decide, rfl, xpI, Or.inr ⟨"CutsetWorks", tb1 _ (List.mem_of_getElem? (i := 124) rfl)⟩⟩
theorem fl_RX9_186 : xFL RX9 186 6 4 false := ⟨RX6, TX6, 6, rfl, by decide, rfl, xpI, Or.inr ⟨"CutsetWorks", tb1 _ (List.mem_of_getElem? (i := 93) rfl)⟩⟩
theorem fl_RX9_234 : xFL RX9 234 3 3 true := ⟨RX3, TX3, 8, rfl, by decide, rfl, Or.inr ⟨.int, xpA⟩, Or.inr ⟨"CutsetWorks", tb4 _ (List.mem_of_getElem? (i := 3) rfl)⟩⟩
theorem fl_RX9_272 : xFL RX9 272 8 2 true := ⟨RX8, TX8, 4, rfl, by decide, rfl, Or.inr ⟨.int, xpA⟩, Or.inr ⟨"CutsetWorks", tb1 _ (List.mem_of_getElem? (i := 149) rfl)⟩⟩
theorem fl_RX9_289 : xFL RX9 289 4 0 true := ⟨RX4, TX4, 3, rfl, by decide, rfl, Or.inr ⟨.int, xpA⟩, Or.inr ⟨"CutsetWorks", tb1 _ (List.mem_of_getElem? (i := 167) rfl)⟩⟩
theorem fl_RX9_300 : xFL RX9 300 4 2 true := ⟨RX4, TX4, 3, rfl, by decide, rfl, Or.inr ⟨.int, xpA⟩, Or.inr ⟨"CutsetWorks", tb1 _ (List.mem_of_getElem? (i := 170) rfl)⟩⟩
theorem fl_RX9_318 : xFL RX9 318 2 0 false := ⟨RX2, TX2, 3, rfl, by decide, rfl, xpI, Or.inr ⟨"CutsetWorks", tb1 _ (List.mem_of_getElem? (i := 185) rfl)⟩⟩
theorem fl_RX9_357 : xFL RX9 357 7 2 true := ⟨RX7, TX7, 7, rfl, by decide, rfl, Or.inr ⟨.int, xpA⟩, Or.inr ⟨"CutsetWorks", tb1 _ (List.mem_of_getElem? (i := 206) rfl)⟩⟩
theorem fl_RX9_360 : xFL RX9 360 6 0 true := ⟨RX6, TX6, 6, rfl, by decide, rfl, Or.inl ⟨"CutsetWorks$Flows", by decide +kernel⟩, Or.inr ⟨"CutsetWorks", tb1 _ (List.mem_of_getElem? (i := 88) rfl)⟩⟩
theorem fl_RX9_368 : xFL RX9 368 7 3 true := ⟨RX7, TX7, 7, rfl, by decide, rfl, Or.inr ⟨.int, xpA⟩, Or.inr ⟨"CutsetWorks", tb1 _ (List.mem_of_getElem? (i := 208) rfl)⟩⟩
theorem fl_RX9_373 : xFL RX9 373 5 0 false := ⟨RX5, TX5, 7, rfl, by decide, rfl, xpI, Or.inr ⟨"CutsetWorks", tb1 _ (List.mem_of_getElem? (i := 234) rfl)⟩⟩
theorem fl_RX9_387 : xFL RX9 387 5 3 true := ⟨RX5, TX5, 7, rfl, by decide, rfl, Or.inr ⟨.int, xpA⟩, Or.inr ⟨"CutsetWorks", tb1 _ (List.mem_of_getElem? (i := 238) rfl)⟩⟩
theorem fl_RX9_393 : xFL RX9 393 5 4 false := ⟨RX5, TX5, 7, rfl, by decide, rfl, xpI, Or.inr ⟨"CutsetWorks", tb2 _ (List.mem_of_getElem? (i := 0) rfl)⟩⟩
theorem fl_RX9_395 : xFL RX9 395 5 6 false := ⟨RX5, TX5, 7, rfl, by decide, rfl, xpI, Or.inr ⟨"CutsetWorks", tb2 _ (List.mem_of_getElem? (i := 4) rfl)⟩⟩
theorem fl_RX9_398 : xFL RX9 398 5 5 false := ⟨RX5, TX5, 7, rfl, by decide, rfl, xpI, Or.inr ⟨"CutsetWorks", tb2 _ (List.mem_of_getElem? (i := 2) rfl)⟩⟩
theorem fl_RX9_446 : xFL RX9 446 6 5 false := ⟨RX6, TX6, 6, rfl, by decide, rfl, xpI, Or.inr ⟨"CutsetWorks", tb1 _ (List.mem_of_getElem? (i := 95) rfl)⟩⟩
theorem fl_RX9_474 : xFL RX9 474 7 0 false := ⟨RX7, TX7, 7, rfl, by decide, rfl, xpI, Or.inr ⟨"CutsetWorks", tb1 _ (List.mem_of_getElem? (i := 202) rfl)⟩⟩
theorem fl_RX9_477 : xFL RX9 477 7 1 false := ⟨RX7, TX7, 7, rfl, by decide, rfl, xpI, Or.inr ⟨"CutsetWorks", tb1 _ (List.mem_of_getElem? (i := 204) rfl)⟩⟩
theorem fl_RX0_24 : xFL RX0 24 3 7 false := ⟨RX3, TX3, 8, rfl, by decide, rfl, xpI, Or.inr ⟨"CutsetWorks", tb4 _ (List.mem_of_getElem? (i := 15) rfl)⟩⟩
theorem fl_RX0_29 : xFL RX0 29 3 1 true := ⟨RX3, TX3, 8, rfl, by decide, rfl, Or.inr ⟨.int, xpA⟩, Or.inr ⟨"CutsetWorks", tb3 _ (List.mem_of_getElem? (i := 235) rfl)⟩⟩
theorem fl_RX0_33 : xFL RX0 33 3 2 true := ⟨RX3, TX3, 8, rfl, by decide, rfl, Or.inr ⟨.int, xpA⟩, Or.inr ⟨"CutsetWorks", tb3 _ (List.mem_of_getElem? (i := 238) rfl)⟩⟩
theorem fl_RX0_36 : xFL RX0 36 3 4 true := ⟨RX3, TX3, 8, rfl, by decide, rfl, Or.inr ⟨.int, xpA⟩, Or.inr ⟨"CutsetWorks", tb4 _ (List.mem_of_getElem? (i := 5) rfl)⟩⟩
theorem fl_RX0_39 : xFL RX0 39 3 3 true := ⟨RX3, TX3, 8, rfl, by decide, rfl, Or.inr ⟨.int, xpA⟩, Or.inr ⟨"CutsetWorks", tb4 _ (List.mem_of_getElem? (i := 1) rfl)⟩⟩
theorem fl_RX0_46 : xFL RX0 46 3 0 false := ⟨RX3, TX3, 8, rfl, by decide, rfl, xpI, Or.inr ⟨"CutsetWorks", tb3 _ (List.mem_of_getElem? (i := 232) rfl)⟩⟩
theorem fl_RX0_53 : xFL RX0 53 3 6 true := ⟨RX3, TX3, 8, rfl, by decide, rfl, Or.inr ⟨.int, xpA⟩, Or.inr ⟨"CutsetWorks", tb4 _ (List.mem_of_getElem? (i := 11) rfl)⟩⟩
theorem fl_RX6_25 : xFL RX6 25 3 0 false := ⟨RX3, TX3, 8, rfl, by decide, rfl, xpI, Or.inr ⟨"CutsetWorks", tb3 _ (List.mem_of_getElem? (i := 231) rfl)⟩⟩
theorem fl_RX6_38 : xFL RX6 38 3 7 false := ⟨RX3, TX3, 8, rfl, by decide, rfl, xpI, Or.inr ⟨"CutsetWorks", tb4 _ (List.mem_of_getElem? (i := 16) rfl)⟩⟩
theorem fl_RX6_50 : xFL RX6 50 3 1 true := ⟨RX3, TX3, 8, rfl, by decide, rfl, Or.inr ⟨.int, xpA⟩, Or.inr ⟨"CutsetWorks", tb3 _ (List.mem_of_getElem? (i := 236) rfl)⟩⟩
theorem fl_RX6_54 : xFL RX6 54 3 2 true := ⟨RX3, TX3, 8, rfl, by decide, rfl, Or.inr ⟨.int, xpA⟩, Or.inr ⟨"CutsetWorks", tb3 _ (List.mem_of_getElem? (i := 239) rfl)⟩⟩
theorem fl_RX6_57 : xFL RX6 57 3 3 true := ⟨RX3, TX3, 8, rfl, by decide, rfl, Or.inr ⟨.int, xpA⟩, Or.inr ⟨"CutsetWorks", tb4 _ (List.mem_of_getElem? (i := 2) rfl)⟩⟩
theorem fl_RX6_60 : xFL RX6 60 3 4 true := ⟨RX3, TX3, 8, rfl, by decide, rfl, Or.inr ⟨.int, xpA⟩, Or.inr ⟨"CutsetWorks", tb4 _ (List.mem_of_getElem? (i := 6) rfl)⟩⟩
theorem fl_RX6_63 : xFL RX6 63 3 5 true := ⟨RX3, TX3, 8, rfl, by decide, rfl, Or.inr ⟨.int, xpA⟩, Or.inr ⟨"CutsetWorks", tb4 _ (List.mem_of_getElem? (i := 9) rfl)⟩⟩
theorem fl_RX6_119 : xFL RX6 119 3 6 true := ⟨RX3, TX3, 8, rfl, by decide, rfl, Or.inr ⟨.int, xpA⟩, Or.inr ⟨"CutsetWorks", tb4 _ (List.mem_of_getElem? (i := 13) rfl)⟩⟩
theorem fl_RX8_21 : xFL RX8 21 3 0 false := ⟨RX3, TX3, 8, rfl, by decide, rfl, xpI, Or.inr ⟨"CutsetWorks", tb3 _ (List.mem_of_getElem? (i := 230) rfl)⟩⟩
theorem th_64_68 : xThr RX9 64 68 "java/lang/IllegalArgumentException" := ⟨["java/lang/RuntimeException", "java/lang/Exception"], by decide, by decide +kernel, by decide +kernel, tb3 _ (List.mem_of_getElem? (i := 138) rfl), tb1 _ (List.mem_of_getElem? (i := 14) rfl), Or.inl (by decide +kernel)⟩
theorem th_75_79 : xThr RX9 75 79 "java/lang/IllegalStateException" := ⟨["java/lang/RuntimeException", "java/lang/Exception"], by decide, by decide +kernel, by decide +kernel, tb3 _ (List.mem_of_getElem? (i := 208) rfl), tb1 _ (List.mem_of_getElem? (i := 15) rfl), Or.inl (by decide +kernel)⟩
theorem th_141_145 : xThr RX9 141 145 "java/util/NoSuchElementException" := ⟨["java/lang/RuntimeException", "java/lang/Exception"], by decide, by decide +kernel, by decide +kernel, tb4 _ (List.mem_of_getElem? (i := 137) rfl), tb1 _ (List.mem_of_getElem? (i := 18) rfl), Or.inr ⟨"java/lang/RuntimeException", ["java/lang/Exception"], 13, prog_23_method_4_code, rfl, by decide +kernel, by decide +kernel, by decide +kernel, by decide +kernel, by decide +kernel⟩⟩
theorem th_223_227 : xThr RX9 223 227 "java/lang/UnsupportedOperationException" := ⟨["java/lang/RuntimeException", "java/lang/Exception"], by decide, by decide +kernel, by decide +kernel, tb4 _ (List.mem_of_getElem? (i := 218) rfl), tb1 _ (List.mem_of_getElem? (i := 19) rfl), Or.inl (by decide +kernel)⟩
theorem th_380_384 : xThr RX9 380 384 "java/lang/IndexOutOfBoundsException" := ⟨["java/lang/RuntimeException", "java/lang/Exception"], by decide, by decide +kernel, by decide +kernel, tb4 _ (List.mem_of_getElem? (i := 47) rfl), tb1 _ (List.mem_of_getElem? (i := 17) rfl), Or.inl (by decide +kernel)⟩
theorem sr_RX9_66 : Cond.stringRef RX9 66 "a net has 2 to 8 corners" ∈ lw_tbl := tb3 _ (List.mem_of_getElem? (i := 181) rfl)
theorem sr_RX9_77 : Cond.stringRef RX9 77 "there are 4 nets" ∈ lw_tbl := tb3 _ (List.mem_of_getElem? (i := 217) rfl)
theorem sr_RX9_98 : Cond.stringRef RX9 98 "there are 16 edges" ∈ lw_tbl := tb4 _ (List.mem_of_getElem? (i := 71) rfl)
theorem sr_RX9_122 : Cond.stringRef RX9 122 "a supply is -99 to 99" ∈ lw_tbl := tb4 _ (List.mem_of_getElem? (i := 121) rfl)
theorem sr_RX9_143 : Cond.stringRef RX9 143 "there is a flow" ∈ lw_tbl := tb4 _ (List.mem_of_getElem? (i := 172) rfl)
theorem sr_RX9_162 : Cond.stringRef RX9 162 "the set is no cut" ∈ lw_tbl := tb4 _ (List.mem_of_getElem? (i := 188) rfl)
theorem sr_RX9_192 : Cond.stringRef RX9 192 "there is no such place" ∈ lw_tbl := tb5 _ (List.mem_of_getElem? (i := 21) rfl)
theorem sr_RX9_208 : Cond.stringRef RX9 208 "the price has no bound" ∈ lw_tbl := tb5 _ (List.mem_of_getElem? (i := 59) rfl)
theorem sr_RX9_225 : Cond.stringRef RX9 225 "an edge leads from the source to the sink" ∈ lw_tbl := tb5 _ (List.mem_of_getElem? (i := 94) rfl)
theorem sr_RX9_252 : Cond.stringRef RX9 252 "the demands cannot be met" ∈ lw_tbl := tb5 _ (List.mem_of_getElem? (i := 142) rfl)
theorem sr_RX9_261 : Cond.stringRef RX9 261 "the demands can be met" ∈ lw_tbl := tb5 _ (List.mem_of_getElem? (i := 158) rfl)
theorem sr_RX9_263 : Cond.stringRef RX9 263 "the corner 0 has no parent" ∈ lw_tbl := tb5 _ (List.mem_of_getElem? (i := 166) rfl)
theorem sr_RX9_279 : Cond.stringRef RX9 279 "the step is 0 to 8" ∈ lw_tbl := tb5 _ (List.mem_of_getElem? (i := 181) rfl)
theorem sr_RX9_287 : Cond.stringRef RX9 287 "a set of right ones is 0 to 255" ∈ lw_tbl := tb5 _ (List.mem_of_getElem? (i := 197) rfl)
theorem sr_RX9_303 : Cond.stringRef RX9 303 "the left one is not paired" ∈ lw_tbl := tb5 _ (List.mem_of_getElem? (i := 205) rfl)
theorem sr_RX9_314 : Cond.stringRef RX9 314 "all left ones can be paired" ∈ lw_tbl := tb5 _ (List.mem_of_getElem? (i := 217) rfl)
theorem sr_RX9_316 : Cond.stringRef RX9 316 "wins are 0 to 99" ∈ lw_tbl := tb5 _ (List.mem_of_getElem? (i := 225) rfl)
theorem sr_RX9_321 : Cond.stringRef RX9 321 "there are 6 teams" ∈ lw_tbl := tb5 _ (List.mem_of_getElem? (i := 226) rfl)
theorem sr_RX9_329 : Cond.stringRef RX9 329 "both teams are the same" ∈ lw_tbl := tb6 _ (List.mem_of_getElem? (i := 3) rfl)
theorem sr_RX9_331 : Cond.stringRef RX9 331 "games are 0 to 9" ∈ lw_tbl := tb6 _ (List.mem_of_getElem? (i := 4) rfl)
theorem sr_RX9_342 : Cond.stringRef RX9 342 "the team can win" ∈ lw_tbl := tb6 _ (List.mem_of_getElem? (i := 38) rfl)
theorem sr_RX9_344 : Cond.stringRef RX9 344 "a table has 1 to 4 rows and columns" ∈ lw_tbl := tb6 _ (List.mem_of_getElem? (i := 46) rfl)
theorem sr_RX9_352 : Cond.stringRef RX9 352 "a number is 0 to 999 tenths" ∈ lw_tbl := tb6 _ (List.mem_of_getElem? (i := 63) rfl)
theorem sr_RX9_371 : Cond.stringRef RX9 371 "a gain is 0 to 99, a set of tools 0 to 255" ∈ lw_tbl := tb6 _ (List.mem_of_getElem? (i := 79) rfl)
theorem sr_RX9_376 : Cond.stringRef RX9 376 "there are 8 projects" ∈ lw_tbl := tb6 _ (List.mem_of_getElem? (i := 80) rfl)
theorem sr_RX9_382 : Cond.stringRef RX9 382 "a tool is 0 to 7" ∈ lw_tbl := tb6 _ (List.mem_of_getElem? (i := 92) rfl)
theorem sr_RX9_385 : Cond.stringRef RX9 385 "a cost is 0 to 99" ∈ lw_tbl := tb6 _ (List.mem_of_getElem? (i := 93) rfl)
theorem sr_RX9_452 : Cond.stringRef RX9 452 "there is no such net" ∈ lw_tbl := tb4 _ (List.mem_of_getElem? (i := 56) rfl)
theorem sr_RX9_454 : Cond.stringRef RX9 454 "there is no such edge" ∈ lw_tbl := tb4 _ (List.mem_of_getElem? (i := 90) rfl)
theorem sr_RX9_456 : Cond.stringRef RX9 456 "there is no such corner" ∈ lw_tbl := tb4 _ (List.mem_of_getElem? (i := 120) rfl)
theorem sr_RX9_458 : Cond.stringRef RX9 458 "these are not two corners" ∈ lw_tbl := tb4 _ (List.mem_of_getElem? (i := 66) rfl)
theorem sr_RX9_460 : Cond.stringRef RX9 460 "a bound or the cost is not as told" ∈ lw_tbl := tb4 _ (List.mem_of_getElem? (i := 70) rfl)
theorem sr_RX9_462 : Cond.stringRef RX9 462 "there is no flow" ∈ lw_tbl := tb4 _ (List.mem_of_getElem? (i := 146) rfl)
theorem sr_RX9_464 : Cond.stringRef RX9 464 "a least is not 0" ∈ lw_tbl := tb4 _ (List.mem_of_getElem? (i := 227) rfl)
theorem sr_RX9_466 : Cond.stringRef RX9 466 "there is no such round" ∈ lw_tbl := tb5 _ (List.mem_of_getElem? (i := 5) rfl)
theorem sr_RX9_468 : Cond.stringRef RX9 468 "there are no edges" ∈ lw_tbl := tb6 _ (List.mem_of_getElem? (i := 117) rfl)
theorem sr_RX9_470 : Cond.stringRef RX9 470 "a left one is 0 to 7" ∈ lw_tbl := tb5 _ (List.mem_of_getElem? (i := 196) rfl)
theorem sr_RX9_472 : Cond.stringRef RX9 472 "there is no such team" ∈ lw_tbl := tb6 _ (List.mem_of_getElem? (i := 2) rfl)
theorem sr_RX9_480 : Cond.stringRef RX9 480 "there is no such row or column" ∈ lw_tbl := tb6 _ (List.mem_of_getElem? (i := 62) rfl)
theorem co_RX1_77 : Cond.constant RX1 77 (Int32.ofInt (1000000)) ∈ lw_tbl := tb2 _ (List.mem_of_getElem? (i := 152) rfl)
theorem co_RX1_85 : Cond.constant RX1 85 (Int32.ofInt (1000000000)) ∈ lw_tbl := tb2 _ (List.mem_of_getElem? (i := 161) rfl)
theorem co_RX6_44 : Cond.constant RX6 44 (Int32.ofInt (-1000000)) ∈ lw_tbl := tb2 _ (List.mem_of_getElem? (i := 134) rfl)
theorem co_RX6_45 : Cond.constant RX6 45 (Int32.ofInt (1000000)) ∈ lw_tbl := tb2 _ (List.mem_of_getElem? (i := 135) rfl)
theorem co_RX6_109 : Cond.constant RX6 109 (Int32.ofInt (1000000000)) ∈ lw_tbl := tb3 _ (List.mem_of_getElem? (i := 37) rfl)
theorem co_RX8_36 : Cond.constant RX8 36 (Int32.ofInt (1000000000)) ∈ lw_tbl := tb3 _ (List.mem_of_getElem? (i := 71) rfl)
theorem co_RX10_149 : Cond.constant RX10 149 (Int32.ofInt (-1000000)) ∈ lw_tbl := tb7 _ (List.mem_of_getElem? (i := 84) rfl)
theorem co_RX10_265 : Cond.constant RX10 265 (Int32.ofInt (100000)) ∈ lw_tbl := tb8 _ (List.mem_of_getElem? (i := 61) rfl)
theorem co_RX10_278 : Cond.constant RX10 278 (Int32.ofInt (1000000)) ∈ lw_tbl := tb8 _ (List.mem_of_getElem? (i := 78) rfl)
theorem co_RJ6_265 : Cond.constant RJ6 265 (Int32.ofInt (1431655765)) ∈ lw_tbl := tb2 _ (List.mem_of_getElem? (i := 63) rfl)
theorem co_RJ6_266 : Cond.constant RJ6 266 (Int32.ofInt (858993459)) ∈ lw_tbl := tb2 _ (List.mem_of_getElem? (i := 64) rfl)
theorem co_RJ6_267 : Cond.constant RJ6 267 (Int32.ofInt (252645135)) ∈ lw_tbl := tb2 _ (List.mem_of_getElem? (i := 65) rfl)
theorem co_RX3_45 : Cond.constantLong RX3 45 (7) ∈ lw_tbl := tb6 _ (List.mem_of_getElem? (i := 105) rfl)
theorem co_RX3_47 : Cond.constantLong RX3 47 (31) ∈ lw_tbl := tb6 _ (List.mem_of_getElem? (i := 106) rfl)
theorem co_RX10_326 : Cond.constantLong RX10 326 (7) ∈ lw_tbl := tb8 _ (List.mem_of_getElem? (i := 195) rfl)
theorem co_RX10_328 : Cond.constantLong RX10 328 (31) ∈ lw_tbl := tb8 _ (List.mem_of_getElem? (i := 196) rfl)
