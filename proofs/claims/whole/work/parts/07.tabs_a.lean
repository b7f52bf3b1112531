def m_X0_copyFrom : MD := (0, yX0_copyFrom, cX0_copyFrom, 2, none, 1, 26)
def m_X0_putGoal : MD := (0, yX0_putGoal, cX0_putGoal, 4, none, 1, 20)
def m_X0_putBattles : MD := (0, yX0_putBattles, cX0_putBattles, 3, none, 1, 20)
def m_X0_goalOf : MD := (0, yX0_goalOf, cX0_goalOf, 3, some .int, 1, 20)
def m_X0_battlesOf : MD := (0, yX0_battlesOf, cX0_battlesOf, 2, some .int, 1, 20)
def m_X0_confirm : MD := (0, yX0_confirm, cX0_confirm, 5, some .boolean, 2, 42)
def m_X0_isDay : MD := (0, yX0_isDay, cX0_isDay, 1, some .boolean, 0, 0)
def m_X1_copyFrom : MD := (1, yX1_copyFrom, cX1_copyFrom, 2, none, 1, 26)
def m_X1_has : MD := (1, yX1_has, cX1_has, 2, some .boolean, 0, 0)
def m_X1_add : MD := (1, yX1_add, cX1_add, 4, none, 0, 0)
def m_X1_moveTo : MD := (1, yX1_moveTo, cX1_moveTo, 3, none, 1, 21)
def m_X1_troopsOf : MD := (1, yX1_troopsOf, cX1_troopsOf, 4, some .int, 0, 0)
def m_X1_troopsAt : MD := (1, yX1_troopsAt, cX1_troopsAt, 5, some .int, 0, 0)
def m_X1_fightAt : MD := (1, yX1_fightAt, cX1_fightAt, 3, some .boolean, 2, 47)
def m_X1_loseAt : MD := (1, yX1_loseAt, cX1_loseAt, 7, none, 1, 21)
def m_X2_has : MD := (2, yX2_has, cX2_has, 2, some .boolean, 0, 0)
def m_X2_put : MD := (2, yX2_put, cX2_put, 3, none, 3, 68)
def m_X2_forgetAll : MD := (2, yX2_forgetAll, cX2_forgetAll, 2, none, 0, 0)
def m_X3_reset : MD := (3, yX3_reset, cX3_reset, 1, none, 1, 23)
def m_X3_copyFrom : MD := (3, yX3_copyFrom, cX3_copyFrom, 2, none, 1, 26)
def m_X3_has : MD := (3, yX3_has, cX3_has, 2, some .boolean, 0, 0)
def m_X3_waysFrom : MD := (3, yX3_waysFrom, cX3_waysFrom, 2, some .int, 1, 21)
def m_X3_isRoad : MD := (3, yX3_isRoad, cX3_isRoad, 3, some .boolean, 2, 42)
def m_X3_join : MD := (3, yX3_join, cX3_join, 3, none, 1, 21)
def m_X3_daysBetween : MD := (3, yX3_daysBetween, cX3_daysBetween, 5, some .int, 3, 65)
def m_X3_aDayFurther : MD := (3, yX3_aDayFurther, cX3_aDayFurther, 4, some .int, 2, 42)
def m_X4_countReadings : MD := (4, yX4_countReadings, cX4_countReadings, 3, some .int, 5, 112)
def m_X4_waysToRead : MD := (4, yX4_waysToRead, cX4_waysToRead, 5, some .int, 4, 88)
def m_X4_countSentences : MD := (4, yX4_countSentences, cX4_countSentences, 6, some .int, 3, 66)
def m_X4_firstClash : MD := (4, yX4_firstClash, cX4_firstClash, 3, some .int, 1, 22)
def m_X4_leastStruck : MD := (4, yX4_leastStruck, cX4_leastStruck, 6, some .int, 6, 131)
def m_X4_brokenPages : MD := (4, yX4_brokenPages, cX4_brokenPages, 3, some .int, 5, 109)
def m_X4_areAtPeace : MD := (4, yX4_areAtPeace, cX4_areAtPeace, 4, some .boolean, 1, 22)
def m_X5_copyFrom : MD := (5, yX5_copyFrom, cX5_copyFrom, 2, none, 2, 47)
def m_X5_isOver : MD := (5, yX5_isOver, cX5_isOver, 1, some .boolean, 0, 0)
def m_X5_wentBy : MD := (5, yX5_wentBy, cX5_wentBy, 2, some .boolean, 0, 0)
def m_X5_stateOf : MD := (5, yX5_stateOf, cX5_stateOf, 2, some .int, 4, 88)
def m_X5_stateAsOf : MD := (5, yX5_stateAsOf, cX5_stateAsOf, 3, some .int, 3, 66)
def m_X5_passDay : MD := (5, yX5_passDay, cX5_passDay, 3, some .int, 3, 69)
def m_X5_forgetOrders : MD := (5, yX5_forgetOrders, cX5_forgetOrders, 1, none, 1, 23)
def m_X6_armyOf : MD := (6, yX6_armyOf, cX6_armyOf, 1, some .int, 0, 0)
def m_X6_goalOf : MD := (6, yX6_goalOf, cX6_goalOf, 1, some .int, 0, 0)
def m_X6_isOne : MD := (6, yX6_isOne, cX6_isOne, 5, some .boolean, 3, 64)
def m_X6_howManyDutiful : MD := (6, yX6_howManyDutiful, cX6_howManyDutiful, 5, some .int, 5, 112)
def m_X6_dutifulAt : MD := (6, yX6_dutifulAt, cX6_dutifulAt, 6, some .int, 5, 112)
def m_X6_isDutiful : MD := (6, yX6_isDutiful, cX6_isDutiful, 5, some .boolean, 4, 88)
def m_X6_obeys : MD := (6, yX6_obeys, cX6_obeys, 3, some .boolean, 1, 20)
def m_X7_copyFrom : MD := (7, yX7_copyFrom, cX7_copyFrom, 2, none, 1, 26)
def m_X7_has : MD := (7, yX7_has, cX7_has, 2, some .boolean, 0, 0)
def m_X7_add : MD := (7, yX7_add, cX7_add, 5, none, 0, 0)
def m_X7_remove : MD := (7, yX7_remove, cX7_remove, 3, none, 1, 21)
def m_X7_areClashing : MD := (7, yX7_areClashing, cX7_areClashing, 3, some .boolean, 0, 0)
def m_X8_remember : MD := (8, yX8_remember, cX8_remember, 2, none, 3, 68)
def m_X8_takeBack : MD := (8, yX8_takeBack, cX8_takeBack, 2, none, 3, 68)
def m_X8_forgetAll : MD := (8, yX8_forgetAll, cX8_forgetAll, 1, none, 0, 0)
def m_X9_add : MD := (9, yX9_add, cX9_add, 2, none, 0, 0)
def m_X9_readAll : MD := (9, yX9_readAll, cX9_readAll, 2, some .int, 6, 128)
def m_X9_readItem : MD := (9, yX9_readItem, cX9_readItem, 2, some .boolean, 5, 107)
def m_X9_readFields : MD := (9, yX9_readFields, cX9_readFields, 1, some .boolean, 4, 84)
def m_X9_readRoad : MD := (9, yX9_readRoad, cX9_readRoad, 2, some .boolean, 4, 82)
def m_X9_readArmy : MD := (9, yX9_readArmy, cX9_readArmy, 3, some .boolean, 4, 84)
def m_X9_readPage : MD := (9, yX9_readPage, cX9_readPage, 4, some .boolean, 4, 84)
def m_X9_readField : MD := (9, yX9_readField, cX9_readField, 1, some .boolean, 3, 62)
def m_X9_readNumber : MD := (9, yX9_readNumber, cX9_readNumber, 3, some .boolean, 3, 62)
def m_X9_readItemEnd : MD := (9, yX9_readItemEnd, cX9_readItemEnd, 1, some .boolean, 3, 62)
def m_X9_readToken : MD := (9, yX9_readToken, cX9_readToken, 1, none, 2, 42)
def m_X9_skipBlanks : MD := (9, yX9_skipBlanks, cX9_skipBlanks, 1, none, 0, 0)
def m_X9_readDigits : MD := (9, yX9_readDigits, cX9_readDigits, 3, none, 1, 20)
def m_X9_isDigit : MD := (9, yX9_isDigit, cX9_isDigit, 1, some .boolean, 0, 0)
def m_X10_type : MD := (10, yX10_type, cX10_type, 2, some .int, 1, 21)
def m_X10_clear : MD := (10, yX10_clear, cX10_clear, 2, some .int, 0, 0)
def m_X10_land : MD := (10, yX10_land, cX10_land, 2, some .int, 7, 149)
def m_X10_roads : MD := (10, yX10_roads, cX10_roads, 2, some .int, 2, 42)
def m_X10_army : MD := (10, yX10_army, cX10_army, 3, some .int, 1, 21)
def m_X10_page : MD := (10, yX10_page, cX10_page, 3, some .int, 5, 109)
def m_X10_now : MD := (10, yX10_now, cX10_now, 2, some .int, 1, 23)
def m_X10_written : MD := (10, yX10_written, cX10_written, 3, some .int, 2, 42)
def m_X10_orders : MD := (10, yX10_orders, cX10_orders, 3, some .int, 4, 89)
def m_X10_day : MD := (10, yX10_day, cX10_day, 1, some .int, 4, 91)
def m_X10_writes : MD := (10, yX10_writes, cX10_writes, 5, some .int, 4, 89)
def m_X10_strikes : MD := (10, yX10_strikes, cX10_strikes, 2, some .int, 4, 89)
def m_X10_undo : MD := (10, yX10_undo, cX10_undo, 1, some .int, 4, 89)
def m_X10_dutiful : MD := (10, yX10_dutiful, cX10_dutiful, 3, some .int, 6, 137)
def m_X10_best : MD := (10, yX10_best, cX10_best, 5, some .int, 6, 137)
def m_X10_readings : MD := (10, yX10_readings, cX10_readings, 1, some .int, 6, 134)
def m_X10_lost : MD := (10, yX10_lost, cX10_lost, 2, some .int, 4, 91)
def m_X10_clash : MD := (10, yX10_clash, cX10_clash, 1, some .int, 2, 44)
def m_X10_least : MD := (10, yX10_least, cX10_least, 3, some .int, 7, 156)
def m_X10_march : MD := (10, yX10_march, cX10_march, 3, some .int, 4, 89)
def m_X10_rate : MD := (10, yX10_rate, cX10_rate, 3, some .int, 4, 84)
def m_X10_keep : MD := (10, yX10_keep, cX10_keep, 2, some .int, 4, 90)
def m_X10_back : MD := (10, yX10_back, cX10_back, 2, some .int, 3, 68)
def m_X10_count : MD := (10, yX10_count, cX10_count, 2, some .int, 0, 0)
def m_X10_trace : MD := (10, yX10_trace, cX10_trace, 1, some .long, 0, 0)
def m_X10_isDuke : MD := (10, yX10_isDuke, cX10_isDuke, 1, some .boolean, 0, 0)
def m_X10_rateTroop : MD := (10, yX10_rateTroop, cX10_rateTroop, 2, some .int, 0, 0)
def m_X10_rateArchers : MD := (10, yX10_rateArchers, cX10_rateArchers, 2, some .int, 1, 21)
def m_X10_rateSiege : MD := (10, yX10_rateSiege, cX10_rateSiege, 2, some .int, 2, 42)
def m_X10_rateMarginalArchers : MD := (10, yX10_rateMarginalArchers, cX10_rateMarginalArchers, 2, some .int, 2, 42)
def m_X10_rateBaggage : MD := (10, yX10_rateBaggage, cX10_rateBaggage, 2, some .int, 3, 63)
def m_X10_rateMarshal : MD := (10, yX10_rateMarshal, cX10_rateMarshal, 2, some .int, 1, 21)
def m_X11_in : MD := (11, yX11_in, cX11_in, 3, some .boolean, 0, 0)
def m_X11_has : MD := (11, yX11_has, cX11_has, 2, some .boolean, 0, 0)
def m_X11_bits : MD := (11, yX11_bits, cX11_bits, 3, some .int, 0, 0)
def m_X11_isDuke : MD := (11, yX11_isDuke, cX11_isDuke, 1, some .boolean, 1, 22)
def m_X11_isField : MD := (11, yX11_isField, cX11_isField, 2, some .boolean, 1, 22)
def m_X11_isArmy : MD := (11, yX11_isArmy, cX11_isArmy, 2, some .boolean, 1, 22)
def m_X11_isPage : MD := (11, yX11_isPage, cX11_isPage, 2, some .boolean, 1, 22)
def m_X11_isOver : MD := (11, yX11_isOver, cX11_isOver, 1, some .boolean, 0, 0)
def m_X11_type : MD := (11, yX11_type, cX11_type, 2, some .int, 1, 22)
def m_X11_clear : MD := (11, yX11_clear, cX11_clear, 2, some .int, 0, 0)
def m_X11_letterAt : MD := (11, yX11_letterAt, cX11_letterAt, 2, some .int, 0, 0)
def m_X11_next : MD := (11, yX11_next, cX11_next, 2, none, 1, 22)
def m_X11_must : MD := (11, yX11_must, cX11_must, 2, none, 2, 43)
def m_X11_readInto : MD := (11, yX11_readInto, cX11_readInto, 6, some .int, 3, 64)
def m_X11_readFields : MD := (11, yX11_readFields, cX11_readFields, 2, none, 4, 89)
def m_X11_readRoad : MD := (11, yX11_readRoad, cX11_readRoad, 3, none, 4, 89)
def m_X11_readItem : MD := (11, yX11_readItem, cX11_readItem, 3, none, 5, 111)
def m_X11_readArmy : MD := (11, yX11_readArmy, cX11_readArmy, 2, none, 4, 89)
def m_X11_readPage : MD := (11, yX11_readPage, cX11_readPage, 2, none, 4, 89)
def m_X11_land : MD := (11, yX11_land, cX11_land, 3, some .int, 6, 133)
def m_X11_roads : MD := (11, yX11_roads, cX11_roads, 2, some .int, 2, 43)
def m_X11_army : MD := (11, yX11_army, cX11_army, 3, some .int, 2, 43)
def m_X11_isSo : MD := (11, yX11_isSo, cX11_isSo, 6, some .boolean, 1, 21)
def m_X11_isGone : MD := (11, yX11_isGone, cX11_isGone, 2, some .boolean, 0, 0)
def m_X11_isFulfilledBy : MD := (11, yX11_isFulfilledBy, cX11_isFulfilledBy, 4, some .boolean, 2, 46)
def m_X11_isBroken : MD := (11, yX11_isBroken, cX11_isBroken, 3, some .boolean, 3, 69)
def m_X11_page : MD := (11, yX11_page, cX11_page, 3, some .int, 4, 91)
def m_X11_troopsOf : MD := (11, yX11_troopsOf, cX11_troopsOf, 4, some .int, 0, 0)
def m_X11_now : MD := (11, yX11_now, cX11_now, 2, some .int, 1, 23)
def m_X11_written : MD := (11, yX11_written, cX11_written, 3, some .int, 1, 22)
def m_X11_isOrder : MD := (11, yX11_isOrder, cX11_isOrder, 7, some .boolean, 2, 43)
def m_X11_layNow : MD := (11, yX11_layNow, cX11_layNow, 2, none, 0, 0)
def m_X11_strength : MD := (11, yX11_strength, cX11_strength, 6, some .int, 0, 0)
def m_X11_loses : MD := (11, yX11_loses, cX11_loses, 10, none, 0, 0)
def m_X11_marches : MD := (11, yX11_marches, cX11_marches, 3, none, 0, 0)
def m_X11_goes : MD := (11, yX11_goes, cX11_goes, 9, some .int, 1, 29)
def m_X11_isOrderNow : MD := (11, yX11_isOrderNow, cX11_isOrderNow, 3, some .boolean, 3, 69)
def m_X11_remembers : MD := (11, yX11_remembers, cX11_remembers, 2, none, 0, 0)
def m_X11_orders : MD := (11, yX11_orders, cX11_orders, 3, some .int, 4, 91)
def m_X11_day : MD := (11, yX11_day, cX11_day, 4, some .int, 2, 57)
def m_X11_writes : MD := (11, yX11_writes, cX11_writes, 6, some .int, 2, 43)
def m_X11_strikes : MD := (11, yX11_strikes, cX11_strikes, 3, some .int, 2, 43)
def m_X11_undo : MD := (11, yX11_undo, cX11_undo, 2, some .int, 0, 0)
def m_X11_isDutiful : MD := (11, yX11_isDutiful, cX11_isDutiful, 10, some .boolean, 0, 0)
def m_X11_nextOrder : MD := (11, yX11_nextOrder, cX11_nextOrder, 5, some .int, 3, 69)
def m_X11_firstOrder : MD := (11, yX11_firstOrder, cX11_firstOrder, 4, some .int, 4, 93)
def m_X11_dutiful : MD := (11, yX11_dutiful, cX11_dutiful, 5, some .int, 4, 93)
def m_X11_more : MD := (11, yX11_more, cX11_more, 5, some .int, 0, 0)
def m_X11_dayOf : MD := (11, yX11_dayOf, cX11_dayOf, 5, some .int, 2, 57)
def m_X11_sureOne : MD := (11, yX11_sureOne, cX11_sureOne, 8, some .int, 5, 116)
def m_X11_sureTwo : MD := (11, yX11_sureTwo, cX11_sureTwo, 8, some .int, 6, 143)
def m_X11_best : MD := (11, yX11_best, cX11_best, 5, some .int, 7, 170)
def m_X11_readings : MD := (11, yX11_readings, cX11_readings, 5, some .int, 4, 91)
def m_X11_lost : MD := (11, yX11_lost, cX11_lost, 5, some .int, 2, 46)
def m_X11_doClash : MD := (11, yX11_doClash, cX11_doClash, 8, some .boolean, 0, 0)
def m_X11_clash : MD := (11, yX11_clash, cX11_clash, 3, some .int, 1, 27)
def m_X11_isWellWithout : MD := (11, yX11_isWellWithout, cX11_isWellWithout, 5, some .boolean, 4, 91)
def m_X11_least : MD := (11, yX11_least, cX11_least, 4, some .int, 5, 115)
def m_X11_march : MD := (11, yX11_march, cX11_march, 7, some .int, 2, 43)
def m_X11_troopRate : MD := (11, yX11_troopRate, cX11_troopRate, 2, some .int, 0, 0)
def m_X11_archersRate : MD := (11, yX11_archersRate, cX11_archersRate, 2, some .int, 1, 21)
def m_X11_siegeRate : MD := (11, yX11_siegeRate, cX11_siegeRate, 2, some .int, 1, 22)
def m_X11_rate : MD := (11, yX11_rate, cX11_rate, 3, some .int, 2, 43)
def m_X11_keep : MD := (11, yX11_keep, cX11_keep, 3, some .int, 1, 22)
def m_X11_back : MD := (11, yX11_back, cX11_back, 3, some .int, 1, 22)
def m_X11_count : MD := (11, yX11_count, cX11_count, 2, some .int, 0, 0)
def m_X11_trace : MD := (11, yX11_trace, cX11_trace, 1, some .long, 0, 0)
def m_J_bitCount : MD := (13, yJ6_bitCount_0f7a4, cJ6_bitCount_0f7a4, 1, some .int, 0, 0)
def m_J_min : MD := (14, yJ9_min_7cf53, cJ9_min_7cf53, 2, some .int, 0, 0)
def m_J_fill : MD := (15, yJ7_fill_53178, cJ7_fill_53178, 4, none, 0, 0)
theorem b_X0_copyFrom_0 : dkM m_X0_copyFrom 0 [(.aload_n 1, 1, 1, 0, none, 0), (.getfield 9, 3, 0, 0, some (some 1), 0), (.iconst 0, 1, 0, 0, none, 0), (.aload_n 0, 1, 0, 0, none, 0), (.getfield 9, 3, 0, 0, some (some 1), 0), (.iconst 0, 1, 0, 0, none, 0), (.bipush 20, 2, 0, 0, none, 20)] 12 = true := by decide +kernel
theorem b_X0_copyFrom_15 : dkM m_X0_copyFrom 15 [(.aload_n 1, 1, 1, 0, none, 0), (.getfield 15, 3, 0, 1, some (some 2), 0), (.iconst 0, 1, 0, 0, none, 0), (.aload_n 0, 1, 0, 0, none, 0), (.getfield 15, 3, 0, 1, some (some 2), 0), (.iconst 0, 1, 0, 0, none, 0), (.bipush 10, 2, 0, 0, none, 10)] 27 = true := by decide +kernel
theorem b_X0_copyFrom_30 : dkM m_X0_copyFrom 30 [(.return_, 1, 0, 0, none, 0)] 31 = true := by decide +kernel
theorem k_X0_copyFrom_12 : cpB m_X0_copyFrom 12 18 423 403 402 70 = true := by decide +kernel
theorem k_X0_copyFrom_27 : cpB m_X0_copyFrom 27 18 423 403 402 70 = true := by decide +kernel
theorem b_X0_putGoal_0 : dkM m_X0_putGoal 0 [(.iload_n 1, 1, 1, 0, none, 0)] 1 = true := by decide +kernel
theorem b_X0_putGoal_4 : dkM m_X0_putGoal 4 [(.ifCond .eq 21, 3, 25, 7, none, 0)] 7 = true := by decide +kernel
theorem b_X0_putGoal_7 : dkM m_X0_putGoal 7 [(.iload_n 2, 1, 2, 0, none, 0)] 8 = true := by decide +kernel
theorem b_X0_putGoal_11 : dkM m_X0_putGoal 11 [(.ifCond .eq 14, 3, 25, 14, none, 0)] 14 = true := by decide +kernel
theorem b_X0_putGoal_14 : dkM m_X0_putGoal 14 [(.aload_n 0, 1, 0, 0, none, 0), (.getfield 9, 3, 0, 0, some (some 1), 0), (.iconst 2, 1, 0, 0, none, 2), (.iload_n 1, 1, 1, 0, none, 0), (.imul, 1, 0, 0, none, 0), (.iload_n 2, 1, 2, 0, none, 0), (.iadd, 1, 0, 0, none, 0), (.iload_n 3, 1, 3, 0, none, 0), (.iastore, 1, 0, 0, none, 0)] 25 = true := by decide +kernel
theorem b_X0_putGoal_25 : dkM m_X0_putGoal 25 [(.return_, 1, 0, 0, none, 0)] 26 = true := by decide +kernel
theorem k_X0_putGoal_1 : csB m_X0_putGoal m_X0_isDay 1 24 1 479 64 477 478 = true := by decide +kernel
theorem k_X0_putGoal_8 : cnB m_X0_putGoal m_X10_isDuke 8 28 1 482 59 480 481 "ChronicleWar" = true := by decide +kernel
theorem b_X0_putBattles_0 : dkM m_X0_putBattles 0 [(.iload_n 1, 1, 1, 0, none, 0)] 1 = true := by decide +kernel
theorem b_X0_putBattles_4 : dkM m_X0_putBattles 4 [(.ifCond .eq 10, 3, 14, 7, none, 0)] 7 = true := by decide +kernel
theorem b_X0_putBattles_7 : dkM m_X0_putBattles 7 [(.aload_n 0, 1, 0, 0, none, 0), (.getfield 15, 3, 0, 1, some (some 2), 0), (.iload_n 1, 1, 1, 0, none, 0), (.iload_n 2, 1, 2, 0, none, 0), (.iastore, 1, 0, 0, none, 0)] 14 = true := by decide +kernel
theorem b_X0_putBattles_14 : dkM m_X0_putBattles 14 [(.return_, 1, 0, 0, none, 0)] 15 = true := by decide +kernel
theorem k_X0_putBattles_1 : csB m_X0_putBattles m_X0_isDay 1 24 1 479 64 477 478 = true := by decide +kernel
theorem b_X0_goalOf_0 : dkM m_X0_goalOf 0 [(.iload_n 1, 1, 1, 0, none, 0)] 1 = true := by decide +kernel
theorem b_X0_goalOf_4 : dkM m_X0_goalOf 4 [(.ifCond .eq 23, 3, 27, 7, none, 0)] 7 = true := by decide +kernel
theorem b_X0_goalOf_7 : dkM m_X0_goalOf 7 [(.iload_n 2, 1, 2, 0, none, 0)] 8 = true := by decide +kernel
theorem b_X0_goalOf_11 : dkM m_X0_goalOf 11 [(.ifCond .eq 16, 3, 27, 14, none, 0)] 14 = true := by decide +kernel
theorem b_X0_goalOf_14 : dkM m_X0_goalOf 14 [(.aload_n 0, 1, 0, 0, none, 0), (.getfield 9, 3, 0, 0, some (some 1), 0), (.iconst 2, 1, 0, 0, none, 2), (.iload_n 1, 1, 1, 0, none, 0), (.imul, 1, 0, 0, none, 0), (.iload_n 2, 1, 2, 0, none, 0), (.iadd, 1, 0, 0, none, 0), (.iaload, 1, 0, 0, none, 0), (.goto 5, 3, 29, 0, none, 0)] 27 = true := by decide +kernel
theorem b_X0_goalOf_27 : dkM m_X0_goalOf 27 [(.bipush (-9), 2, 0, 0, none, -9)] 29 = true := by decide +kernel
theorem b_X0_goalOf_29 : dkM m_X0_goalOf 29 [(.ireturn, 1, 0, 0, none, 0)] 30 = true := by decide +kernel
theorem k_X0_goalOf_1 : csB m_X0_goalOf m_X0_isDay 1 24 1 479 64 477 478 = true := by decide +kernel
theorem k_X0_goalOf_8 : cnB m_X0_goalOf m_X10_isDuke 8 28 1 482 59 480 481 "ChronicleWar" = true := by decide +kernel
theorem b_X0_battlesOf_0 : dkM m_X0_battlesOf 0 [(.iload_n 1, 1, 1, 0, none, 0)] 1 = true := by decide +kernel
theorem b_X0_battlesOf_4 : dkM m_X0_battlesOf 4 [(.ifCond .eq 12, 3, 16, 7, none, 0)] 7 = true := by decide +kernel
theorem b_X0_battlesOf_7 : dkM m_X0_battlesOf 7 [(.aload_n 0, 1, 0, 0, none, 0), (.getfield 15, 3, 0, 1, some (some 2), 0), (.iload_n 1, 1, 1, 0, none, 0), (.iaload, 1, 0, 0, none, 0), (.goto 4, 3, 17, 0, none, 0)] 16 = true := by decide +kernel
theorem b_X0_battlesOf_16 : dkM m_X0_battlesOf 16 [(.iconst 0, 1, 0, 0, none, 0)] 17 = true := by decide +kernel
theorem b_X0_battlesOf_17 : dkM m_X0_battlesOf 17 [(.ireturn, 1, 0, 0, none, 0)] 18 = true := by decide +kernel
theorem k_X0_battlesOf_1 : csB m_X0_battlesOf m_X0_isDay 1 24 1 479 64 477 478 = true := by decide +kernel
theorem b_X0_confirm_0 : dkM m_X0_confirm 0 [(.iload_n 3, 1, 3, 0, none, 0)] 1 = true := by decide +kernel
theorem b_X0_confirm_28 : dkM m_X0_confirm 28 [(.aload_n 0, 1, 0, 0, none, 0), (.iload_n 1, 1, 1, 0, none, 0), (.iload_n 2, 1, 2, 0, none, 0)] 31 = true := by decide +kernel
theorem b_X0_confirm_34 : dkM m_X0_confirm 34 [(.iload 4, 2, 4, 0, none, 0), (.if_icmp .ne 7, 3, 43, 39, none, 0)] 39 = true := by decide +kernel
theorem b_X0_confirm_39 : dkM m_X0_confirm 39 [(.iconst 1, 1, 0, 0, none, 1), (.goto 4, 3, 44, 0, none, 0)] 43 = true := by decide +kernel
theorem b_X0_confirm_43 : dkM m_X0_confirm 43 [(.iconst 0, 1, 0, 0, none, 0)] 44 = true := by decide +kernel
theorem b_X0_confirm_44 : dkM m_X0_confirm 44 [(.ireturn, 1, 1, 0, none, 0)] 45 = true := by decide +kernel
theorem b_X0_confirm_45 : dkM m_X0_confirm 45 [(.aload_n 0, 1, 0, 0, none, 0), (.iload_n 1, 1, 1, 0, none, 0)] 47 = true := by decide +kernel
theorem b_X0_confirm_50 : dkM m_X0_confirm 50 [(.iload 4, 2, 4, 0, none, 0), (.ishr, 1, 0, 0, none, 0), (.iconst 1, 1, 0, 0, none, 1), (.iand, 1, 0, 0, none, 0), (.iconst 1, 1, 0, 0, none, 1), (.if_icmp .ne 7, 3, 63, 59, none, 0)] 59 = true := by decide +kernel
theorem b_X0_confirm_59 : dkM m_X0_confirm 59 [(.iconst 1, 1, 0, 0, none, 1), (.goto 4, 3, 64, 0, none, 0)] 63 = true := by decide +kernel
theorem b_X0_confirm_63 : dkM m_X0_confirm 63 [(.iconst 0, 1, 0, 0, none, 0)] 64 = true := by decide +kernel
theorem b_X0_confirm_64 : dkM m_X0_confirm 64 [(.ireturn, 1, 1, 0, none, 0)] 65 = true := by decide +kernel
theorem b_X0_confirm_65 : dkM m_X0_confirm 65 [(.aload_n 0, 1, 0, 0, none, 0), (.iload_n 1, 1, 1, 0, none, 0), (.iload_n 2, 1, 2, 0, none, 0)] 68 = true := by decide +kernel
theorem b_X0_confirm_71 : dkM m_X0_confirm 71 [(.bipush (-9), 2, 0, 0, none, -9), (.if_icmp .ne 7, 3, 80, 76, none, 0)] 76 = true := by decide +kernel
theorem b_X0_confirm_76 : dkM m_X0_confirm 76 [(.iconst 1, 1, 0, 0, none, 1), (.goto 4, 3, 81, 0, none, 0)] 80 = true := by decide +kernel
theorem b_X0_confirm_80 : dkM m_X0_confirm 80 [(.iconst 0, 1, 0, 0, none, 0)] 81 = true := by decide +kernel
theorem b_X0_confirm_81 : dkM m_X0_confirm 81 [(.ireturn, 1, 1, 0, none, 0)] 82 = true := by decide +kernel
theorem k_X0_confirm_31 : cvB m_X0_confirm m_X0_goalOf 31 31 0 2 476 64 473 474 475 = true := by decide +kernel
theorem k_X0_confirm_47 : cvB m_X0_confirm m_X0_battlesOf 47 35 0 1 486 64 483 484 485 = true := by decide +kernel
theorem k_X0_confirm_68 : cvB m_X0_confirm m_X0_goalOf 68 31 0 2 476 64 473 474 475 = true := by decide +kernel
theorem s_X0_confirm_1 : lswB cX0_confirm 1 64 #[(0, 27), (1, 44)] 27 [(0, 28), (1, 45)] 65 = true := by decide +kernel
theorem b_X0_isDay_0 : dkM m_X0_isDay 0 [(.iload_n 0, 1, 0, 0, none, 0), (.iconst 1, 1, 0, 0, none, 1), (.if_icmp .lt 13, 3, 15, 5, none, 0)] 5 = true := by decide +kernel
theorem b_X0_isDay_5 : dkM m_X0_isDay 5 [(.iload_n 0, 1, 0, 0, none, 0), (.bipush 9, 2, 0, 0, none, 9), (.if_icmp .gt 7, 3, 15, 11, none, 0)] 11 = true := by decide +kernel
theorem b_X0_isDay_11 : dkM m_X0_isDay 11 [(.iconst 1, 1, 0, 0, none, 1), (.goto 4, 3, 16, 0, none, 0)] 15 = true := by decide +kernel
theorem b_X0_isDay_15 : dkM m_X0_isDay 15 [(.iconst 0, 1, 0, 0, none, 0)] 16 = true := by decide +kernel
theorem b_X0_isDay_16 : dkM m_X0_isDay 16 [(.ireturn, 1, 1, 0, none, 0)] 17 = true := by decide +kernel
theorem b_X1_copyFrom_0 : dkM m_X1_copyFrom 0 [(.aload_n 0, 1, 0, 0, none, 0), (.aload_n 1, 1, 1, 0, none, 0), (.getfield 9, 3, 1, 0, none, 0), (.putfield 9, 3, 1, 0, none, 0), (.aload_n 1, 1, 1, 0, none, 0), (.getfield 15, 3, 1, 1, some (some 1), 0), (.iconst 0, 1, 0, 0, none, 0), (.aload_n 0, 1, 0, 0, none, 0), (.getfield 15, 3, 1, 1, some (some 1), 0), (.iconst 0, 1, 0, 0, none, 0), (.bipush 6, 2, 0, 0, none, 6)] 20 = true := by decide +kernel
theorem b_X1_copyFrom_23 : dkM m_X1_copyFrom 23 [(.aload_n 1, 1, 1, 0, none, 0), (.getfield 19, 3, 1, 2, some (some 2), 0), (.iconst 0, 1, 0, 0, none, 0), (.aload_n 0, 1, 0, 0, none, 0), (.getfield 19, 3, 1, 2, some (some 2), 0), (.iconst 0, 1, 0, 0, none, 0), (.bipush 6, 2, 0, 0, none, 6)] 35 = true := by decide +kernel
theorem b_X1_copyFrom_38 : dkM m_X1_copyFrom 38 [(.aload_n 1, 1, 1, 0, none, 0), (.getfield 22, 3, 1, 3, some (some 3), 0), (.iconst 0, 1, 0, 0, none, 0), (.aload_n 0, 1, 0, 0, none, 0), (.getfield 22, 3, 1, 3, some (some 3), 0), (.iconst 0, 1, 0, 0, none, 0), (.bipush 6, 2, 0, 0, none, 6)] 50 = true := by decide +kernel
theorem b_X1_copyFrom_53 : dkM m_X1_copyFrom 53 [(.return_, 1, 0, 0, none, 0)] 54 = true := by decide +kernel
theorem k_X1_copyFrom_20 : cpB m_X1_copyFrom 20 25 413 403 402 70 = true := by decide +kernel
theorem k_X1_copyFrom_35 : cpB m_X1_copyFrom 35 25 413 403 402 70 = true := by decide +kernel
theorem k_X1_copyFrom_50 : cpB m_X1_copyFrom 50 25 413 403 402 70 = true := by decide +kernel
theorem b_X1_has_0 : dkM m_X1_has 0 [(.iload_n 1, 1, 1, 0, none, 0), (.ifCond .lt 21, 3, 22, 4, none, 0)] 4 = true := by decide +kernel
theorem b_X1_has_4 : dkM m_X1_has 4 [(.iload_n 1, 1, 1, 0, none, 0), (.aload_n 0, 1, 0, 0, none, 0), (.getfield 9, 3, 1, 0, none, 0), (.if_icmp .ge 13, 3, 22, 12, none, 0)] 12 = true := by decide +kernel
theorem b_X1_has_12 : dkM m_X1_has 12 [(.iload_n 1, 1, 1, 0, none, 0), (.bipush 6, 2, 0, 0, none, 6), (.if_icmp .ge 7, 3, 22, 18, none, 0)] 18 = true := by decide +kernel
theorem b_X1_has_18 : dkM m_X1_has 18 [(.iconst 1, 1, 0, 0, none, 1), (.goto 4, 3, 23, 0, none, 0)] 22 = true := by decide +kernel
theorem b_X1_has_22 : dkM m_X1_has 22 [(.iconst 0, 1, 0, 0, none, 0)] 23 = true := by decide +kernel
theorem b_X1_has_23 : dkM m_X1_has 23 [(.ireturn, 1, 1, 0, none, 0)] 24 = true := by decide +kernel
theorem b_X1_add_0 : dkM m_X1_add 0 [(.aload_n 0, 1, 0, 0, none, 0), (.getfield 9, 3, 1, 0, none, 0), (.bipush 6, 2, 0, 0, none, 6), (.if_icmp .ge 43, 3, 49, 9, none, 0)] 9 = true := by decide +kernel
theorem b_X1_add_9 : dkM m_X1_add 9 [(.aload_n 0, 1, 0, 0, none, 0), (.getfield 15, 3, 1, 1, some (some 1), 0), (.aload_n 0, 1, 0, 0, none, 0), (.getfield 9, 3, 1, 0, none, 0), (.iload_n 1, 1, 1, 0, none, 0), (.iastore, 1, 0, 0, none, 0), (.aload_n 0, 1, 0, 0, none, 0), (.getfield 19, 3, 1, 2, some (some 2), 0), (.aload_n 0, 1, 0, 0, none, 0), (.getfield 9, 3, 1, 0, none, 0), (.iload_n 2, 1, 2, 0, none, 0), (.iastore, 1, 0, 0, none, 0), (.aload_n 0, 1, 0, 0, none, 0), (.getfield 22, 3, 1, 3, some (some 3), 0), (.aload_n 0, 1, 0, 0, none, 0), (.getfield 9, 3, 1, 0, none, 0), (.iload_n 3, 1, 3, 0, none, 0), (.iastore, 1, 0, 0, none, 0), (.aload_n 0, 1, 0, 0, none, 0), (.dup, 1, 0, 0, none, 0), (.getfield 9, 3, 1, 0, none, 0), (.iconst 1, 1, 0, 0, none, 1), (.iadd, 1, 0, 0, none, 0), (.putfield 9, 3, 1, 0, none, 0)] 49 = true := by decide +kernel
theorem b_X1_add_49 : dkM m_X1_add 49 [(.return_, 1, 0, 0, none, 0)] 50 = true := by decide +kernel
theorem b_X1_moveTo_0 : dkM m_X1_moveTo 0 [(.aload_n 0, 1, 0, 0, none, 0), (.iload_n 1, 1, 1, 0, none, 0)] 2 = true := by decide +kernel
theorem b_X1_moveTo_5 : dkM m_X1_moveTo 5 [(.ifCond .eq 10, 3, 15, 8, none, 0)] 8 = true := by decide +kernel
theorem b_X1_moveTo_8 : dkM m_X1_moveTo 8 [(.aload_n 0, 1, 0, 0, none, 0), (.getfield 19, 3, 1, 2, some (some 2), 0), (.iload_n 1, 1, 1, 0, none, 0), (.iload_n 2, 1, 2, 0, none, 0), (.iastore, 1, 0, 0, none, 0)] 15 = true := by decide +kernel
theorem b_X1_moveTo_15 : dkM m_X1_moveTo 15 [(.return_, 1, 0, 0, none, 0)] 16 = true := by decide +kernel
theorem k_X1_moveTo_2 : cvB m_X1_moveTo m_X1_has 2 31 1 1 448 62 553 446 447 = true := by decide +kernel
theorem b_X1_troopsOf_0 : dkM m_X1_troopsOf 0 [(.iconst 0, 1, 0, 0, none, 0), (.istore_n 2, 1, 2, 0, none, 0), (.iconst 0, 1, 0, 0, none, 0), (.istore_n 3, 1, 3, 0, none, 0)] 4 = true := by decide +kernel
theorem b_X1_troopsOf_4 : dkM m_X1_troopsOf 4 [(.iload_n 3, 1, 3, 0, none, 0), (.aload_n 0, 1, 0, 0, none, 0), (.getfield 9, 3, 1, 0, none, 0), (.if_icmp .ge 28, 3, 37, 12, none, 0)] 12 = true := by decide +kernel
theorem b_X1_troopsOf_12 : dkM m_X1_troopsOf 12 [(.aload_n 0, 1, 0, 0, none, 0), (.getfield 15, 3, 1, 1, some (some 1), 0), (.iload_n 3, 1, 3, 0, none, 0), (.iaload, 1, 0, 0, none, 0), (.iload_n 1, 1, 1, 0, none, 0), (.if_icmp .ne 12, 3, 31, 22, none, 0)] 22 = true := by decide +kernel
theorem b_X1_troopsOf_22 : dkM m_X1_troopsOf 22 [(.iload_n 2, 1, 2, 0, none, 0), (.aload_n 0, 1, 0, 0, none, 0), (.getfield 22, 3, 1, 3, some (some 3), 0), (.iload_n 3, 1, 3, 0, none, 0), (.iaload, 1, 0, 0, none, 0), (.iadd, 1, 0, 0, none, 0), (.istore_n 2, 1, 2, 0, none, 0)] 31 = true := by decide +kernel
theorem b_X1_troopsOf_31 : dkM m_X1_troopsOf 31 [(.iinc 3 1, 3, 3, 0, none, 1), (.goto (-30), 3, 4, 0, none, 0)] 37 = true := by decide +kernel
theorem b_X1_troopsOf_37 : dkM m_X1_troopsOf 37 [(.iload_n 2, 1, 2, 0, none, 0), (.ireturn, 1, 0, 0, none, 0)] 39 = true := by decide +kernel
theorem b_X1_troopsAt_0 : dkM m_X1_troopsAt 0 [(.iconst 0, 1, 0, 0, none, 0), (.istore_n 3, 1, 3, 0, none, 0), (.iconst 0, 1, 0, 0, none, 0), (.istore 4, 2, 4, 0, none, 0)] 5 = true := by decide +kernel
theorem b_X1_troopsAt_5 : dkM m_X1_troopsAt 5 [(.iload 4, 2, 4, 0, none, 0), (.aload_n 0, 1, 0, 0, none, 0), (.getfield 9, 3, 1, 0, none, 0), (.if_icmp .ge 41, 3, 52, 14, none, 0)] 14 = true := by decide +kernel
theorem b_X1_troopsAt_14 : dkM m_X1_troopsAt 14 [(.aload_n 0, 1, 0, 0, none, 0), (.getfield 15, 3, 1, 1, some (some 1), 0), (.iload 4, 2, 4, 0, none, 0), (.iaload, 1, 0, 0, none, 0), (.iload_n 1, 1, 1, 0, none, 0), (.if_icmp .ne 24, 3, 46, 25, none, 0)] 25 = true := by decide +kernel
theorem b_X1_troopsAt_25 : dkM m_X1_troopsAt 25 [(.aload_n 0, 1, 0, 0, none, 0), (.getfield 19, 3, 1, 2, some (some 2), 0), (.iload 4, 2, 4, 0, none, 0), (.iaload, 1, 0, 0, none, 0), (.iload_n 2, 1, 2, 0, none, 0), (.if_icmp .ne 13, 3, 46, 36, none, 0)] 36 = true := by decide +kernel
theorem b_X1_troopsAt_36 : dkM m_X1_troopsAt 36 [(.iload_n 3, 1, 3, 0, none, 0), (.aload_n 0, 1, 0, 0, none, 0), (.getfield 22, 3, 1, 3, some (some 3), 0), (.iload 4, 2, 4, 0, none, 0), (.iaload, 1, 0, 0, none, 0), (.iadd, 1, 0, 0, none, 0), (.istore_n 3, 1, 3, 0, none, 0)] 46 = true := by decide +kernel
theorem b_X1_troopsAt_46 : dkM m_X1_troopsAt 46 [(.iinc 4 1, 3, 4, 0, none, 1), (.goto (-44), 3, 5, 0, none, 0)] 52 = true := by decide +kernel
theorem b_X1_troopsAt_52 : dkM m_X1_troopsAt 52 [(.iload_n 3, 1, 3, 0, none, 0), (.ireturn, 1, 0, 0, none, 0)] 54 = true := by decide +kernel
theorem b_X1_fightAt_0 : dkM m_X1_fightAt 0 [(.aload_n 0, 1, 0, 0, none, 0), (.iconst 0, 1, 0, 0, none, 0), (.iload_n 1, 1, 1, 0, none, 0)] 3 = true := by decide +kernel
theorem b_X1_fightAt_6 : dkM m_X1_fightAt 6 [(.aload_n 0, 1, 0, 0, none, 0), (.iconst 1, 1, 0, 0, none, 1), (.iload_n 1, 1, 1, 0, none, 0)] 9 = true := by decide +kernel
theorem b_X1_fightAt_15 : dkM m_X1_fightAt 15 [(.istore_n 2, 1, 2, 0, none, 0), (.iload_n 2, 1, 2, 0, none, 0), (.ifCond .ne 5, 3, 22, 20, none, 0)] 20 = true := by decide +kernel
theorem b_X1_fightAt_20 : dkM m_X1_fightAt 20 [(.iconst 0, 1, 0, 0, none, 0), (.ireturn, 1, 1, 0, none, 0)] 22 = true := by decide +kernel
theorem b_X1_fightAt_22 : dkM m_X1_fightAt 22 [(.aload_n 0, 1, 0, 0, none, 0), (.iconst 0, 1, 0, 0, none, 0), (.iload_n 1, 1, 1, 0, none, 0), (.iload_n 2, 1, 2, 0, none, 0)] 26 = true := by decide +kernel
theorem b_X1_fightAt_29 : dkM m_X1_fightAt 29 [(.aload_n 0, 1, 0, 0, none, 0), (.iconst 1, 1, 0, 0, none, 1), (.iload_n 1, 1, 1, 0, none, 0), (.iload_n 2, 1, 2, 0, none, 0)] 33 = true := by decide +kernel
theorem b_X1_fightAt_36 : dkM m_X1_fightAt 36 [(.iconst 1, 1, 0, 0, none, 1), (.ireturn, 1, 1, 0, none, 0)] 38 = true := by decide +kernel
theorem k_X1_fightAt_3 : cvB m_X1_fightAt m_X1_troopsAt 3 35 1 2 561 62 558 559 560 = true := by decide +kernel
theorem k_X1_fightAt_9 : cvB m_X1_fightAt m_X1_troopsAt 9 35 1 2 561 62 558 559 560 = true := by decide +kernel
theorem k_X1_fightAt_12 : csB m_X1_fightAt m_J_min 12 39 2 534 72 562 533 = true := by decide +kernel
theorem k_X1_fightAt_26 : cvB m_X1_fightAt m_X1_loseAt 26 44 1 3 566 62 563 565 11 = true := by decide +kernel
theorem k_X1_fightAt_33 : cvB m_X1_fightAt m_X1_loseAt 33 44 1 3 566 62 563 565 11 = true := by decide +kernel
theorem b_X1_loseAt_0 : dkM m_X1_loseAt 0 [(.iload_n 3, 1, 3, 0, none, 0), (.istore 4, 2, 4, 0, none, 0), (.iconst 0, 1, 0, 0, none, 0), (.istore 5, 2, 5, 0, none, 0)] 6 = true := by decide +kernel
theorem b_X1_loseAt_6 : dkM m_X1_loseAt 6 [(.iload 5, 2, 5, 0, none, 0), (.aload_n 0, 1, 0, 0, none, 0), (.getfield 9, 3, 1, 0, none, 0), (.if_icmp .ge 64, 3, 76, 15, none, 0)] 15 = true := by decide +kernel
theorem b_X1_loseAt_15 : dkM m_X1_loseAt 15 [(.aload_n 0, 1, 0, 0, none, 0), (.getfield 15, 3, 1, 1, some (some 1), 0), (.iload 5, 2, 5, 0, none, 0), (.iaload, 1, 0, 0, none, 0), (.iload_n 1, 1, 1, 0, none, 0), (.if_icmp .ne 47, 3, 70, 26, none, 0)] 26 = true := by decide +kernel
theorem b_X1_loseAt_26 : dkM m_X1_loseAt 26 [(.aload_n 0, 1, 0, 0, none, 0), (.getfield 19, 3, 1, 2, some (some 2), 0), (.iload 5, 2, 5, 0, none, 0), (.iaload, 1, 0, 0, none, 0), (.iload_n 2, 1, 2, 0, none, 0), (.if_icmp .ne 36, 3, 70, 37, none, 0)] 37 = true := by decide +kernel
theorem b_X1_loseAt_37 : dkM m_X1_loseAt 37 [(.iload 4, 2, 4, 0, none, 0), (.aload_n 0, 1, 0, 0, none, 0), (.getfield 22, 3, 1, 3, some (some 3), 0), (.iload 5, 2, 5, 0, none, 0), (.iaload, 1, 0, 0, none, 0)] 46 = true := by decide +kernel
theorem b_X1_loseAt_49 : dkM m_X1_loseAt 49 [(.istore 6, 2, 6, 0, none, 0), (.aload_n 0, 1, 0, 0, none, 0), (.getfield 22, 3, 1, 3, some (some 3), 0), (.iload 5, 2, 5, 0, none, 0), (.dup2, 1, 0, 0, none, 0), (.iaload, 1, 0, 0, none, 0), (.iload 6, 2, 6, 0, none, 0), (.isub, 1, 0, 0, none, 0), (.iastore, 1, 0, 0, none, 0), (.iload 4, 2, 4, 0, none, 0), (.iload 6, 2, 6, 0, none, 0), (.isub, 1, 0, 0, none, 0), (.istore 4, 2, 4, 0, none, 0)] 70 = true := by decide +kernel
theorem b_X1_loseAt_70 : dkM m_X1_loseAt 70 [(.iinc 5 1, 3, 5, 0, none, 1), (.goto (-67), 3, 6, 0, none, 0)] 76 = true := by decide +kernel
theorem b_X1_loseAt_76 : dkM m_X1_loseAt 76 [(.return_, 1, 0, 0, none, 0)] 77 = true := by decide +kernel
theorem k_X1_loseAt_46 : csB m_X1_loseAt m_J_min 46 39 2 534 72 562 533 = true := by decide +kernel
theorem b_X2_has_0 : dkM m_X2_has 0 [(.iload_n 1, 1, 1, 0, none, 0), (.ifCond .lt 12, 3, 13, 4, none, 0)] 4 = true := by decide +kernel
theorem b_X2_has_4 : dkM m_X2_has 4 [(.iload_n 1, 1, 1, 0, none, 0), (.iconst 2, 1, 0, 0, none, 2), (.if_icmp .ge 7, 3, 13, 9, none, 0)] 9 = true := by decide +kernel
theorem b_X2_has_9 : dkM m_X2_has 9 [(.iconst 1, 1, 0, 0, none, 1), (.goto 4, 3, 14, 0, none, 0)] 13 = true := by decide +kernel
theorem b_X2_has_13 : dkM m_X2_has 13 [(.iconst 0, 1, 0, 0, none, 0)] 14 = true := by decide +kernel
theorem b_X2_has_14 : dkM m_X2_has 14 [(.ireturn, 1, 1, 0, none, 0)] 15 = true := by decide +kernel
theorem b_X2_put_0 : dkM m_X2_put 0 [(.aload_n 0, 1, 0, 0, none, 0), (.iload_n 1, 1, 1, 0, none, 0)] 2 = true := by decide +kernel
theorem b_X2_put_5 : dkM m_X2_put 5 [(.ifCond .eq 20, 3, 25, 8, none, 0)] 8 = true := by decide +kernel
theorem b_X2_put_8 : dkM m_X2_put 8 [(.aload_n 0, 1, 0, 0, none, 0), (.getfield 17, 3, 2, 1, some (some 2), 0), (.iload_n 1, 1, 1, 0, none, 0), (.aaload, 1, 0, 0, none, 0), (.aload_n 2, 1, 2, 0, none, 0)] 15 = true := by decide +kernel
theorem b_X2_put_18 : dkM m_X2_put 18 [(.aload_n 0, 1, 0, 0, none, 0), (.getfield 9, 3, 2, 0, some (some 1), 0), (.iload_n 1, 1, 1, 0, none, 0), (.iconst 1, 1, 0, 0, none, 1), (.bastore, 1, 0, 0, none, 0)] 25 = true := by decide +kernel
theorem b_X2_put_25 : dkM m_X2_put 25 [(.return_, 1, 0, 0, none, 0)] 26 = true := by decide +kernel
theorem k_X2_put_2 : cvB m_X2_put m_X2_has 2 22 2 1 723 67 728 721 722 = true := by decide +kernel
theorem k_X2_put_15 : cvB m_X2_put m_X5_copyFrom 15 26 4 1 407 61 729 405 406 = true := by decide +kernel
theorem b_X2_forgetAll_0 : dkM m_X2_forgetAll 0 [(.iconst 0, 1, 0, 0, none, 0), (.istore_n 1, 1, 1, 0, none, 0)] 2 = true := by decide +kernel
theorem b_X2_forgetAll_2 : dkM m_X2_forgetAll 2 [(.iload_n 1, 1, 1, 0, none, 0), (.iconst 2, 1, 0, 0, none, 2), (.if_icmp .ge 16, 3, 20, 7, none, 0)] 7 = true := by decide +kernel
theorem b_X2_forgetAll_7 : dkM m_X2_forgetAll 7 [(.aload_n 0, 1, 0, 0, none, 0), (.getfield 9, 3, 2, 0, some (some 1), 0), (.iload_n 1, 1, 1, 0, none, 0), (.iconst 0, 1, 0, 0, none, 0), (.bastore, 1, 0, 0, none, 0), (.iinc 1 1, 3, 1, 0, none, 1), (.goto (-15), 3, 2, 0, none, 0)] 20 = true := by decide +kernel
theorem b_X2_forgetAll_20 : dkM m_X2_forgetAll 20 [(.return_, 1, 0, 0, none, 0)] 21 = true := by decide +kernel
theorem b_X3_reset_0 : dkM m_X3_reset 0 [(.aload_n 0, 1, 0, 0, none, 0), (.iconst 4, 1, 0, 0, none, 4), (.putfield 9, 3, 3, 0, none, 0), (.aload_n 0, 1, 0, 0, none, 0), (.getfield 15, 3, 3, 1, some (some 1), 0), (.iconst 0, 1, 0, 0, none, 0)] 10 = true := by decide +kernel
theorem b_X3_reset_13 : dkM m_X3_reset 13 [(.return_, 1, 0, 0, none, 0)] 14 = true := by decide +kernel
theorem k_X3_reset_10 : csB m_X3_reset m_J_fill 10 19 2 332 69 330 331 = true := by decide +kernel
theorem b_X3_copyFrom_0 : dkM m_X3_copyFrom 0 [(.aload_n 0, 1, 0, 0, none, 0), (.aload_n 1, 1, 1, 0, none, 0), (.getfield 9, 3, 3, 0, none, 0), (.putfield 9, 3, 3, 0, none, 0), (.aload_n 1, 1, 1, 0, none, 0), (.getfield 15, 3, 3, 1, some (some 1), 0), (.iconst 0, 1, 0, 0, none, 0), (.aload_n 0, 1, 0, 0, none, 0), (.getfield 15, 3, 3, 1, some (some 1), 0), (.iconst 0, 1, 0, 0, none, 0), (.bipush 8, 2, 0, 0, none, 8)] 20 = true := by decide +kernel
theorem b_X3_copyFrom_23 : dkM m_X3_copyFrom 23 [(.return_, 1, 0, 0, none, 0)] 24 = true := by decide +kernel
theorem k_X3_copyFrom_20 : cpB m_X3_copyFrom 20 25 401 403 402 70 = true := by decide +kernel
theorem b_X3_has_0 : dkM m_X3_has 0 [(.iload_n 1, 1, 1, 0, none, 0), (.ifCond .lt 21, 3, 22, 4, none, 0)] 4 = true := by decide +kernel
theorem b_X3_has_4 : dkM m_X3_has 4 [(.iload_n 1, 1, 1, 0, none, 0), (.aload_n 0, 1, 0, 0, none, 0), (.getfield 9, 3, 3, 0, none, 0), (.if_icmp .ge 13, 3, 22, 12, none, 0)] 12 = true := by decide +kernel
theorem b_X3_has_12 : dkM m_X3_has 12 [(.iload_n 1, 1, 1, 0, none, 0), (.bipush 8, 2, 0, 0, none, 8), (.if_icmp .ge 7, 3, 22, 18, none, 0)] 18 = true := by decide +kernel
theorem b_X3_has_18 : dkM m_X3_has 18 [(.iconst 1, 1, 0, 0, none, 1), (.goto 4, 3, 23, 0, none, 0)] 22 = true := by decide +kernel
theorem b_X3_has_22 : dkM m_X3_has 22 [(.iconst 0, 1, 0, 0, none, 0)] 23 = true := by decide +kernel
theorem b_X3_has_23 : dkM m_X3_has 23 [(.ireturn, 1, 1, 0, none, 0)] 24 = true := by decide +kernel
theorem b_X3_waysFrom_0 : dkM m_X3_waysFrom 0 [(.aload_n 0, 1, 0, 0, none, 0), (.iload_n 1, 1, 1, 0, none, 0)] 2 = true := by decide +kernel
theorem b_X3_waysFrom_5 : dkM m_X3_waysFrom 5 [(.ifCond .eq 12, 3, 17, 8, none, 0)] 8 = true := by decide +kernel
theorem b_X3_waysFrom_8 : dkM m_X3_waysFrom 8 [(.aload_n 0, 1, 0, 0, none, 0), (.getfield 15, 3, 3, 1, some (some 1), 0), (.iload_n 1, 1, 1, 0, none, 0), (.iaload, 1, 0, 0, none, 0), (.goto 4, 3, 18, 0, none, 0)] 17 = true := by decide +kernel
theorem b_X3_waysFrom_17 : dkM m_X3_waysFrom 17 [(.iconst 0, 1, 0, 0, none, 0)] 18 = true := by decide +kernel
theorem b_X3_waysFrom_18 : dkM m_X3_waysFrom 18 [(.ireturn, 1, 0, 0, none, 0)] 19 = true := by decide +kernel
theorem k_X3_waysFrom_2 : cvB m_X3_waysFrom m_X3_has 2 31 3 1 375 60 380 373 374 = true := by decide +kernel
theorem b_X3_isRoad_0 : dkM m_X3_isRoad 0 [(.aload_n 0, 1, 0, 0, none, 0), (.iload_n 2, 1, 2, 0, none, 0)] 2 = true := by decide +kernel
theorem b_X3_isRoad_5 : dkM m_X3_isRoad 5 [(.ifCond .eq 20, 3, 25, 8, none, 0)] 8 = true := by decide +kernel
theorem b_X3_isRoad_8 : dkM m_X3_isRoad 8 [(.aload_n 0, 1, 0, 0, none, 0), (.iload_n 1, 1, 1, 0, none, 0)] 10 = true := by decide +kernel
theorem b_X3_isRoad_13 : dkM m_X3_isRoad 13 [(.iload_n 2, 1, 2, 0, none, 0), (.ishr, 1, 0, 0, none, 0), (.iconst 1, 1, 0, 0, none, 1), (.iand, 1, 0, 0, none, 0), (.iconst 1, 1, 0, 0, none, 1), (.if_icmp .ne 7, 3, 25, 21, none, 0)] 21 = true := by decide +kernel
theorem b_X3_isRoad_21 : dkM m_X3_isRoad 21 [(.iconst 1, 1, 0, 0, none, 1), (.goto 4, 3, 26, 0, none, 0)] 25 = true := by decide +kernel
theorem b_X3_isRoad_25 : dkM m_X3_isRoad 25 [(.iconst 0, 1, 0, 0, none, 0)] 26 = true := by decide +kernel
theorem b_X3_isRoad_26 : dkM m_X3_isRoad 26 [(.ireturn, 1, 1, 0, none, 0)] 27 = true := by decide +kernel
theorem k_X3_isRoad_2 : cvB m_X3_isRoad m_X3_has 2 31 3 1 375 60 380 373 374 = true := by decide +kernel
theorem k_X3_isRoad_10 : cvB m_X3_isRoad m_X3_waysFrom 10 35 3 1 440 60 522 438 439 = true := by decide +kernel
theorem b_X3_join_0 : dkM m_X3_join 0 [(.aload_n 0, 1, 0, 0, none, 0), (.iload_n 1, 1, 1, 0, none, 0)] 2 = true := by decide +kernel
theorem b_X3_join_5 : dkM m_X3_join 5 [(.ifCond .eq 35, 3, 40, 8, none, 0)] 8 = true := by decide +kernel
theorem b_X3_join_8 : dkM m_X3_join 8 [(.aload_n 0, 1, 0, 0, none, 0), (.iload_n 2, 1, 2, 0, none, 0)] 10 = true := by decide +kernel
theorem b_X3_join_13 : dkM m_X3_join 13 [(.ifCond .eq 27, 3, 40, 16, none, 0)] 16 = true := by decide +kernel
theorem b_X3_join_16 : dkM m_X3_join 16 [(.aload_n 0, 1, 0, 0, none, 0), (.getfield 15, 3, 3, 1, some (some 1), 0), (.iload_n 1, 1, 1, 0, none, 0), (.dup2, 1, 0, 0, none, 0), (.iaload, 1, 0, 0, none, 0), (.iconst 1, 1, 0, 0, none, 1), (.iload_n 2, 1, 2, 0, none, 0), (.ishl, 1, 0, 0, none, 0), (.ior, 1, 0, 0, none, 0), (.iastore, 1, 0, 0, none, 0), (.aload_n 0, 1, 0, 0, none, 0), (.getfield 15, 3, 3, 1, some (some 1), 0), (.iload_n 2, 1, 2, 0, none, 0), (.dup2, 1, 0, 0, none, 0), (.iaload, 1, 0, 0, none, 0), (.iconst 1, 1, 0, 0, none, 1), (.iload_n 1, 1, 1, 0, none, 0), (.ishl, 1, 0, 0, none, 0), (.ior, 1, 0, 0, none, 0), (.iastore, 1, 0, 0, none, 0)] 40 = true := by decide +kernel
theorem b_X3_join_40 : dkM m_X3_join 40 [(.return_, 1, 0, 0, none, 0)] 41 = true := by decide +kernel
theorem k_X3_join_2 : cvB m_X3_join m_X3_has 2 31 3 1 375 60 380 373 374 = true := by decide +kernel
theorem k_X3_join_10 : cvB m_X3_join m_X3_has 10 31 3 1 375 60 380 373 374 = true := by decide +kernel
theorem b_X3_daysBetween_0 : dkM m_X3_daysBetween 0 [(.iconst 1, 1, 0, 0, none, 1), (.iload_n 1, 1, 1, 0, none, 0), (.ishl, 1, 0, 0, none, 0), (.istore_n 3, 1, 3, 0, none, 0), (.iconst 0, 1, 0, 0, none, 0), (.istore 4, 2, 4, 0, none, 0)] 7 = true := by decide +kernel
theorem b_X3_daysBetween_7 : dkM m_X3_daysBetween 7 [(.iload 4, 2, 4, 0, none, 0), (.aload_n 0, 1, 0, 0, none, 0), (.getfield 9, 3, 3, 0, none, 0), (.if_icmp .ge 27, 3, 40, 16, none, 0)] 16 = true := by decide +kernel
theorem b_X3_daysBetween_16 : dkM m_X3_daysBetween 16 [(.iload_n 3, 1, 3, 0, none, 0), (.iload_n 2, 1, 2, 0, none, 0), (.ishr, 1, 0, 0, none, 0), (.iconst 1, 1, 0, 0, none, 1), (.iand, 1, 0, 0, none, 0), (.iconst 1, 1, 0, 0, none, 1), (.if_icmp .ne 6, 3, 28, 25, none, 0)] 25 = true := by decide +kernel
theorem b_X3_daysBetween_25 : dkM m_X3_daysBetween 25 [(.iload 4, 2, 4, 0, none, 0), (.ireturn, 1, 0, 0, none, 0)] 28 = true := by decide +kernel
theorem b_X3_daysBetween_28 : dkM m_X3_daysBetween 28 [(.aload_n 0, 1, 0, 0, none, 0), (.iload_n 3, 1, 3, 0, none, 0)] 30 = true := by decide +kernel
theorem b_X3_daysBetween_33 : dkM m_X3_daysBetween 33 [(.istore_n 3, 1, 3, 0, none, 0), (.iinc 4 1, 3, 4, 0, none, 1), (.goto (-30), 3, 7, 0, none, 0)] 40 = true := by decide +kernel
theorem b_X3_daysBetween_40 : dkM m_X3_daysBetween 40 [(.bipush (-9), 2, 0, 0, none, -9), (.ireturn, 1, 0, 0, none, 0)] 43 = true := by decide +kernel
theorem k_X3_daysBetween_30 : cvB m_X3_daysBetween m_X3_aDayFurther 30 39 3 1 682 60 679 681 13 = true := by decide +kernel
theorem b_X3_aDayFurther_0 : dkM m_X3_aDayFurther 0 [(.iload_n 1, 1, 1, 0, none, 0), (.istore_n 2, 1, 2, 0, none, 0), (.iconst 0, 1, 0, 0, none, 0), (.istore_n 3, 1, 3, 0, none, 0)] 4 = true := by decide +kernel
theorem b_X3_aDayFurther_4 : dkM m_X3_aDayFurther 4 [(.iload_n 3, 1, 3, 0, none, 0), (.aload_n 0, 1, 0, 0, none, 0), (.getfield 9, 3, 3, 0, none, 0), (.if_icmp .ge 26, 3, 35, 12, none, 0)] 12 = true := by decide +kernel
theorem b_X3_aDayFurther_12 : dkM m_X3_aDayFurther 12 [(.iload_n 1, 1, 1, 0, none, 0), (.iload_n 3, 1, 3, 0, none, 0), (.ishr, 1, 0, 0, none, 0), (.iconst 1, 1, 0, 0, none, 1), (.iand, 1, 0, 0, none, 0), (.iconst 1, 1, 0, 0, none, 1), (.if_icmp .ne 11, 3, 29, 21, none, 0)] 21 = true := by decide +kernel
theorem b_X3_aDayFurther_21 : dkM m_X3_aDayFurther 21 [(.iload_n 2, 1, 2, 0, none, 0), (.aload_n 0, 1, 0, 0, none, 0), (.iload_n 3, 1, 3, 0, none, 0)] 24 = true := by decide +kernel
theorem b_X3_aDayFurther_27 : dkM m_X3_aDayFurther 27 [(.ior, 1, 0, 0, none, 0), (.istore_n 2, 1, 2, 0, none, 0)] 29 = true := by decide +kernel
theorem b_X3_aDayFurther_29 : dkM m_X3_aDayFurther 29 [(.iinc 3 1, 3, 3, 0, none, 1), (.goto (-28), 3, 4, 0, none, 0)] 35 = true := by decide +kernel
theorem b_X3_aDayFurther_35 : dkM m_X3_aDayFurther 35 [(.iload_n 2, 1, 2, 0, none, 0), (.ireturn, 1, 0, 0, none, 0)] 37 = true := by decide +kernel
theorem k_X3_aDayFurther_24 : cvB m_X3_aDayFurther m_X3_waysFrom 24 35 3 1 440 60 522 438 439 = true := by decide +kernel
theorem b_X4_countReadings_0 : dkM m_X4_countReadings 0 [(.iconst 1, 1, 0, 0, none, 1), (.istore_n 1, 1, 1, 0, none, 0), (.iconst 0, 1, 0, 0, none, 0), (.istore_n 2, 1, 2, 0, none, 0)] 4 = true := by decide +kernel
theorem b_X4_countReadings_4 : dkM m_X4_countReadings 4 [(.iload_n 2, 1, 2, 0, none, 0), (.aload_n 0, 1, 0, 0, none, 0), (.getfield 9, 3, 4, 3, some (some 6), 0), (.getfield 15, 3, 5, 0, none, 0), (.if_icmp .ge 17, 3, 29, 15, none, 0)] 15 = true := by decide +kernel
theorem b_X4_countReadings_15 : dkM m_X4_countReadings 15 [(.iload_n 1, 1, 1, 0, none, 0), (.aload_n 0, 1, 0, 0, none, 0), (.iload_n 2, 1, 2, 0, none, 0)] 18 = true := by decide +kernel
theorem b_X4_countReadings_21 : dkM m_X4_countReadings 21 [(.imul, 1, 0, 0, none, 0), (.istore_n 1, 1, 1, 0, none, 0), (.iinc 2 1, 3, 2, 0, none, 1), (.goto (-22), 3, 4, 0, none, 0)] 29 = true := by decide +kernel
theorem b_X4_countReadings_29 : dkM m_X4_countReadings 29 [(.iload_n 1, 1, 1, 0, none, 0), (.ireturn, 1, 0, 0, none, 0)] 31 = true := by decide +kernel
theorem k_X4_countReadings_18 : csB m_X4_countReadings m_X4_waysToRead 18 21 2 634 74 632 633 = true := by decide +kernel
theorem b_X4_waysToRead_0 : dkM m_X4_waysToRead 0 [(.iconst 0, 1, 0, 0, none, 0), (.istore_n 2, 1, 2, 0, none, 0), (.iconst 0, 1, 0, 0, none, 0), (.istore_n 3, 1, 3, 0, none, 0)] 4 = true := by decide +kernel
theorem b_X4_waysToRead_4 : dkM m_X4_waysToRead 4 [(.iload_n 3, 1, 3, 0, none, 0), (.iconst 2, 1, 0, 0, none, 2), (.if_icmp .ge 60, 3, 66, 9, none, 0)] 9 = true := by decide +kernel
theorem b_X4_waysToRead_9 : dkM m_X4_waysToRead 9 [(.aload_n 0, 1, 0, 0, none, 0), (.getfield 9, 3, 4, 3, some (some 6), 0), (.getfield 27, 3, 5, 2, some (some 2), 0), (.iload_n 1, 1, 1, 0, none, 0), (.iaload, 1, 0, 0, none, 0), (.iconst 2, 1, 0, 0, none, 2), (.if_icmp .eq 16, 3, 35, 22, none, 0)] 22 = true := by decide +kernel
theorem b_X4_waysToRead_22 : dkM m_X4_waysToRead 22 [(.aload_n 0, 1, 0, 0, none, 0), (.getfield 9, 3, 4, 3, some (some 6), 0), (.getfield 27, 3, 5, 2, some (some 2), 0), (.iload_n 1, 1, 1, 0, none, 0), (.iaload, 1, 0, 0, none, 0), (.iload_n 3, 1, 3, 0, none, 0), (.if_icmp .ne 7, 3, 39, 35, none, 0)] 35 = true := by decide +kernel
theorem b_X4_waysToRead_35 : dkM m_X4_waysToRead 35 [(.iconst 1, 1, 0, 0, none, 1), (.goto 4, 3, 40, 0, none, 0)] 39 = true := by decide +kernel
theorem b_X4_waysToRead_39 : dkM m_X4_waysToRead 39 [(.iconst 0, 1, 0, 0, none, 0)] 40 = true := by decide +kernel
theorem b_X4_waysToRead_40 : dkM m_X4_waysToRead 40 [(.istore 4, 2, 4, 0, none, 0), (.iload 4, 2, 4, 0, none, 0), (.ifCond .eq 16, 3, 60, 47, none, 0)] 47 = true := by decide +kernel
theorem b_X4_waysToRead_47 : dkM m_X4_waysToRead 47 [(.aload_n 0, 1, 0, 0, none, 0), (.iload_n 1, 1, 1, 0, none, 0), (.iload_n 3, 1, 3, 0, none, 0)] 50 = true := by decide +kernel
theorem b_X4_waysToRead_53 : dkM m_X4_waysToRead 53 [(.iconst 2, 1, 0, 0, none, 2), (.if_icmp .eq 6, 3, 60, 57, none, 0)] 57 = true := by decide +kernel
theorem b_X4_waysToRead_57 : dkM m_X4_waysToRead 57 [(.iinc 2 1, 3, 2, 0, none, 1)] 60 = true := by decide +kernel
theorem b_X4_waysToRead_60 : dkM m_X4_waysToRead 60 [(.iinc 3 1, 3, 3, 0, none, 1), (.goto (-59), 3, 4, 0, none, 0)] 66 = true := by decide +kernel
theorem b_X4_waysToRead_66 : dkM m_X4_waysToRead 66 [(.iload_n 2, 1, 2, 0, none, 0), (.ireturn, 1, 0, 0, none, 0)] 68 = true := by decide +kernel
theorem k_X4_waysToRead_50 : cvB m_X4_waysToRead m_X5_stateAsOf 50 31 4 2 464 61 635 462 463 = true := by decide +kernel
theorem b_X4_countSentences_0 : dkM m_X4_countSentences 0 [(.iconst 0, 1, 0, 0, none, 0), (.istore_n 3, 1, 3, 0, none, 0), (.iconst 0, 1, 0, 0, none, 0), (.istore 4, 2, 4, 0, none, 0)] 5 = true := by decide +kernel
theorem b_X4_countSentences_5 : dkM m_X4_countSentences 5 [(.iload 4, 2, 4, 0, none, 0), (.iconst 2, 1, 0, 0, none, 2), (.if_icmp .ge 86, 3, 94, 11, none, 0)] 11 = true := by decide +kernel
theorem b_X4_countSentences_11 : dkM m_X4_countSentences 11 [(.iconst 0, 1, 0, 0, none, 0), (.istore 5, 2, 5, 0, none, 0)] 14 = true := by decide +kernel
theorem b_X4_countSentences_14 : dkM m_X4_countSentences 14 [(.iload 5, 2, 5, 0, none, 0), (.iload_n 2, 1, 2, 0, none, 0), (.if_icmp .ge 51, 3, 68, 20, none, 0)] 20 = true := by decide +kernel
theorem b_X4_countSentences_20 : dkM m_X4_countSentences 20 [(.iload_n 3, 1, 3, 0, none, 0), (.aload_n 0, 1, 0, 0, none, 0), (.iload_n 1, 1, 1, 0, none, 0), (.iload 4, 2, 4, 0, none, 0), (.iconst 0, 1, 0, 0, none, 0), (.iload 5, 2, 5, 0, none, 0)] 28 = true := by decide +kernel
theorem b_X4_countSentences_31 : dkM m_X4_countSentences 31 [(.ifCond .eq 7, 3, 38, 34, none, 0)] 34 = true := by decide +kernel
theorem b_X4_countSentences_34 : dkM m_X4_countSentences 34 [(.iconst 1, 1, 0, 0, none, 1), (.goto 4, 3, 39, 0, none, 0)] 38 = true := by decide +kernel
theorem b_X4_countSentences_38 : dkM m_X4_countSentences 38 [(.iconst 0, 1, 0, 0, none, 0)] 39 = true := by decide +kernel
theorem b_X4_countSentences_39 : dkM m_X4_countSentences 39 [(.iadd, 1, 0, 0, none, 0), (.istore_n 3, 1, 3, 0, none, 0), (.iload_n 3, 1, 3, 0, none, 0), (.aload_n 0, 1, 0, 0, none, 0), (.iload_n 1, 1, 1, 0, none, 0), (.iload 4, 2, 4, 0, none, 0), (.iconst 1, 1, 0, 0, none, 1), (.iload 5, 2, 5, 0, none, 0)] 49 = true := by decide +kernel
theorem b_X4_countSentences_52 : dkM m_X4_countSentences 52 [(.ifCond .eq 7, 3, 59, 55, none, 0)] 55 = true := by decide +kernel
theorem b_X4_countSentences_55 : dkM m_X4_countSentences 55 [(.iconst 1, 1, 0, 0, none, 1), (.goto 4, 3, 60, 0, none, 0)] 59 = true := by decide +kernel
theorem b_X4_countSentences_59 : dkM m_X4_countSentences 59 [(.iconst 0, 1, 0, 0, none, 0)] 60 = true := by decide +kernel
theorem b_X4_countSentences_60 : dkM m_X4_countSentences 60 [(.iadd, 1, 0, 0, none, 0), (.istore_n 3, 1, 3, 0, none, 0), (.iinc 5 1, 3, 5, 0, none, 1), (.goto (-51), 3, 14, 0, none, 0)] 68 = true := by decide +kernel
theorem b_X4_countSentences_68 : dkM m_X4_countSentences 68 [(.iload_n 3, 1, 3, 0, none, 0), (.aload_n 0, 1, 0, 0, none, 0), (.iload_n 1, 1, 1, 0, none, 0), (.iload 4, 2, 4, 0, none, 0), (.iconst 2, 1, 0, 0, none, 2), (.iconst 0, 1, 0, 0, none, 0)] 75 = true := by decide +kernel
theorem b_X4_countSentences_78 : dkM m_X4_countSentences 78 [(.ifCond .eq 7, 3, 85, 81, none, 0)] 81 = true := by decide +kernel
theorem b_X4_countSentences_81 : dkM m_X4_countSentences 81 [(.iconst 1, 1, 0, 0, none, 1), (.goto 4, 3, 86, 0, none, 0)] 85 = true := by decide +kernel
theorem b_X4_countSentences_85 : dkM m_X4_countSentences 85 [(.iconst 0, 1, 0, 0, none, 0)] 86 = true := by decide +kernel
theorem b_X4_countSentences_86 : dkM m_X4_countSentences 86 [(.iadd, 1, 0, 0, none, 0), (.istore_n 3, 1, 3, 0, none, 0), (.iinc 4 1, 3, 4, 0, none, 1), (.goto (-86), 3, 5, 0, none, 0)] 94 = true := by decide +kernel
theorem b_X4_countSentences_94 : dkM m_X4_countSentences 94 [(.iload_n 3, 1, 3, 0, none, 0), (.ireturn, 1, 0, 0, none, 0)] 96 = true := by decide +kernel
theorem k_X4_countSentences_28 : cvB m_X4_countSentences m_X0_confirm 28 35 0 4 472 64 643 470 471 = true := by decide +kernel
theorem k_X4_countSentences_49 : cvB m_X4_countSentences m_X0_confirm 49 35 0 4 472 64 643 470 471 = true := by decide +kernel
theorem k_X4_countSentences_75 : cvB m_X4_countSentences m_X0_confirm 75 35 0 4 472 64 643 470 471 = true := by decide +kernel
theorem b_X4_firstClash_0 : dkM m_X4_firstClash 0 [(.iconst 0, 1, 0, 0, none, 0), (.istore_n 1, 1, 1, 0, none, 0)] 2 = true := by decide +kernel
theorem b_X4_firstClash_2 : dkM m_X4_firstClash 2 [(.iload_n 1, 1, 1, 0, none, 0), (.aload_n 0, 1, 0, 0, none, 0), (.getfield 15, 3, 5, 0, none, 0), (.if_icmp .ge 43, 3, 50, 10, none, 0)] 10 = true := by decide +kernel
theorem b_X4_firstClash_10 : dkM m_X4_firstClash 10 [(.iload_n 1, 1, 1, 0, none, 0), (.iconst 1, 1, 0, 0, none, 1), (.iadd, 1, 0, 0, none, 0), (.istore_n 2, 1, 2, 0, none, 0)] 14 = true := by decide +kernel
theorem b_X4_firstClash_14 : dkM m_X4_firstClash 14 [(.iload_n 2, 1, 2, 0, none, 0), (.aload_n 0, 1, 0, 0, none, 0), (.getfield 15, 3, 5, 0, none, 0), (.if_icmp .ge 25, 3, 44, 22, none, 0)] 22 = true := by decide +kernel
theorem b_X4_firstClash_22 : dkM m_X4_firstClash 22 [(.aload_n 0, 1, 0, 0, none, 0), (.iload_n 1, 1, 1, 0, none, 0), (.iload_n 2, 1, 2, 0, none, 0)] 25 = true := by decide +kernel
theorem b_X4_firstClash_28 : dkM m_X4_firstClash 28 [(.ifCond .eq 10, 3, 38, 31, none, 0)] 31 = true := by decide +kernel
theorem b_X4_firstClash_31 : dkM m_X4_firstClash 31 [(.bipush 10, 2, 0, 0, none, 10), (.iload_n 1, 1, 1, 0, none, 0), (.imul, 1, 0, 0, none, 0), (.iload_n 2, 1, 2, 0, none, 0), (.iadd, 1, 0, 0, none, 0), (.ireturn, 1, 0, 0, none, 0)] 38 = true := by decide +kernel
theorem b_X4_firstClash_38 : dkM m_X4_firstClash 38 [(.iinc 2 1, 3, 2, 0, none, 1), (.goto (-27), 3, 14, 0, none, 0)] 44 = true := by decide +kernel
theorem b_X4_firstClash_44 : dkM m_X4_firstClash 44 [(.iinc 1 1, 3, 1, 0, none, 1), (.goto (-45), 3, 2, 0, none, 0)] 50 = true := by decide +kernel
theorem b_X4_firstClash_50 : dkM m_X4_firstClash 50 [(.bipush (-9), 2, 0, 0, none, -9), (.ireturn, 1, 0, 0, none, 0)] 53 = true := by decide +kernel
theorem k_X4_firstClash_25 : cvB m_X4_firstClash m_X7_areClashing 25 41 5 2 654 63 651 652 653 = true := by decide +kernel
theorem b_X4_leastStruck_0 : dkM m_X4_leastStruck 0 [(.iconst 1, 1, 0, 0, none, 1), (.aload_n 0, 1, 0, 0, none, 0), (.getfield 9, 3, 4, 3, some (some 6), 0), (.getfield 15, 3, 5, 0, none, 0), (.ishl, 1, 0, 0, none, 0), (.iconst 1, 1, 0, 0, none, 1), (.isub, 1, 0, 0, none, 0), (.istore_n 1, 1, 1, 0, none, 0), (.aload_n 0, 1, 0, 0, none, 0)] 13 = true := by decide +kernel
theorem b_X4_leastStruck_16 : dkM m_X4_leastStruck 16 [(.istore_n 2, 1, 2, 0, none, 0), (.iload_n 1, 1, 1, 0, none, 0), (.istore_n 3, 1, 3, 0, none, 0), (.iconst 0, 1, 0, 0, none, 0), (.istore 4, 2, 4, 0, none, 0)] 22 = true := by decide +kernel
theorem b_X4_leastStruck_22 : dkM m_X4_leastStruck 22 [(.iload 4, 2, 4, 0, none, 0), (.iload_n 1, 1, 1, 0, none, 0), (.if_icmp .ge 61, 3, 86, 28, none, 0)] 28 = true := by decide +kernel
theorem b_X4_leastStruck_28 : dkM m_X4_leastStruck 28 [(.iload 4, 2, 4, 0, none, 0)] 30 = true := by decide +kernel
theorem b_X4_leastStruck_33 : dkM m_X4_leastStruck 33 [(.iload_n 3, 1, 3, 0, none, 0)] 34 = true := by decide +kernel
theorem b_X4_leastStruck_37 : dkM m_X4_leastStruck 37 [(.if_icmp .ge 7, 3, 44, 40, none, 0)] 40 = true := by decide +kernel
theorem b_X4_leastStruck_40 : dkM m_X4_leastStruck 40 [(.iconst 1, 1, 0, 0, none, 1), (.goto 4, 3, 45, 0, none, 0)] 44 = true := by decide +kernel
theorem b_X4_leastStruck_44 : dkM m_X4_leastStruck 44 [(.iconst 0, 1, 0, 0, none, 0)] 45 = true := by decide +kernel
theorem b_X4_leastStruck_45 : dkM m_X4_leastStruck 45 [(.istore 5, 2, 5, 0, none, 0), (.iload 5, 2, 5, 0, none, 0), (.ifCond .eq 31, 3, 80, 52, none, 0)] 52 = true := by decide +kernel
theorem b_X4_leastStruck_52 : dkM m_X4_leastStruck 52 [(.iload_n 2, 1, 2, 0, none, 0), (.iload 4, 2, 4, 0, none, 0), (.iconst (-1), 1, 0, 0, none, -1), (.ixor, 1, 0, 0, none, 0), (.iand, 1, 0, 0, none, 0), (.ifCond .ne 22, 3, 80, 61, none, 0)] 61 = true := by decide +kernel
theorem b_X4_leastStruck_61 : dkM m_X4_leastStruck 61 [(.aload_n 0, 1, 0, 0, none, 0), (.getfield 9, 3, 4, 3, some (some 6), 0), (.iload_n 1, 1, 1, 0, none, 0), (.iload 4, 2, 4, 0, none, 0), (.iconst (-1), 1, 0, 0, none, -1), (.ixor, 1, 0, 0, none, 0), (.iand, 1, 0, 0, none, 0)] 71 = true := by decide +kernel
theorem b_X4_leastStruck_74 : dkM m_X4_leastStruck 74 [(.ifCond .eq 6, 3, 80, 77, none, 0)] 77 = true := by decide +kernel
theorem b_X4_leastStruck_77 : dkM m_X4_leastStruck 77 [(.iload 4, 2, 4, 0, none, 0), (.istore_n 3, 1, 3, 0, none, 0)] 80 = true := by decide +kernel
theorem b_X4_leastStruck_80 : dkM m_X4_leastStruck 80 [(.iinc 4 1, 3, 4, 0, none, 1), (.goto (-61), 3, 22, 0, none, 0)] 86 = true := by decide +kernel
theorem b_X4_leastStruck_86 : dkM m_X4_leastStruck 86 [(.iload_n 3, 1, 3, 0, none, 0), (.ireturn, 1, 0, 0, none, 0)] 88 = true := by decide +kernel
theorem k_X4_leastStruck_13 : csB m_X4_leastStruck m_X4_brokenPages 13 45 1 664 74 662 663 = true := by decide +kernel
theorem k_X4_leastStruck_30 : csB m_X4_leastStruck m_J_bitCount 30 49 1 578 73 666 577 = true := by decide +kernel
theorem k_X4_leastStruck_34 : csB m_X4_leastStruck m_J_bitCount 34 49 1 578 73 666 577 = true := by decide +kernel
theorem k_X4_leastStruck_71 : csB m_X4_leastStruck m_X4_areAtPeace 71 55 2 669 74 667 668 = true := by decide +kernel
theorem b_X4_brokenPages_0 : dkM m_X4_brokenPages 0 [(.iconst 0, 1, 0, 0, none, 0), (.istore_n 1, 1, 1, 0, none, 0), (.iconst 0, 1, 0, 0, none, 0), (.istore_n 2, 1, 2, 0, none, 0)] 4 = true := by decide +kernel
theorem b_X4_brokenPages_4 : dkM m_X4_brokenPages 4 [(.iload_n 2, 1, 2, 0, none, 0), (.aload_n 0, 1, 0, 0, none, 0), (.getfield 9, 3, 4, 3, some (some 6), 0), (.getfield 15, 3, 5, 0, none, 0), (.if_icmp .ge 24, 3, 36, 15, none, 0)] 15 = true := by decide +kernel
theorem b_X4_brokenPages_15 : dkM m_X4_brokenPages 15 [(.aload_n 0, 1, 0, 0, none, 0), (.iload_n 2, 1, 2, 0, none, 0)] 17 = true := by decide +kernel
theorem b_X4_brokenPages_20 : dkM m_X4_brokenPages 20 [(.iconst 2, 1, 0, 0, none, 2), (.if_icmp .ne 9, 3, 30, 24, none, 0)] 24 = true := by decide +kernel
theorem b_X4_brokenPages_24 : dkM m_X4_brokenPages 24 [(.iload_n 1, 1, 1, 0, none, 0), (.iconst 1, 1, 0, 0, none, 1), (.iload_n 2, 1, 2, 0, none, 0), (.ishl, 1, 0, 0, none, 0), (.ior, 1, 0, 0, none, 0), (.istore_n 1, 1, 1, 0, none, 0)] 30 = true := by decide +kernel
theorem b_X4_brokenPages_30 : dkM m_X4_brokenPages 30 [(.iinc 2 1, 3, 2, 0, none, 1), (.goto (-29), 3, 4, 0, none, 0)] 36 = true := by decide +kernel
theorem b_X4_brokenPages_36 : dkM m_X4_brokenPages 36 [(.iload_n 1, 1, 1, 0, none, 0), (.ireturn, 1, 0, 0, none, 0)] 38 = true := by decide +kernel
theorem k_X4_brokenPages_17 : cvB m_X4_brokenPages m_X5_stateOf 17 59 4 1 460 61 665 458 459 = true := by decide +kernel
theorem b_X4_areAtPeace_0 : dkM m_X4_areAtPeace 0 [(.iconst 0, 1, 0, 0, none, 0), (.istore_n 2, 1, 2, 0, none, 0)] 2 = true := by decide +kernel
theorem b_X4_areAtPeace_2 : dkM m_X4_areAtPeace 2 [(.iload_n 2, 1, 2, 0, none, 0), (.aload_n 0, 1, 0, 0, none, 0), (.getfield 15, 3, 5, 0, none, 0), (.if_icmp .ge 51, 3, 58, 10, none, 0)] 10 = true := by decide +kernel
theorem b_X4_areAtPeace_10 : dkM m_X4_areAtPeace 10 [(.iload_n 2, 1, 2, 0, none, 0), (.iconst 1, 1, 0, 0, none, 1), (.iadd, 1, 0, 0, none, 0), (.istore_n 3, 1, 3, 0, none, 0)] 14 = true := by decide +kernel
theorem b_X4_areAtPeace_14 : dkM m_X4_areAtPeace 14 [(.iload_n 3, 1, 3, 0, none, 0), (.aload_n 0, 1, 0, 0, none, 0), (.getfield 15, 3, 5, 0, none, 0), (.if_icmp .ge 33, 3, 52, 22, none, 0)] 22 = true := by decide +kernel
theorem b_X4_areAtPeace_22 : dkM m_X4_areAtPeace 22 [(.iload_n 1, 1, 1, 0, none, 0), (.iload_n 2, 1, 2, 0, none, 0), (.ishr, 1, 0, 0, none, 0), (.iload_n 1, 1, 1, 0, none, 0), (.iload_n 3, 1, 3, 0, none, 0), (.ishr, 1, 0, 0, none, 0), (.iand, 1, 0, 0, none, 0), (.iconst 1, 1, 0, 0, none, 1), (.iand, 1, 0, 0, none, 0), (.iconst 1, 1, 0, 0, none, 1), (.if_icmp .ne 14, 3, 46, 35, none, 0)] 35 = true := by decide +kernel
theorem b_X4_areAtPeace_35 : dkM m_X4_areAtPeace 35 [(.aload_n 0, 1, 0, 0, none, 0), (.iload_n 2, 1, 2, 0, none, 0), (.iload_n 3, 1, 3, 0, none, 0)] 38 = true := by decide +kernel
theorem b_X4_areAtPeace_41 : dkM m_X4_areAtPeace 41 [(.ifCond .eq 5, 3, 46, 44, none, 0)] 44 = true := by decide +kernel
theorem b_X4_areAtPeace_44 : dkM m_X4_areAtPeace 44 [(.iconst 0, 1, 0, 0, none, 0), (.ireturn, 1, 1, 0, none, 0)] 46 = true := by decide +kernel
theorem b_X4_areAtPeace_46 : dkM m_X4_areAtPeace 46 [(.iinc 3 1, 3, 3, 0, none, 1), (.goto (-35), 3, 14, 0, none, 0)] 52 = true := by decide +kernel
theorem b_X4_areAtPeace_52 : dkM m_X4_areAtPeace 52 [(.iinc 2 1, 3, 2, 0, none, 1), (.goto (-53), 3, 2, 0, none, 0)] 58 = true := by decide +kernel
theorem b_X4_areAtPeace_58 : dkM m_X4_areAtPeace 58 [(.iconst 1, 1, 0, 0, none, 1), (.ireturn, 1, 1, 0, none, 0)] 60 = true := by decide +kernel
theorem k_X4_areAtPeace_38 : cvB m_X4_areAtPeace m_X7_areClashing 38 41 5 2 654 63 651 652 653 = true := by decide +kernel
theorem b_X5_copyFrom_0 : dkM m_X5_copyFrom 0 [(.aload_n 0, 1, 0, 0, none, 0), (.aload_n 1, 1, 1, 0, none, 0), (.getfield 9, 3, 4, 0, none, 0), (.putfield 9, 3, 4, 0, none, 0), (.aload_n 1, 1, 1, 0, none, 0), (.getfield 15, 3, 4, 1, some (some 1), 0), (.iconst 0, 1, 0, 0, none, 0), (.aload_n 0, 1, 0, 0, none, 0), (.getfield 15, 3, 4, 1, some (some 1), 0), (.iconst 0, 1, 0, 0, none, 0), (.iconst 2, 1, 0, 0, none, 2)] 19 = true := by decide +kernel
theorem b_X5_copyFrom_22 : dkM m_X5_copyFrom 22 [(.aload_n 0, 1, 0, 0, none, 0), (.getfield 22, 3, 4, 2, some (some 2), 0), (.aload_n 1, 1, 1, 0, none, 0), (.getfield 22, 3, 4, 2, some (some 2), 0)] 30 = true := by decide +kernel
theorem b_X5_copyFrom_33 : dkM m_X5_copyFrom 33 [(.aload_n 0, 1, 0, 0, none, 0), (.getfield 29, 3, 4, 3, some (some 6), 0), (.aload_n 1, 1, 1, 0, none, 0), (.getfield 29, 3, 4, 3, some (some 6), 0)] 41 = true := by decide +kernel
theorem b_X5_copyFrom_44 : dkM m_X5_copyFrom 44 [(.aload_n 0, 1, 0, 0, none, 0), (.getfield 36, 3, 4, 4, some (some 11), 0), (.aload_n 1, 1, 1, 0, none, 0), (.getfield 36, 3, 4, 4, some (some 11), 0)] 52 = true := by decide +kernel
theorem b_X5_copyFrom_55 : dkM m_X5_copyFrom 55 [(.return_, 1, 0, 0, none, 0)] 56 = true := by decide +kernel
theorem k_X5_copyFrom_19 : cpB m_X5_copyFrom 19 40 408 403 402 70 = true := by decide +kernel
theorem k_X5_copyFrom_30 : cvB m_X5_copyFrom m_X1_copyFrom 30 46 1 1 412 62 409 410 411 = true := by decide +kernel
theorem k_X5_copyFrom_41 : cvB m_X5_copyFrom m_X7_copyFrom 41 50 5 1 417 63 414 415 416 = true := by decide +kernel
theorem k_X5_copyFrom_52 : cvB m_X5_copyFrom m_X0_copyFrom 52 53 0 1 422 64 419 420 421 = true := by decide +kernel
theorem b_X5_isOver_0 : dkM m_X5_isOver 0 [(.aload_n 0, 1, 0, 0, none, 0), (.getfield 9, 3, 4, 0, none, 0), (.bipush 9, 2, 0, 0, none, 9), (.if_icmp .le 7, 3, 13, 9, none, 0)] 9 = true := by decide +kernel
theorem b_X5_isOver_9 : dkM m_X5_isOver 9 [(.iconst 1, 1, 0, 0, none, 1), (.goto 4, 3, 14, 0, none, 0)] 13 = true := by decide +kernel
theorem b_X5_isOver_13 : dkM m_X5_isOver 13 [(.iconst 0, 1, 0, 0, none, 0)] 14 = true := by decide +kernel
theorem b_X5_isOver_14 : dkM m_X5_isOver 14 [(.ireturn, 1, 1, 0, none, 0)] 15 = true := by decide +kernel
theorem b_X5_wentBy_0 : dkM m_X5_wentBy 0 [(.iload_n 1, 1, 1, 0, none, 0), (.iconst 1, 1, 0, 0, none, 1), (.if_icmp .lt 21, 3, 23, 5, none, 0)] 5 = true := by decide +kernel
theorem b_X5_wentBy_5 : dkM m_X5_wentBy 5 [(.iload_n 1, 1, 1, 0, none, 0), (.aload_n 0, 1, 0, 0, none, 0), (.getfield 9, 3, 4, 0, none, 0), (.if_icmp .ge 13, 3, 23, 13, none, 0)] 13 = true := by decide +kernel
theorem b_X5_wentBy_13 : dkM m_X5_wentBy 13 [(.iload_n 1, 1, 1, 0, none, 0), (.bipush 9, 2, 0, 0, none, 9), (.if_icmp .gt 7, 3, 23, 19, none, 0)] 19 = true := by decide +kernel
theorem b_X5_wentBy_19 : dkM m_X5_wentBy 19 [(.iconst 1, 1, 0, 0, none, 1), (.goto 4, 3, 24, 0, none, 0)] 23 = true := by decide +kernel
theorem b_X5_wentBy_23 : dkM m_X5_wentBy 23 [(.iconst 0, 1, 0, 0, none, 0)] 24 = true := by decide +kernel
theorem b_X5_wentBy_24 : dkM m_X5_wentBy 24 [(.ireturn, 1, 1, 0, none, 0)] 25 = true := by decide +kernel
theorem b_X5_stateOf_0 : dkM m_X5_stateOf 0 [(.aload_n 0, 1, 0, 0, none, 0), (.getfield 29, 3, 4, 3, some (some 6), 0), (.getfield 56, 3, 5, 2, some (some 2), 0), (.iload_n 1, 1, 1, 0, none, 0), (.iaload, 1, 0, 0, none, 0), (.iconst 2, 1, 0, 0, none, 2), (.if_icmp .eq 18, 3, 28, 13, none, 0)] 13 = true := by decide +kernel
theorem b_X5_stateOf_13 : dkM m_X5_stateOf 13 [(.aload_n 0, 1, 0, 0, none, 0), (.iload_n 1, 1, 1, 0, none, 0), (.aload_n 0, 1, 0, 0, none, 0), (.getfield 29, 3, 4, 3, some (some 6), 0), (.getfield 56, 3, 5, 2, some (some 2), 0), (.iload_n 1, 1, 1, 0, none, 0), (.iaload, 1, 0, 0, none, 0)] 24 = true := by decide +kernel
theorem b_X5_stateOf_27 : dkM m_X5_stateOf 27 [(.ireturn, 1, 0, 0, none, 0)] 28 = true := by decide +kernel
theorem b_X5_stateOf_28 : dkM m_X5_stateOf 28 [(.aload_n 0, 1, 0, 0, none, 0), (.iload_n 1, 1, 1, 0, none, 0), (.iconst 0, 1, 0, 0, none, 0)] 31 = true := by decide +kernel
theorem b_X5_stateOf_34 : dkM m_X5_stateOf 34 [(.iconst 2, 1, 0, 0, none, 2), (.if_icmp .ne 12, 3, 47, 38, none, 0)] 38 = true := by decide +kernel
theorem b_X5_stateOf_38 : dkM m_X5_stateOf 38 [(.aload_n 0, 1, 0, 0, none, 0), (.iload_n 1, 1, 1, 0, none, 0), (.iconst 1, 1, 0, 0, none, 1)] 41 = true := by decide +kernel
theorem b_X5_stateOf_44 : dkM m_X5_stateOf 44 [(.goto 9, 3, 53, 0, none, 0)] 47 = true := by decide +kernel
theorem b_X5_stateOf_47 : dkM m_X5_stateOf 47 [(.aload_n 0, 1, 0, 0, none, 0), (.iload_n 1, 1, 1, 0, none, 0), (.iconst 0, 1, 0, 0, none, 0)] 50 = true := by decide +kernel
theorem b_X5_stateOf_53 : dkM m_X5_stateOf 53 [(.ireturn, 1, 0, 0, none, 0)] 54 = true := by decide +kernel
theorem k_X5_stateOf_24 : cvB m_X5_stateOf m_X5_stateAsOf 24 59 4 2 464 61 461 462 463 = true := by decide +kernel
theorem k_X5_stateOf_31 : cvB m_X5_stateOf m_X5_stateAsOf 31 59 4 2 464 61 461 462 463 = true := by decide +kernel
theorem k_X5_stateOf_41 : cvB m_X5_stateOf m_X5_stateAsOf 41 59 4 2 464 61 461 462 463 = true := by decide +kernel
theorem k_X5_stateOf_50 : cvB m_X5_stateOf m_X5_stateAsOf 50 59 4 2 464 61 461 462 463 = true := by decide +kernel
theorem b_X5_stateAsOf_0 : dkM m_X5_stateAsOf 0 [(.aload_n 0, 1, 0, 0, none, 0), (.aload_n 0, 1, 0, 0, none, 0), (.getfield 29, 3, 4, 3, some (some 6), 0), (.getfield 63, 3, 5, 1, some (some 1), 0), (.iload_n 1, 1, 1, 0, none, 0), (.iaload, 1, 0, 0, none, 0)] 10 = true := by decide +kernel
theorem b_X5_stateAsOf_13 : dkM m_X5_stateAsOf 13 [(.ifCond .ne 5, 3, 18, 16, none, 0)] 16 = true := by decide +kernel
theorem b_X5_stateAsOf_16 : dkM m_X5_stateAsOf 16 [(.iconst 0, 1, 0, 0, none, 0), (.ireturn, 1, 0, 0, none, 0)] 18 = true := by decide +kernel
theorem b_X5_stateAsOf_18 : dkM m_X5_stateAsOf 18 [(.aload_n 0, 1, 0, 0, none, 0), (.getfield 36, 3, 4, 4, some (some 11), 0), (.aload_n 0, 1, 0, 0, none, 0), (.getfield 29, 3, 4, 3, some (some 6), 0), (.getfield 63, 3, 5, 1, some (some 1), 0), (.iload_n 1, 1, 1, 0, none, 0), (.iaload, 1, 0, 0, none, 0), (.iload_n 2, 1, 2, 0, none, 0), (.aload_n 0, 1, 0, 0, none, 0), (.getfield 29, 3, 4, 3, some (some 6), 0), (.getfield 69, 3, 5, 3, some (some 3), 0), (.iload_n 1, 1, 1, 0, none, 0), (.iaload, 1, 0, 0, none, 0), (.aload_n 0, 1, 0, 0, none, 0), (.getfield 29, 3, 4, 3, some (some 6), 0), (.getfield 72, 3, 5, 4, some (some 4), 0), (.iload_n 1, 1, 1, 0, none, 0), (.iaload, 1, 0, 0, none, 0)] 50 = true := by decide +kernel
theorem b_X5_stateAsOf_53 : dkM m_X5_stateAsOf 53 [(.ifCond .eq 7, 3, 60, 56, none, 0)] 56 = true := by decide +kernel
theorem b_X5_stateAsOf_56 : dkM m_X5_stateAsOf 56 [(.iconst 1, 1, 0, 0, none, 1), (.goto 4, 3, 61, 0, none, 0)] 60 = true := by decide +kernel
theorem b_X5_stateAsOf_60 : dkM m_X5_stateAsOf 60 [(.iconst 2, 1, 0, 0, none, 2)] 61 = true := by decide +kernel
theorem b_X5_stateAsOf_61 : dkM m_X5_stateAsOf 61 [(.ireturn, 1, 0, 0, none, 0)] 62 = true := by decide +kernel
theorem k_X5_stateAsOf_10 : cvB m_X5_stateAsOf m_X5_wentBy 10 65 4 1 468 61 465 466 467 = true := by decide +kernel
theorem k_X5_stateAsOf_50 : cvB m_X5_stateAsOf m_X0_confirm 50 75 0 4 472 64 469 470 471 = true := by decide +kernel
theorem b_X5_passDay_0 : dkM m_X5_passDay 0 [(.iconst 0, 1, 0, 0, none, 0), (.istore_n 1, 1, 1, 0, none, 0)] 2 = true := by decide +kernel
theorem b_X5_passDay_2 : dkM m_X5_passDay 2 [(.iload_n 1, 1, 1, 0, none, 0), (.iconst 2, 1, 0, 0, none, 2), (.if_icmp .ge 30, 3, 34, 7, none, 0)] 7 = true := by decide +kernel
theorem b_X5_passDay_7 : dkM m_X5_passDay 7 [(.aload_n 0, 1, 0, 0, none, 0), (.getfield 36, 3, 4, 4, some (some 11), 0), (.aload_n 0, 1, 0, 0, none, 0), (.getfield 9, 3, 4, 0, none, 0), (.iload_n 1, 1, 1, 0, none, 0), (.aload_n 0, 1, 0, 0, none, 0), (.getfield 15, 3, 4, 1, some (some 1), 0), (.iload_n 1, 1, 1, 0, none, 0), (.iaload, 1, 0, 0, none, 0)] 22 = true := by decide +kernel
theorem b_X5_passDay_28 : dkM m_X5_passDay 28 [(.iinc 1 1, 3, 1, 0, none, 1), (.goto (-29), 3, 2, 0, none, 0)] 34 = true := by decide +kernel
theorem b_X5_passDay_34 : dkM m_X5_passDay 34 [(.iconst 0, 1, 0, 0, none, 0), (.istore_n 1, 1, 1, 0, none, 0)] 36 = true := by decide +kernel
theorem b_X5_passDay_36 : dkM m_X5_passDay 36 [(.iload_n 1, 1, 1, 0, none, 0), (.iconst 2, 1, 0, 0, none, 2), (.if_icmp .ge 43, 3, 81, 41, none, 0)] 41 = true := by decide +kernel
theorem b_X5_passDay_41 : dkM m_X5_passDay 41 [(.aload_n 0, 1, 0, 0, none, 0), (.getfield 15, 3, 4, 1, some (some 1), 0), (.iload_n 1, 1, 1, 0, none, 0), (.iaload, 1, 0, 0, none, 0), (.ifCond .eq 28, 3, 75, 50, none, 0)] 50 = true := by decide +kernel
theorem b_X5_passDay_50 : dkM m_X5_passDay 50 [(.aload_n 0, 1, 0, 0, none, 0), (.getfield 22, 3, 4, 2, some (some 2), 0), (.aload_n 0, 1, 0, 0, none, 0), (.getfield 15, 3, 4, 1, some (some 1), 0), (.iload_n 1, 1, 1, 0, none, 0), (.iaload, 1, 0, 0, none, 0)] 60 = true := by decide +kernel
theorem b_X5_passDay_63 : dkM m_X5_passDay 63 [(.aload_n 0, 1, 0, 0, none, 0), (.getfield 15, 3, 4, 1, some (some 1), 0), (.iload_n 1, 1, 1, 0, none, 0), (.iaload, 1, 0, 0, none, 0)] 69 = true := by decide +kernel
theorem b_X5_passDay_75 : dkM m_X5_passDay 75 [(.iinc 1 1, 3, 1, 0, none, 1), (.goto (-42), 3, 36, 0, none, 0)] 81 = true := by decide +kernel
theorem b_X5_passDay_81 : dkM m_X5_passDay 81 [(.iconst 0, 1, 0, 0, none, 0), (.istore_n 1, 1, 1, 0, none, 0), (.iconst 0, 1, 0, 0, none, 0), (.istore_n 2, 1, 2, 0, none, 0)] 85 = true := by decide +kernel
theorem b_X5_passDay_85 : dkM m_X5_passDay 85 [(.iload_n 2, 1, 2, 0, none, 0), (.bipush 8, 2, 0, 0, none, 8), (.if_icmp .ge 26, 3, 114, 91, none, 0)] 91 = true := by decide +kernel
theorem b_X5_passDay_91 : dkM m_X5_passDay 91 [(.aload_n 0, 1, 0, 0, none, 0), (.getfield 22, 3, 4, 2, some (some 2), 0), (.iload_n 2, 1, 2, 0, none, 0)] 96 = true := by decide +kernel
theorem b_X5_passDay_99 : dkM m_X5_passDay 99 [(.ifCond .eq 9, 3, 108, 102, none, 0)] 102 = true := by decide +kernel
theorem b_X5_passDay_102 : dkM m_X5_passDay 102 [(.iload_n 1, 1, 1, 0, none, 0), (.iconst 1, 1, 0, 0, none, 1), (.iload_n 2, 1, 2, 0, none, 0), (.ishl, 1, 0, 0, none, 0), (.ior, 1, 0, 0, none, 0), (.istore_n 1, 1, 1, 0, none, 0)] 108 = true := by decide +kernel
theorem b_X5_passDay_108 : dkM m_X5_passDay 108 [(.iinc 2 1, 3, 2, 0, none, 1), (.goto (-26), 3, 85, 0, none, 0)] 114 = true := by decide +kernel
theorem b_X5_passDay_114 : dkM m_X5_passDay 114 [(.aload_n 0, 1, 0, 0, none, 0), (.getfield 36, 3, 4, 4, some (some 11), 0), (.aload_n 0, 1, 0, 0, none, 0), (.getfield 9, 3, 4, 0, none, 0), (.iload_n 1, 1, 1, 0, none, 0)] 123 = true := by decide +kernel
theorem b_X5_passDay_126 : dkM m_X5_passDay 126 [(.aload_n 0, 1, 0, 0, none, 0)] 127 = true := by decide +kernel
theorem b_X5_passDay_130 : dkM m_X5_passDay 130 [(.aload_n 0, 1, 0, 0, none, 0), (.dup, 1, 0, 0, none, 0), (.getfield 9, 3, 4, 0, none, 0), (.iconst 1, 1, 0, 0, none, 1), (.iadd, 1, 0, 0, none, 0), (.putfield 9, 3, 4, 0, none, 0), (.iload_n 1, 1, 1, 0, none, 0)] 141 = true := by decide +kernel
theorem b_X5_passDay_144 : dkM m_X5_passDay 144 [(.ireturn, 1, 0, 0, none, 0)] 145 = true := by decide +kernel
theorem k_X5_passDay_22 : csB m_X5_passDay m_X6_goalOf 22 79 1 517 71 543 516 = true := by decide +kernel
theorem k_X5_passDay_25 : cvB m_X5_passDay m_X0_putGoal 25 85 0 3 547 64 544 545 546 = true := by decide +kernel
theorem k_X5_passDay_60 : csB m_X5_passDay m_X6_armyOf 60 89 1 513 71 548 512 = true := by decide +kernel
theorem k_X5_passDay_69 : csB m_X5_passDay m_X6_goalOf 69 79 1 517 71 543 516 = true := by decide +kernel
theorem k_X5_passDay_72 : cvB m_X5_passDay m_X1_moveTo 72 92 1 2 552 62 549 550 551 = true := by decide +kernel
theorem k_X5_passDay_96 : cvB m_X5_passDay m_X1_fightAt 96 96 1 1 557 62 554 555 556 = true := by decide +kernel
theorem k_X5_passDay_123 : cvB m_X5_passDay m_X0_putBattles 123 99 0 2 570 64 567 568 569 = true := by decide +kernel
theorem k_X5_passDay_127 : cvB m_X5_passDay m_X5_forgetOrders 127 102 4 0 574 61 571 573 12 = true := by decide +kernel
theorem k_X5_passDay_141 : csB m_X5_passDay m_J_bitCount 141 105 1 578 73 576 577 = true := by decide +kernel
theorem b_X5_forgetOrders_0 : dkM m_X5_forgetOrders 0 [(.aload_n 0, 1, 0, 0, none, 0), (.getfield 15, 3, 4, 1, some (some 1), 0), (.iconst 0, 1, 0, 0, none, 0)] 5 = true := by decide +kernel
theorem b_X5_forgetOrders_8 : dkM m_X5_forgetOrders 8 [(.return_, 1, 0, 0, none, 0)] 9 = true := by decide +kernel
theorem k_X5_forgetOrders_5 : csB m_X5_forgetOrders m_J_fill 5 110 2 332 69 575 331 = true := by decide +kernel
theorem b_X6_armyOf_0 : dkM m_X6_armyOf 0 [(.iload_n 0, 1, 0, 0, none, 0), (.ifCond .ne 8, 3, 9, 4, none, 0)] 4 = true := by decide +kernel
theorem b_X6_armyOf_4 : dkM m_X6_armyOf 4 [(.bipush (-9), 2, 0, 0, none, -9), (.goto 9, 3, 15, 0, none, 0)] 9 = true := by decide +kernel
theorem b_X6_armyOf_9 : dkM m_X6_armyOf 9 [(.iload_n 0, 1, 0, 0, none, 0), (.iconst 1, 1, 0, 0, none, 1), (.isub, 1, 0, 0, none, 0), (.bipush 8, 2, 0, 0, none, 8), (.idiv, 1, 0, 0, none, 0)] 15 = true := by decide +kernel
theorem b_X6_armyOf_15 : dkM m_X6_armyOf 15 [(.ireturn, 1, 0, 0, none, 0)] 16 = true := by decide +kernel
theorem b_X6_goalOf_0 : dkM m_X6_goalOf 0 [(.iload_n 0, 1, 0, 0, none, 0), (.ifCond .ne 8, 3, 9, 4, none, 0)] 4 = true := by decide +kernel
theorem b_X6_goalOf_4 : dkM m_X6_goalOf 4 [(.bipush (-9), 2, 0, 0, none, -9), (.goto 9, 3, 15, 0, none, 0)] 9 = true := by decide +kernel
theorem b_X6_goalOf_9 : dkM m_X6_goalOf 9 [(.iload_n 0, 1, 0, 0, none, 0), (.iconst 1, 1, 0, 0, none, 1), (.isub, 1, 0, 0, none, 0), (.bipush 8, 2, 0, 0, none, 8), (.irem, 1, 0, 0, none, 0)] 15 = true := by decide +kernel
theorem b_X6_goalOf_15 : dkM m_X6_goalOf 15 [(.ireturn, 1, 0, 0, none, 0)] 16 = true := by decide +kernel
theorem b_X6_isOne_0 : dkM m_X6_isOne 0 [(.iload_n 3, 1, 3, 0, none, 0), (.ifCond .ne 5, 3, 6, 4, none, 0)] 4 = true := by decide +kernel
theorem b_X6_isOne_4 : dkM m_X6_isOne 4 [(.iconst 1, 1, 0, 0, none, 1), (.ireturn, 1, 1, 0, none, 0)] 6 = true := by decide +kernel
theorem b_X6_isOne_6 : dkM m_X6_isOne 6 [(.iload_n 3, 1, 3, 0, none, 0), (.ifCond .lt 9, 3, 16, 10, none, 0)] 10 = true := by decide +kernel
theorem b_X6_isOne_10 : dkM m_X6_isOne 10 [(.iload_n 3, 1, 3, 0, none, 0), (.bipush 48, 2, 0, 0, none, 48), (.if_icmp .le 5, 3, 18, 16, none, 0)] 16 = true := by decide +kernel
theorem b_X6_isOne_16 : dkM m_X6_isOne 16 [(.iconst 0, 1, 0, 0, none, 0), (.ireturn, 1, 1, 0, none, 0)] 18 = true := by decide +kernel
theorem b_X6_isOne_18 : dkM m_X6_isOne 18 [(.iload_n 3, 1, 3, 0, none, 0)] 19 = true := by decide +kernel
theorem b_X6_isOne_22 : dkM m_X6_isOne 22 [(.istore 4, 2, 4, 0, none, 0), (.aload_n 1, 1, 1, 0, none, 0), (.getfield 15, 3, 4, 2, some (some 2), 0), (.iload 4, 2, 4, 0, none, 0)] 30 = true := by decide +kernel
theorem b_X6_isOne_33 : dkM m_X6_isOne 33 [(.ifCond .eq 55, 3, 88, 36, none, 0)] 36 = true := by decide +kernel
theorem b_X6_isOne_36 : dkM m_X6_isOne 36 [(.aload_n 1, 1, 1, 0, none, 0), (.getfield 15, 3, 4, 2, some (some 2), 0), (.getfield 27, 3, 1, 1, some (some 1), 0), (.iload 4, 2, 4, 0, none, 0), (.iaload, 1, 0, 0, none, 0), (.iload_n 2, 1, 2, 0, none, 0), (.if_icmp .ne 41, 3, 88, 50, none, 0)] 50 = true := by decide +kernel
theorem b_X6_isOne_50 : dkM m_X6_isOne 50 [(.aload_n 1, 1, 1, 0, none, 0), (.getfield 15, 3, 4, 2, some (some 2), 0), (.getfield 31, 3, 1, 3, some (some 3), 0), (.iload 4, 2, 4, 0, none, 0), (.iaload, 1, 0, 0, none, 0), (.ifCond .le 28, 3, 88, 63, none, 0)] 63 = true := by decide +kernel
theorem b_X6_isOne_63 : dkM m_X6_isOne 63 [(.aload_n 0, 1, 0, 0, none, 0), (.aload_n 1, 1, 1, 0, none, 0), (.getfield 15, 3, 4, 2, some (some 2), 0), (.getfield 34, 3, 1, 2, some (some 2), 0), (.iload 4, 2, 4, 0, none, 0), (.iaload, 1, 0, 0, none, 0), (.iload_n 3, 1, 3, 0, none, 0)] 75 = true := by decide +kernel
theorem b_X6_isOne_81 : dkM m_X6_isOne 81 [(.ifCond .eq 7, 3, 88, 84, none, 0)] 84 = true := by decide +kernel
theorem b_X6_isOne_84 : dkM m_X6_isOne 84 [(.iconst 1, 1, 0, 0, none, 1), (.goto 4, 3, 89, 0, none, 0)] 88 = true := by decide +kernel
theorem b_X6_isOne_88 : dkM m_X6_isOne 88 [(.iconst 0, 1, 0, 0, none, 0)] 89 = true := by decide +kernel
theorem b_X6_isOne_89 : dkM m_X6_isOne 89 [(.ireturn, 1, 1, 0, none, 0)] 90 = true := by decide +kernel
theorem k_X6_isOne_19 : csB m_X6_isOne m_X6_armyOf 19 9 1 513 71 511 512 = true := by decide +kernel
theorem k_X6_isOne_30 : cvB m_X6_isOne m_X1_has 30 21 1 1 448 62 514 446 447 = true := by decide +kernel
theorem k_X6_isOne_75 : csB m_X6_isOne m_X6_goalOf 75 37 1 517 71 515 516 = true := by decide +kernel
theorem k_X6_isOne_78 : cvB m_X6_isOne m_X3_isRoad 78 40 3 2 521 60 518 519 520 = true := by decide +kernel
theorem b_X6_howManyDutiful_0 : dkM m_X6_howManyDutiful 0 [(.iconst 0, 1, 0, 0, none, 0), (.istore_n 3, 1, 3, 0, none, 0), (.iconst 0, 1, 0, 0, none, 0), (.istore 4, 2, 4, 0, none, 0)] 5 = true := by decide +kernel
theorem b_X6_howManyDutiful_5 : dkM m_X6_howManyDutiful 5 [(.iload 4, 2, 4, 0, none, 0), (.bipush 48, 2, 0, 0, none, 48), (.if_icmp .gt 23, 3, 32, 12, none, 0)] 12 = true := by decide +kernel
theorem b_X6_howManyDutiful_12 : dkM m_X6_howManyDutiful 12 [(.aload_n 0, 1, 0, 0, none, 0), (.aload_n 1, 1, 1, 0, none, 0), (.iload_n 2, 1, 2, 0, none, 0), (.iload 4, 2, 4, 0, none, 0)] 17 = true := by decide +kernel
theorem b_X6_howManyDutiful_20 : dkM m_X6_howManyDutiful 20 [(.ifCond .eq 6, 3, 26, 23, none, 0)] 23 = true := by decide +kernel
theorem b_X6_howManyDutiful_23 : dkM m_X6_howManyDutiful 23 [(.iinc 3 1, 3, 3, 0, none, 1)] 26 = true := by decide +kernel
theorem b_X6_howManyDutiful_26 : dkM m_X6_howManyDutiful 26 [(.iinc 4 1, 3, 4, 0, none, 1), (.goto (-24), 3, 5, 0, none, 0)] 32 = true := by decide +kernel
theorem b_X6_howManyDutiful_32 : dkM m_X6_howManyDutiful 32 [(.iload_n 3, 1, 3, 0, none, 0), (.ireturn, 1, 0, 0, none, 0)] 34 = true := by decide +kernel
theorem k_X6_howManyDutiful_17 : csB m_X6_howManyDutiful m_X6_isDutiful 17 46 4 613 71 611 612 = true := by decide +kernel
theorem b_X6_dutifulAt_0 : dkM m_X6_dutifulAt 0 [(.iconst 0, 1, 0, 0, none, 0), (.istore 4, 2, 4, 0, none, 0), (.iconst 0, 1, 0, 0, none, 0), (.istore 5, 2, 5, 0, none, 0)] 6 = true := by decide +kernel
theorem b_X6_dutifulAt_6 : dkM m_X6_dutifulAt 6 [(.iload 5, 2, 5, 0, none, 0), (.bipush 48, 2, 0, 0, none, 48), (.if_icmp .gt 32, 3, 42, 13, none, 0)] 13 = true := by decide +kernel
theorem b_X6_dutifulAt_13 : dkM m_X6_dutifulAt 13 [(.aload_n 0, 1, 0, 0, none, 0), (.aload_n 1, 1, 1, 0, none, 0), (.iload_n 2, 1, 2, 0, none, 0), (.iload 5, 2, 5, 0, none, 0)] 18 = true := by decide +kernel
theorem b_X6_dutifulAt_21 : dkM m_X6_dutifulAt 21 [(.ifCond .eq 15, 3, 36, 24, none, 0)] 24 = true := by decide +kernel
theorem b_X6_dutifulAt_24 : dkM m_X6_dutifulAt 24 [(.iload 4, 2, 4, 0, none, 0), (.iload_n 3, 1, 3, 0, none, 0), (.if_icmp .ne 6, 3, 33, 30, none, 0)] 30 = true := by decide +kernel
theorem b_X6_dutifulAt_30 : dkM m_X6_dutifulAt 30 [(.iload 5, 2, 5, 0, none, 0), (.ireturn, 1, 0, 0, none, 0)] 33 = true := by decide +kernel
theorem b_X6_dutifulAt_33 : dkM m_X6_dutifulAt 33 [(.iinc 4 1, 3, 4, 0, none, 1)] 36 = true := by decide +kernel
theorem b_X6_dutifulAt_36 : dkM m_X6_dutifulAt 36 [(.iinc 5 1, 3, 5, 0, none, 1), (.goto (-33), 3, 6, 0, none, 0)] 42 = true := by decide +kernel
theorem b_X6_dutifulAt_42 : dkM m_X6_dutifulAt 42 [(.bipush (-5), 2, 0, 0, none, -5), (.ireturn, 1, 0, 0, none, 0)] 45 = true := by decide +kernel
theorem k_X6_dutifulAt_18 : csB m_X6_dutifulAt m_X6_isDutiful 18 46 4 613 71 611 612 = true := by decide +kernel
theorem b_X6_isDutiful_0 : dkM m_X6_isDutiful 0 [(.aload_n 0, 1, 0, 0, none, 0), (.aload_n 1, 1, 1, 0, none, 0), (.iload_n 2, 1, 2, 0, none, 0), (.iload_n 3, 1, 3, 0, none, 0)] 4 = true := by decide +kernel
theorem b_X6_isDutiful_7 : dkM m_X6_isDutiful 7 [(.ifCond .ne 5, 3, 12, 10, none, 0)] 10 = true := by decide +kernel
theorem b_X6_isDutiful_10 : dkM m_X6_isDutiful 10 [(.iconst 0, 1, 0, 0, none, 0), (.ireturn, 1, 1, 0, none, 0)] 12 = true := by decide +kernel
theorem b_X6_isDutiful_12 : dkM m_X6_isDutiful 12 [(.iconst 0, 1, 0, 0, none, 0), (.istore 4, 2, 4, 0, none, 0)] 15 = true := by decide +kernel
theorem b_X6_isDutiful_15 : dkM m_X6_isDutiful 15 [(.iload 4, 2, 4, 0, none, 0), (.aload_n 1, 1, 1, 0, none, 0), (.getfield 53, 3, 4, 3, some (some 6), 0), (.getfield 57, 3, 5, 0, none, 0), (.if_icmp .ge 69, 3, 93, 27, none, 0)] 27 = true := by decide +kernel
theorem b_X6_isDutiful_27 : dkM m_X6_isDutiful 27 [(.aload_n 1, 1, 1, 0, none, 0), (.getfield 53, 3, 4, 3, some (some 6), 0), (.getfield 63, 3, 5, 1, some (some 1), 0), (.iload 4, 2, 4, 0, none, 0), (.iaload, 1, 0, 0, none, 0), (.aload_n 1, 1, 1, 0, none, 0), (.getfield 66, 3, 4, 0, none, 0), (.if_icmp .ne 46, 3, 87, 44, none, 0)] 44 = true := by decide +kernel
theorem b_X6_isDutiful_44 : dkM m_X6_isDutiful 44 [(.aload_n 1, 1, 1, 0, none, 0), (.getfield 53, 3, 4, 3, some (some 6), 0), (.getfield 68, 3, 5, 2, some (some 2), 0), (.iload 4, 2, 4, 0, none, 0), (.iaload, 1, 0, 0, none, 0), (.iload_n 2, 1, 2, 0, none, 0), (.if_icmp .ne 32, 3, 87, 58, none, 0)] 58 = true := by decide +kernel
theorem b_X6_isDutiful_58 : dkM m_X6_isDutiful 58 [(.iload_n 3, 1, 3, 0, none, 0), (.aload_n 1, 1, 1, 0, none, 0), (.getfield 53, 3, 4, 3, some (some 6), 0), (.getfield 71, 3, 5, 3, some (some 3), 0), (.iload 4, 2, 4, 0, none, 0), (.iaload, 1, 0, 0, none, 0), (.aload_n 1, 1, 1, 0, none, 0), (.getfield 53, 3, 4, 3, some (some 6), 0), (.getfield 74, 3, 5, 4, some (some 4), 0), (.iload 4, 2, 4, 0, none, 0), (.iaload, 1, 0, 0, none, 0)] 79 = true := by decide +kernel
theorem b_X6_isDutiful_82 : dkM m_X6_isDutiful 82 [(.ifCond .ne 5, 3, 87, 85, none, 0)] 85 = true := by decide +kernel
theorem b_X6_isDutiful_85 : dkM m_X6_isDutiful 85 [(.iconst 0, 1, 0, 0, none, 0), (.ireturn, 1, 1, 0, none, 0)] 87 = true := by decide +kernel
theorem b_X6_isDutiful_87 : dkM m_X6_isDutiful 87 [(.iinc 4 1, 3, 4, 0, none, 1), (.goto (-75), 3, 15, 0, none, 0)] 93 = true := by decide +kernel
theorem b_X6_isDutiful_93 : dkM m_X6_isDutiful 93 [(.iconst 1, 1, 0, 0, none, 1), (.ireturn, 1, 1, 0, none, 0)] 95 = true := by decide +kernel
theorem k_X6_isDutiful_4 : csB m_X6_isDutiful m_X6_isOne 4 50 4 510 71 614 509 = true := by decide +kernel
theorem k_X6_isDutiful_79 : csB m_X6_isDutiful m_X6_obeys 79 75 3 617 71 615 616 = true := by decide +kernel
theorem b_X6_obeys_0 : dkM m_X6_obeys 0 [(.iload_n 1, 1, 1, 0, none, 0)] 1 = true := by decide +kernel
theorem b_X6_obeys_28 : dkM m_X6_obeys 28 [(.iload_n 0, 1, 0, 0, none, 0)] 29 = true := by decide +kernel
theorem b_X6_obeys_32 : dkM m_X6_obeys 32 [(.iload_n 2, 1, 2, 0, none, 0), (.if_icmp .ne 7, 3, 40, 36, none, 0)] 36 = true := by decide +kernel
theorem b_X6_obeys_36 : dkM m_X6_obeys 36 [(.iconst 1, 1, 0, 0, none, 1), (.goto 4, 3, 41, 0, none, 0)] 40 = true := by decide +kernel
theorem b_X6_obeys_40 : dkM m_X6_obeys 40 [(.iconst 0, 1, 0, 0, none, 0)] 41 = true := by decide +kernel
theorem b_X6_obeys_41 : dkM m_X6_obeys 41 [(.ireturn, 1, 1, 0, none, 0)] 42 = true := by decide +kernel
theorem b_X6_obeys_42 : dkM m_X6_obeys 42 [(.iload_n 0, 1, 0, 0, none, 0), (.ifCond .ne 7, 3, 50, 46, none, 0)] 46 = true := by decide +kernel
theorem b_X6_obeys_46 : dkM m_X6_obeys 46 [(.iconst 1, 1, 0, 0, none, 1), (.goto 4, 3, 51, 0, none, 0)] 50 = true := by decide +kernel
theorem b_X6_obeys_50 : dkM m_X6_obeys 50 [(.iconst 0, 1, 0, 0, none, 0)] 51 = true := by decide +kernel
theorem b_X6_obeys_51 : dkM m_X6_obeys 51 [(.ireturn, 1, 1, 0, none, 0)] 52 = true := by decide +kernel
theorem b_X6_obeys_52 : dkM m_X6_obeys 52 [(.iconst 1, 1, 0, 0, none, 1), (.ireturn, 1, 1, 0, none, 0)] 54 = true := by decide +kernel
theorem k_X6_obeys_29 : csB m_X6_obeys m_X6_goalOf 29 37 1 517 71 515 516 = true := by decide +kernel
theorem s_X6_obeys_1 : lswB cX6_obeys 1 51 #[(0, 27), (2, 41)] 27 [(0, 28), (2, 42)] 52 = true := by decide +kernel
theorem b_X7_copyFrom_0 : dkM m_X7_copyFrom 0 [(.aload_n 0, 1, 0, 0, none, 0), (.aload_n 1, 1, 1, 0, none, 0), (.getfield 9, 3, 5, 0, none, 0), (.putfield 9, 3, 5, 0, none, 0), (.aload_n 1, 1, 1, 0, none, 0), (.getfield 15, 3, 5, 1, some (some 1), 0), (.iconst 0, 1, 0, 0, none, 0), (.aload_n 0, 1, 0, 0, none, 0), (.getfield 15, 3, 5, 1, some (some 1), 0), (.iconst 0, 1, 0, 0, none, 0), (.bipush 6, 2, 0, 0, none, 6)] 20 = true := by decide +kernel
theorem b_X7_copyFrom_23 : dkM m_X7_copyFrom 23 [(.aload_n 1, 1, 1, 0, none, 0), (.getfield 19, 3, 5, 2, some (some 2), 0), (.iconst 0, 1, 0, 0, none, 0), (.aload_n 0, 1, 0, 0, none, 0), (.getfield 19, 3, 5, 2, some (some 2), 0), (.iconst 0, 1, 0, 0, none, 0), (.bipush 6, 2, 0, 0, none, 6)] 35 = true := by decide +kernel
theorem b_X7_copyFrom_38 : dkM m_X7_copyFrom 38 [(.aload_n 1, 1, 1, 0, none, 0), (.getfield 22, 3, 5, 3, some (some 3), 0), (.iconst 0, 1, 0, 0, none, 0), (.aload_n 0, 1, 0, 0, none, 0), (.getfield 22, 3, 5, 3, some (some 3), 0), (.iconst 0, 1, 0, 0, none, 0), (.bipush 6, 2, 0, 0, none, 6)] 50 = true := by decide +kernel
theorem b_X7_copyFrom_53 : dkM m_X7_copyFrom 53 [(.aload_n 1, 1, 1, 0, none, 0), (.getfield 25, 3, 5, 4, some (some 4), 0), (.iconst 0, 1, 0, 0, none, 0), (.aload_n 0, 1, 0, 0, none, 0), (.getfield 25, 3, 5, 4, some (some 4), 0), (.iconst 0, 1, 0, 0, none, 0), (.bipush 6, 2, 0, 0, none, 6)] 65 = true := by decide +kernel
theorem b_X7_copyFrom_68 : dkM m_X7_copyFrom 68 [(.return_, 1, 0, 0, none, 0)] 69 = true := by decide +kernel
theorem k_X7_copyFrom_20 : cpB m_X7_copyFrom 20 28 418 403 402 70 = true := by decide +kernel
theorem k_X7_copyFrom_35 : cpB m_X7_copyFrom 35 28 418 403 402 70 = true := by decide +kernel
theorem k_X7_copyFrom_50 : cpB m_X7_copyFrom 50 28 418 403 402 70 = true := by decide +kernel
theorem k_X7_copyFrom_65 : cpB m_X7_copyFrom 65 28 418 403 402 70 = true := by decide +kernel
theorem b_X7_has_0 : dkM m_X7_has 0 [(.iload_n 1, 1, 1, 0, none, 0), (.ifCond .lt 21, 3, 22, 4, none, 0)] 4 = true := by decide +kernel
theorem b_X7_has_4 : dkM m_X7_has 4 [(.iload_n 1, 1, 1, 0, none, 0), (.aload_n 0, 1, 0, 0, none, 0), (.getfield 9, 3, 5, 0, none, 0), (.if_icmp .ge 13, 3, 22, 12, none, 0)] 12 = true := by decide +kernel
theorem b_X7_has_12 : dkM m_X7_has 12 [(.iload_n 1, 1, 1, 0, none, 0), (.bipush 6, 2, 0, 0, none, 6), (.if_icmp .ge 7, 3, 22, 18, none, 0)] 18 = true := by decide +kernel
theorem b_X7_has_18 : dkM m_X7_has 18 [(.iconst 1, 1, 0, 0, none, 1), (.goto 4, 3, 23, 0, none, 0)] 22 = true := by decide +kernel
theorem b_X7_has_22 : dkM m_X7_has 22 [(.iconst 0, 1, 0, 0, none, 0)] 23 = true := by decide +kernel
theorem b_X7_has_23 : dkM m_X7_has 23 [(.ireturn, 1, 1, 0, none, 0)] 24 = true := by decide +kernel
theorem b_X7_add_0 : dkM m_X7_add 0 [(.aload_n 0, 1, 0, 0, none, 0), (.getfield 9, 3, 5, 0, none, 0), (.bipush 6, 2, 0, 0, none, 6), (.if_icmp .ge 54, 3, 60, 9, none, 0)] 9 = true := by decide +kernel
theorem b_X7_add_9 : dkM m_X7_add 9 [(.aload_n 0, 1, 0, 0, none, 0), (.getfield 15, 3, 5, 1, some (some 1), 0), (.aload_n 0, 1, 0, 0, none, 0), (.getfield 9, 3, 5, 0, none, 0), (.iload_n 1, 1, 1, 0, none, 0), (.iastore, 1, 0, 0, none, 0), (.aload_n 0, 1, 0, 0, none, 0), (.getfield 19, 3, 5, 2, some (some 2), 0), (.aload_n 0, 1, 0, 0, none, 0), (.getfield 9, 3, 5, 0, none, 0), (.iload_n 2, 1, 2, 0, none, 0), (.iastore, 1, 0, 0, none, 0), (.aload_n 0, 1, 0, 0, none, 0), (.getfield 22, 3, 5, 3, some (some 3), 0), (.aload_n 0, 1, 0, 0, none, 0), (.getfield 9, 3, 5, 0, none, 0), (.iload_n 3, 1, 3, 0, none, 0), (.iastore, 1, 0, 0, none, 0), (.aload_n 0, 1, 0, 0, none, 0), (.getfield 25, 3, 5, 4, some (some 4), 0), (.aload_n 0, 1, 0, 0, none, 0), (.getfield 9, 3, 5, 0, none, 0), (.iload 4, 2, 4, 0, none, 0), (.iastore, 1, 0, 0, none, 0), (.aload_n 0, 1, 0, 0, none, 0), (.dup, 1, 0, 0, none, 0), (.getfield 9, 3, 5, 0, none, 0), (.iconst 1, 1, 0, 0, none, 1), (.iadd, 1, 0, 0, none, 0), (.putfield 9, 3, 5, 0, none, 0)] 60 = true := by decide +kernel
theorem b_X7_add_60 : dkM m_X7_add 60 [(.return_, 1, 0, 0, none, 0)] 61 = true := by decide +kernel
theorem b_X7_remove_0 : dkM m_X7_remove 0 [(.aload_n 0, 1, 0, 0, none, 0), (.iload_n 1, 1, 1, 0, none, 0)] 2 = true := by decide +kernel
theorem b_X7_remove_5 : dkM m_X7_remove 5 [(.ifCond .ne 4, 3, 9, 8, none, 0)] 8 = true := by decide +kernel
theorem b_X7_remove_8 : dkM m_X7_remove 8 [(.return_, 1, 0, 0, none, 0)] 9 = true := by decide +kernel
theorem b_X7_remove_9 : dkM m_X7_remove 9 [(.iload_n 1, 1, 1, 0, none, 0), (.istore_n 2, 1, 2, 0, none, 0)] 11 = true := by decide +kernel
theorem b_X7_remove_11 : dkM m_X7_remove 11 [(.iload_n 2, 1, 2, 0, none, 0), (.iconst 1, 1, 0, 0, none, 1), (.iadd, 1, 0, 0, none, 0), (.aload_n 0, 1, 0, 0, none, 0), (.getfield 9, 3, 5, 0, none, 0), (.if_icmp .ge 65, 3, 83, 21, none, 0)] 21 = true := by decide +kernel
theorem b_X7_remove_21 : dkM m_X7_remove 21 [(.aload_n 0, 1, 0, 0, none, 0), (.getfield 15, 3, 5, 1, some (some 1), 0), (.iload_n 2, 1, 2, 0, none, 0), (.aload_n 0, 1, 0, 0, none, 0), (.getfield 15, 3, 5, 1, some (some 1), 0), (.iload_n 2, 1, 2, 0, none, 0), (.iconst 1, 1, 0, 0, none, 1), (.iadd, 1, 0, 0, none, 0), (.iaload, 1, 0, 0, none, 0), (.iastore, 1, 0, 0, none, 0), (.aload_n 0, 1, 0, 0, none, 0), (.getfield 19, 3, 5, 2, some (some 2), 0), (.iload_n 2, 1, 2, 0, none, 0), (.aload_n 0, 1, 0, 0, none, 0), (.getfield 19, 3, 5, 2, some (some 2), 0), (.iload_n 2, 1, 2, 0, none, 0), (.iconst 1, 1, 0, 0, none, 1), (.iadd, 1, 0, 0, none, 0), (.iaload, 1, 0, 0, none, 0), (.iastore, 1, 0, 0, none, 0), (.aload_n 0, 1, 0, 0, none, 0), (.getfield 22, 3, 5, 3, some (some 3), 0), (.iload_n 2, 1, 2, 0, none, 0), (.aload_n 0, 1, 0, 0, none, 0), (.getfield 22, 3, 5, 3, some (some 3), 0), (.iload_n 2, 1, 2, 0, none, 0), (.iconst 1, 1, 0, 0, none, 1), (.iadd, 1, 0, 0, none, 0), (.iaload, 1, 0, 0, none, 0), (.iastore, 1, 0, 0, none, 0), (.aload_n 0, 1, 0, 0, none, 0), (.getfield 25, 3, 5, 4, some (some 4), 0), (.iload_n 2, 1, 2, 0, none, 0), (.aload_n 0, 1, 0, 0, none, 0), (.getfield 25, 3, 5, 4, some (some 4), 0), (.iload_n 2, 1, 2, 0, none, 0), (.iconst 1, 1, 0, 0, none, 1), (.iadd, 1, 0, 0, none, 0), (.iaload, 1, 0, 0, none, 0), (.iastore, 1, 0, 0, none, 0), (.iinc 2 1, 3, 2, 0, none, 1), (.goto (-69), 3, 11, 0, none, 0)] 83 = true := by decide +kernel
theorem b_X7_remove_83 : dkM m_X7_remove 83 [(.aload_n 0, 1, 0, 0, none, 0), (.dup, 1, 0, 0, none, 0), (.getfield 9, 3, 5, 0, none, 0), (.iconst 1, 1, 0, 0, none, 1), (.isub, 1, 0, 0, none, 0), (.putfield 9, 3, 5, 0, none, 0), (.return_, 1, 0, 0, none, 0)] 94 = true := by decide +kernel
theorem k_X7_remove_2 : cvB m_X7_remove m_X7_has 2 34 5 1 456 63 595 454 455 = true := by decide +kernel
theorem b_X7_areClashing_0 : dkM m_X7_areClashing 0 [(.aload_n 0, 1, 0, 0, none, 0), (.getfield 15, 3, 5, 1, some (some 1), 0), (.iload_n 1, 1, 1, 0, none, 0), (.iaload, 1, 0, 0, none, 0), (.aload_n 0, 1, 0, 0, none, 0), (.getfield 15, 3, 5, 1, some (some 1), 0), (.iload_n 2, 1, 2, 0, none, 0), (.iaload, 1, 0, 0, none, 0), (.if_icmp .ne 28, 3, 40, 15, none, 0)] 15 = true := by decide +kernel
theorem b_X7_areClashing_15 : dkM m_X7_areClashing 15 [(.aload_n 0, 1, 0, 0, none, 0), (.getfield 19, 3, 5, 2, some (some 2), 0), (.iload_n 1, 1, 1, 0, none, 0), (.iaload, 1, 0, 0, none, 0), (.aload_n 0, 1, 0, 0, none, 0), (.getfield 19, 3, 5, 2, some (some 2), 0), (.iload_n 2, 1, 2, 0, none, 0), (.iaload, 1, 0, 0, none, 0), (.if_icmp .ne 13, 3, 40, 30, none, 0)] 30 = true := by decide +kernel
theorem b_X7_areClashing_30 : dkM m_X7_areClashing 30 [(.aload_n 0, 1, 0, 0, none, 0), (.getfield 19, 3, 5, 2, some (some 2), 0), (.iload_n 1, 1, 1, 0, none, 0), (.iaload, 1, 0, 0, none, 0), (.iconst 2, 1, 0, 0, none, 2), (.if_icmp .ne 5, 3, 42, 40, none, 0)] 40 = true := by decide +kernel
theorem b_X7_areClashing_40 : dkM m_X7_areClashing 40 [(.iconst 0, 1, 0, 0, none, 0), (.ireturn, 1, 1, 0, none, 0)] 42 = true := by decide +kernel
theorem b_X7_areClashing_42 : dkM m_X7_areClashing 42 [(.aload_n 0, 1, 0, 0, none, 0), (.getfield 22, 3, 5, 3, some (some 3), 0), (.iload_n 1, 1, 1, 0, none, 0), (.iaload, 1, 0, 0, none, 0), (.ifCond .ne 33, 3, 81, 51, none, 0)] 51 = true := by decide +kernel
theorem b_X7_areClashing_51 : dkM m_X7_areClashing 51 [(.aload_n 0, 1, 0, 0, none, 0), (.getfield 22, 3, 5, 3, some (some 3), 0), (.iload_n 2, 1, 2, 0, none, 0), (.iaload, 1, 0, 0, none, 0), (.ifCond .ne 24, 3, 81, 60, none, 0)] 60 = true := by decide +kernel
theorem b_X7_areClashing_60 : dkM m_X7_areClashing 60 [(.aload_n 0, 1, 0, 0, none, 0), (.getfield 25, 3, 5, 4, some (some 4), 0), (.iload_n 1, 1, 1, 0, none, 0), (.iaload, 1, 0, 0, none, 0), (.aload_n 0, 1, 0, 0, none, 0), (.getfield 25, 3, 5, 4, some (some 4), 0), (.iload_n 2, 1, 2, 0, none, 0), (.iaload, 1, 0, 0, none, 0), (.if_icmp .eq 7, 3, 79, 75, none, 0)] 75 = true := by decide +kernel
theorem b_X7_areClashing_75 : dkM m_X7_areClashing 75 [(.iconst 1, 1, 0, 0, none, 1), (.goto 4, 3, 80, 0, none, 0)] 79 = true := by decide +kernel
theorem b_X7_areClashing_79 : dkM m_X7_areClashing 79 [(.iconst 0, 1, 0, 0, none, 0)] 80 = true := by decide +kernel
theorem b_X7_areClashing_80 : dkM m_X7_areClashing 80 [(.ireturn, 1, 1, 0, none, 0)] 81 = true := by decide +kernel
theorem b_X7_areClashing_81 : dkM m_X7_areClashing 81 [(.aload_n 0, 1, 0, 0, none, 0), (.getfield 22, 3, 5, 3, some (some 3), 0), (.iload_n 1, 1, 1, 0, none, 0), (.iaload, 1, 0, 0, none, 0), (.ifCond .ne 13, 3, 100, 90, none, 0)] 90 = true := by decide +kernel
theorem b_X7_areClashing_90 : dkM m_X7_areClashing 90 [(.aload_n 0, 1, 0, 0, none, 0), (.getfield 22, 3, 5, 3, some (some 3), 0), (.iload_n 2, 1, 2, 0, none, 0), (.iaload, 1, 0, 0, none, 0), (.iconst 2, 1, 0, 0, none, 2), (.if_icmp .eq 22, 3, 119, 100, none, 0)] 100 = true := by decide +kernel
theorem b_X7_areClashing_100 : dkM m_X7_areClashing 100 [(.aload_n 0, 1, 0, 0, none, 0), (.getfield 22, 3, 5, 3, some (some 3), 0), (.iload_n 1, 1, 1, 0, none, 0), (.iaload, 1, 0, 0, none, 0), (.iconst 2, 1, 0, 0, none, 2), (.if_icmp .ne 16, 3, 123, 110, none, 0)] 110 = true := by decide +kernel
theorem b_X7_areClashing_110 : dkM m_X7_areClashing 110 [(.aload_n 0, 1, 0, 0, none, 0), (.getfield 22, 3, 5, 3, some (some 3), 0), (.iload_n 2, 1, 2, 0, none, 0), (.iaload, 1, 0, 0, none, 0), (.ifCond .ne 7, 3, 123, 119, none, 0)] 119 = true := by decide +kernel
theorem b_X7_areClashing_119 : dkM m_X7_areClashing 119 [(.iconst 1, 1, 0, 0, none, 1), (.goto 4, 3, 124, 0, none, 0)] 123 = true := by decide +kernel
theorem b_X7_areClashing_123 : dkM m_X7_areClashing 123 [(.iconst 0, 1, 0, 0, none, 0)] 124 = true := by decide +kernel
theorem b_X7_areClashing_124 : dkM m_X7_areClashing 124 [(.ireturn, 1, 1, 0, none, 0)] 125 = true := by decide +kernel
theorem b_X8_remember_0 : dkM m_X8_remember 0 [(.aload_n 0, 1, 0, 0, none, 0), (.getfield 20, 3, 6, 2, some (some 1), 0), (.aload_n 0, 1, 0, 0, none, 0), (.getfield 15, 3, 6, 1, none, 0), (.aaload, 1, 0, 0, none, 0), (.aload_n 1, 1, 1, 0, none, 0)] 10 = true := by decide +kernel
theorem b_X8_remember_13 : dkM m_X8_remember 13 [(.aload_n 0, 1, 0, 0, none, 0), (.aload_n 0, 1, 0, 0, none, 0), (.getfield 15, 3, 6, 1, none, 0), (.iconst 1, 1, 0, 0, none, 1), (.iadd, 1, 0, 0, none, 0), (.bipush 10, 2, 0, 0, none, 10), (.if_icmp .ge 12, 3, 34, 25, none, 0)] 25 = true := by decide +kernel
theorem b_X8_remember_25 : dkM m_X8_remember 25 [(.aload_n 0, 1, 0, 0, none, 0), (.getfield 15, 3, 6, 1, none, 0), (.iconst 1, 1, 0, 0, none, 1), (.iadd, 1, 0, 0, none, 0), (.goto 4, 3, 35, 0, none, 0)] 34 = true := by decide +kernel
theorem b_X8_remember_34 : dkM m_X8_remember 34 [(.iconst 0, 1, 0, 0, none, 0)] 35 = true := by decide +kernel
theorem b_X8_remember_35 : dkM m_X8_remember 35 [(.putfield 15, 3, 6, 1, none, 0), (.aload_n 0, 1, 0, 0, none, 0), (.aload_n 0, 1, 0, 0, none, 0), (.getfield 9, 3, 6, 0, none, 0), (.iconst 1, 1, 0, 0, none, 1), (.iadd, 1, 0, 0, none, 0), (.bipush 10, 2, 0, 0, none, 10)] 47 = true := by decide +kernel
theorem b_X8_remember_50 : dkM m_X8_remember 50 [(.putfield 9, 3, 6, 0, none, 0), (.return_, 1, 0, 0, none, 0)] 54 = true := by decide +kernel
theorem k_X8_remember_10 : cvB m_X8_remember m_X5_copyFrom 10 25 4 1 407 61 531 405 406 = true := by decide +kernel
theorem k_X8_remember_47 : csB m_X8_remember m_J_min 47 29 2 534 72 532 533 = true := by decide +kernel
theorem b_X8_takeBack_0 : dkM m_X8_takeBack 0 [(.aload_n 0, 1, 0, 0, none, 0), (.getfield 9, 3, 6, 0, none, 0), (.ifCond .le 48, 3, 52, 7, none, 0)] 7 = true := by decide +kernel
theorem b_X8_takeBack_7 : dkM m_X8_takeBack 7 [(.aload_n 0, 1, 0, 0, none, 0), (.aload_n 0, 1, 0, 0, none, 0), (.getfield 15, 3, 6, 1, none, 0), (.ifCond .le 12, 3, 24, 15, none, 0)] 15 = true := by decide +kernel
theorem b_X8_takeBack_15 : dkM m_X8_takeBack 15 [(.aload_n 0, 1, 0, 0, none, 0), (.getfield 15, 3, 6, 1, none, 0), (.iconst 1, 1, 0, 0, none, 1), (.isub, 1, 0, 0, none, 0), (.goto 5, 3, 26, 0, none, 0)] 24 = true := by decide +kernel
theorem b_X8_takeBack_24 : dkM m_X8_takeBack 24 [(.bipush 9, 2, 0, 0, none, 9)] 26 = true := by decide +kernel
theorem b_X8_takeBack_26 : dkM m_X8_takeBack 26 [(.putfield 15, 3, 6, 1, none, 0), (.aload_n 1, 1, 1, 0, none, 0), (.aload_n 0, 1, 0, 0, none, 0), (.getfield 20, 3, 6, 2, some (some 1), 0), (.aload_n 0, 1, 0, 0, none, 0), (.getfield 15, 3, 6, 1, none, 0), (.aaload, 1, 0, 0, none, 0)] 39 = true := by decide +kernel
theorem b_X8_takeBack_42 : dkM m_X8_takeBack 42 [(.aload_n 0, 1, 0, 0, none, 0), (.dup, 1, 0, 0, none, 0), (.getfield 9, 3, 6, 0, none, 0), (.iconst 1, 1, 0, 0, none, 1), (.isub, 1, 0, 0, none, 0), (.putfield 9, 3, 6, 0, none, 0)] 52 = true := by decide +kernel
theorem b_X8_takeBack_52 : dkM m_X8_takeBack 52 [(.return_, 1, 0, 0, none, 0)] 53 = true := by decide +kernel
theorem k_X8_takeBack_39 : cvB m_X8_takeBack m_X5_copyFrom 39 25 4 1 407 61 531 405 406 = true := by decide +kernel
theorem b_X8_forgetAll_0 : dkM m_X8_forgetAll 0 [(.aload_n 0, 1, 0, 0, none, 0), (.iconst 0, 1, 0, 0, none, 0), (.putfield 9, 3, 6, 0, none, 0), (.return_, 1, 0, 0, none, 0)] 6 = true := by decide +kernel
theorem b_X9_add_0 : dkM m_X9_add 0 [(.aload_n 0, 1, 0, 0, none, 0), (.getfield 9, 3, 7, 0, none, 0), (.sipush 200, 3, 0, 0, none, 200), (.if_icmp .ge 23, 3, 30, 10, none, 0)] 10 = true := by decide +kernel
theorem b_X9_add_10 : dkM m_X9_add 10 [(.aload_n 0, 1, 0, 0, none, 0), (.getfield 29, 3, 7, 3, some (some 17), 0), (.aload_n 0, 1, 0, 0, none, 0), (.getfield 9, 3, 7, 0, none, 0), (.iload_n 1, 1, 1, 0, none, 0), (.iastore, 1, 0, 0, none, 0), (.aload_n 0, 1, 0, 0, none, 0), (.dup, 1, 0, 0, none, 0), (.getfield 9, 3, 7, 0, none, 0), (.iconst 1, 1, 0, 0, none, 1), (.iadd, 1, 0, 0, none, 0), (.putfield 9, 3, 7, 0, none, 0)] 30 = true := by decide +kernel
theorem b_X9_add_30 : dkM m_X9_add 30 [(.return_, 1, 0, 0, none, 0)] 31 = true := by decide +kernel
theorem b_X9_readAll_0 : dkM m_X9_readAll 0 [(.aload_n 0, 1, 0, 0, none, 0), (.getfield 18, 3, 7, 1, some (some 1), 0)] 4 = true := by decide +kernel
theorem b_X9_readAll_7 : dkM m_X9_readAll 7 [(.aload_n 0, 1, 0, 0, none, 0), (.getfield 25, 3, 7, 2, some (some 3), 0), (.getfield 48, 3, 4, 2, some (some 2), 0), (.iconst 0, 1, 0, 0, none, 0), (.putfield 52, 3, 1, 0, none, 0), (.aload_n 0, 1, 0, 0, none, 0), (.getfield 25, 3, 7, 2, some (some 3), 0), (.getfield 57, 3, 4, 3, some (some 6), 0), (.iconst 0, 1, 0, 0, none, 0), (.putfield 61, 3, 5, 0, none, 0), (.aload_n 0, 1, 0, 0, none, 0), (.iconst 0, 1, 0, 0, none, 0), (.putfield 33, 3, 7, 4, none, 0), (.iconst 0, 1, 0, 0, none, 0), (.istore_n 1, 1, 1, 0, none, 0)] 36 = true := by decide +kernel
theorem b_X9_readAll_36 : dkM m_X9_readAll 36 [(.iload_n 1, 1, 1, 0, none, 0), (.sipush 200, 3, 0, 0, none, 200), (.if_icmp .gt 39, 3, 79, 43, none, 0)] 43 = true := by decide +kernel
theorem b_X9_readAll_43 : dkM m_X9_readAll 43 [(.aload_n 0, 1, 0, 0, none, 0)] 44 = true := by decide +kernel
theorem b_X9_readAll_47 : dkM m_X9_readAll 47 [(.aload_n 0, 1, 0, 0, none, 0), (.getfield 36, 3, 7, 5, none, 0), (.iconst (-1), 1, 0, 0, none, -1), (.if_icmp .ne 5, 3, 57, 55, none, 0)] 55 = true := by decide +kernel
theorem b_X9_readAll_55 : dkM m_X9_readAll 55 [(.iload_n 1, 1, 1, 0, none, 0), (.ireturn, 1, 0, 0, none, 0)] 57 = true := by decide +kernel
theorem b_X9_readAll_57 : dkM m_X9_readAll 57 [(.aload_n 0, 1, 0, 0, none, 0), (.iload_n 1, 1, 1, 0, none, 0)] 59 = true := by decide +kernel
theorem b_X9_readAll_62 : dkM m_X9_readAll 62 [(.ifCond .ne 11, 3, 73, 65, none, 0)] 65 = true := by decide +kernel
theorem b_X9_readAll_65 : dkM m_X9_readAll 65 [(.bipush (-10), 2, 0, 0, none, -10), (.aload_n 0, 1, 0, 0, none, 0), (.getfield 39, 3, 7, 6, none, 0), (.isub, 1, 0, 0, none, 0), (.ireturn, 1, 0, 0, none, 0)] 73 = true := by decide +kernel
theorem b_X9_readAll_73 : dkM m_X9_readAll 73 [(.iinc 1 1, 3, 1, 0, none, 1), (.goto (-40), 3, 36, 0, none, 0)] 79 = true := by decide +kernel
theorem b_X9_readAll_79 : dkM m_X9_readAll 79 [(.bipush (-10), 2, 0, 0, none, -10), (.aload_n 0, 1, 0, 0, none, 0), (.getfield 9, 3, 7, 0, none, 0), (.isub, 1, 0, 0, none, 0), (.ireturn, 1, 0, 0, none, 0)] 87 = true := by decide +kernel
theorem k_X9_readAll_4 : cvB m_X9_readAll m_X3_reset 4 45 3 0 329 60 326 327 328 = true := by decide +kernel
theorem k_X9_readAll_44 : cvB m_X9_readAll m_X9_readToken 44 64 7 0 336 65 333 335 0 = true := by decide +kernel
theorem k_X9_readAll_59 : cvB m_X9_readAll m_X9_readItem 59 67 7 1 351 65 348 350 3 = true := by decide +kernel
theorem b_X9_readItem_0 : dkM m_X9_readItem 0 [(.aload_n 0, 1, 0, 0, none, 0), (.getfield 36, 3, 7, 5, none, 0)] 4 = true := by decide +kernel
theorem b_X9_readItem_48 : dkM m_X9_readItem 48 [(.iload_n 1, 1, 1, 0, none, 0), (.ifCond .ne 14, 3, 63, 52, none, 0)] 52 = true := by decide +kernel
theorem b_X9_readItem_52 : dkM m_X9_readItem 52 [(.aload_n 0, 1, 0, 0, none, 0)] 53 = true := by decide +kernel
theorem b_X9_readItem_56 : dkM m_X9_readItem 56 [(.ifCond .eq 7, 3, 63, 59, none, 0)] 59 = true := by decide +kernel
theorem b_X9_readItem_59 : dkM m_X9_readItem 59 [(.iconst 1, 1, 0, 0, none, 1), (.goto 4, 3, 64, 0, none, 0)] 63 = true := by decide +kernel
theorem b_X9_readItem_63 : dkM m_X9_readItem 63 [(.iconst 0, 1, 0, 0, none, 0)] 64 = true := by decide +kernel
theorem b_X9_readItem_64 : dkM m_X9_readItem 64 [(.ireturn, 1, 1, 0, none, 0)] 65 = true := by decide +kernel
theorem b_X9_readItem_65 : dkM m_X9_readItem 65 [(.aload_n 0, 1, 0, 0, none, 0)] 66 = true := by decide +kernel
theorem b_X9_readItem_69 : dkM m_X9_readItem 69 [(.ireturn, 1, 1, 0, none, 0)] 70 = true := by decide +kernel
theorem b_X9_readItem_70 : dkM m_X9_readItem 70 [(.aload_n 0, 1, 0, 0, none, 0), (.getfield 25, 3, 7, 2, some (some 3), 0), (.getfield 48, 3, 4, 2, some (some 2), 0), (.getfield 52, 3, 1, 0, none, 0), (.bipush 6, 2, 0, 0, none, 6), (.if_icmp .ge 14, 3, 96, 85, none, 0)] 85 = true := by decide +kernel
theorem b_X9_readItem_85 : dkM m_X9_readItem 85 [(.aload_n 0, 1, 0, 0, none, 0)] 86 = true := by decide +kernel
theorem b_X9_readItem_89 : dkM m_X9_readItem 89 [(.ifCond .eq 7, 3, 96, 92, none, 0)] 92 = true := by decide +kernel
theorem b_X9_readItem_92 : dkM m_X9_readItem 92 [(.iconst 1, 1, 0, 0, none, 1), (.goto 4, 3, 97, 0, none, 0)] 96 = true := by decide +kernel
theorem b_X9_readItem_96 : dkM m_X9_readItem 96 [(.iconst 0, 1, 0, 0, none, 0)] 97 = true := by decide +kernel
theorem b_X9_readItem_97 : dkM m_X9_readItem 97 [(.ireturn, 1, 1, 0, none, 0)] 98 = true := by decide +kernel
theorem b_X9_readItem_98 : dkM m_X9_readItem 98 [(.aload_n 0, 1, 0, 0, none, 0), (.getfield 25, 3, 7, 2, some (some 3), 0), (.getfield 57, 3, 4, 3, some (some 6), 0), (.getfield 61, 3, 5, 0, none, 0), (.bipush 6, 2, 0, 0, none, 6), (.if_icmp .ge 14, 3, 124, 113, none, 0)] 113 = true := by decide +kernel
theorem b_X9_readItem_113 : dkM m_X9_readItem 113 [(.aload_n 0, 1, 0, 0, none, 0)] 114 = true := by decide +kernel
theorem b_X9_readItem_117 : dkM m_X9_readItem 117 [(.ifCond .eq 7, 3, 124, 120, none, 0)] 120 = true := by decide +kernel
theorem b_X9_readItem_120 : dkM m_X9_readItem 120 [(.iconst 1, 1, 0, 0, none, 1), (.goto 4, 3, 125, 0, none, 0)] 124 = true := by decide +kernel
theorem b_X9_readItem_124 : dkM m_X9_readItem 124 [(.iconst 0, 1, 0, 0, none, 0)] 125 = true := by decide +kernel
theorem b_X9_readItem_125 : dkM m_X9_readItem 125 [(.ireturn, 1, 1, 0, none, 0)] 126 = true := by decide +kernel
theorem b_X9_readItem_126 : dkM m_X9_readItem 126 [(.iconst 0, 1, 0, 0, none, 0), (.ireturn, 1, 1, 0, none, 0)] 128 = true := by decide +kernel
theorem k_X9_readItem_53 : cvB m_X9_readItem m_X9_readFields 53 71 7 0 355 65 352 354 4 = true := by decide +kernel
theorem k_X9_readItem_66 : cvB m_X9_readItem m_X9_readRoad 66 75 7 0 367 65 364 366 7 = true := by decide +kernel
theorem k_X9_readItem_86 : cvB m_X9_readItem m_X9_readArmy 86 78 7 0 384 65 381 383 9 = true := by decide +kernel
theorem k_X9_readItem_114 : cvB m_X9_readItem m_X9_readPage 114 81 7 0 392 65 389 391 10 = true := by decide +kernel
theorem s_X9_readItem_4 : lswB cX9_readItem 4 122 #[(97, 66), (102, 44), (112, 94), (114, 61)] 44 [(97, 70), (102, 48), (112, 98), (114, 65)] 126 = true := by decide +kernel
theorem b_X9_readFields_0 : dkM m_X9_readFields 0 [(.aload_n 0, 1, 0, 0, none, 0), (.iconst 2, 1, 0, 0, none, 2), (.bipush 8, 2, 0, 0, none, 8)] 4 = true := by decide +kernel
theorem b_X9_readFields_7 : dkM m_X9_readFields 7 [(.ifCond .ne 5, 3, 12, 10, none, 0)] 10 = true := by decide +kernel
theorem b_X9_readFields_10 : dkM m_X9_readFields 10 [(.iconst 0, 1, 0, 0, none, 0), (.ireturn, 1, 1, 0, none, 0)] 12 = true := by decide +kernel
theorem b_X9_readFields_12 : dkM m_X9_readFields 12 [(.aload_n 0, 1, 0, 0, none, 0), (.getfield 18, 3, 7, 1, some (some 1), 0), (.aload_n 0, 1, 0, 0, none, 0), (.getfield 42, 3, 7, 7, none, 0), (.putfield 88, 3, 3, 0, none, 0), (.aload_n 0, 1, 0, 0, none, 0)] 24 = true := by decide +kernel
theorem b_X9_readFields_27 : dkM m_X9_readFields 27 [(.ireturn, 1, 1, 0, none, 0)] 28 = true := by decide +kernel
theorem k_X9_readFields_4 : cvB m_X9_readFields m_X9_readNumber 4 84 7 2 359 65 356 358 5 = true := by decide +kernel
theorem k_X9_readFields_24 : cvB m_X9_readFields m_X9_readItemEnd 24 91 7 0 363 65 360 362 6 = true := by decide +kernel
theorem b_X9_readRoad_0 : dkM m_X9_readRoad 0 [(.aload_n 0, 1, 0, 0, none, 0)] 1 = true := by decide +kernel
theorem b_X9_readRoad_4 : dkM m_X9_readRoad 4 [(.ifCond .ne 5, 3, 9, 7, none, 0)] 7 = true := by decide +kernel
theorem b_X9_readRoad_7 : dkM m_X9_readRoad 7 [(.iconst 0, 1, 0, 0, none, 0), (.ireturn, 1, 1, 0, none, 0)] 9 = true := by decide +kernel
theorem b_X9_readRoad_9 : dkM m_X9_readRoad 9 [(.aload_n 0, 1, 0, 0, none, 0), (.getfield 42, 3, 7, 7, none, 0), (.istore_n 1, 1, 1, 0, none, 0), (.aload_n 0, 1, 0, 0, none, 0)] 15 = true := by decide +kernel
theorem b_X9_readRoad_18 : dkM m_X9_readRoad 18 [(.ifCond .eq 11, 3, 29, 21, none, 0)] 21 = true := by decide +kernel
theorem b_X9_readRoad_21 : dkM m_X9_readRoad 21 [(.aload_n 0, 1, 0, 0, none, 0), (.getfield 42, 3, 7, 7, none, 0), (.iload_n 1, 1, 1, 0, none, 0), (.if_icmp .ne 5, 3, 31, 29, none, 0)] 29 = true := by decide +kernel
theorem b_X9_readRoad_29 : dkM m_X9_readRoad 29 [(.iconst 0, 1, 0, 0, none, 0), (.ireturn, 1, 1, 0, none, 0)] 31 = true := by decide +kernel
theorem b_X9_readRoad_31 : dkM m_X9_readRoad 31 [(.aload_n 0, 1, 0, 0, none, 0), (.getfield 18, 3, 7, 1, some (some 1), 0), (.iload_n 1, 1, 1, 0, none, 0), (.aload_n 0, 1, 0, 0, none, 0), (.getfield 42, 3, 7, 7, none, 0)] 40 = true := by decide +kernel
theorem b_X9_readRoad_43 : dkM m_X9_readRoad 43 [(.aload_n 0, 1, 0, 0, none, 0)] 44 = true := by decide +kernel
theorem b_X9_readRoad_47 : dkM m_X9_readRoad 47 [(.ireturn, 1, 1, 0, none, 0)] 48 = true := by decide +kernel
theorem k_X9_readRoad_1 : cvB m_X9_readRoad m_X9_readField 1 94 7 0 371 65 368 370 8 = true := by decide +kernel
theorem k_X9_readRoad_15 : cvB m_X9_readRoad m_X9_readField 15 94 7 0 371 65 368 370 8 = true := by decide +kernel
theorem k_X9_readRoad_40 : cvB m_X9_readRoad m_X3_join 40 97 3 2 379 60 376 377 378 = true := by decide +kernel
theorem k_X9_readRoad_44 : cvB m_X9_readRoad m_X9_readItemEnd 44 91 7 0 363 65 360 362 6 = true := by decide +kernel
theorem b_X9_readArmy_0 : dkM m_X9_readArmy 0 [(.aload_n 0, 1, 0, 0, none, 0), (.iconst 0, 1, 0, 0, none, 0), (.iconst 1, 1, 0, 0, none, 1)] 3 = true := by decide +kernel
theorem b_X9_readArmy_6 : dkM m_X9_readArmy 6 [(.ifCond .ne 5, 3, 11, 9, none, 0)] 9 = true := by decide +kernel
theorem b_X9_readArmy_9 : dkM m_X9_readArmy 9 [(.iconst 0, 1, 0, 0, none, 0), (.ireturn, 1, 1, 0, none, 0)] 11 = true := by decide +kernel
theorem b_X9_readArmy_11 : dkM m_X9_readArmy 11 [(.aload_n 0, 1, 0, 0, none, 0), (.getfield 42, 3, 7, 7, none, 0), (.istore_n 1, 1, 1, 0, none, 0), (.aload_n 0, 1, 0, 0, none, 0)] 17 = true := by decide +kernel
theorem b_X9_readArmy_20 : dkM m_X9_readArmy 20 [(.ifCond .ne 5, 3, 25, 23, none, 0)] 23 = true := by decide +kernel
theorem b_X9_readArmy_23 : dkM m_X9_readArmy 23 [(.iconst 0, 1, 0, 0, none, 0), (.ireturn, 1, 1, 0, none, 0)] 25 = true := by decide +kernel
theorem b_X9_readArmy_25 : dkM m_X9_readArmy 25 [(.aload_n 0, 1, 0, 0, none, 0), (.getfield 42, 3, 7, 7, none, 0), (.istore_n 2, 1, 2, 0, none, 0), (.aload_n 0, 1, 0, 0, none, 0), (.iconst 1, 1, 0, 0, none, 1), (.bipush 9, 2, 0, 0, none, 9)] 34 = true := by decide +kernel
theorem b_X9_readArmy_37 : dkM m_X9_readArmy 37 [(.ifCond .ne 5, 3, 42, 40, none, 0)] 40 = true := by decide +kernel
theorem b_X9_readArmy_40 : dkM m_X9_readArmy 40 [(.iconst 0, 1, 0, 0, none, 0), (.ireturn, 1, 1, 0, none, 0)] 42 = true := by decide +kernel
theorem b_X9_readArmy_42 : dkM m_X9_readArmy 42 [(.aload_n 0, 1, 0, 0, none, 0), (.getfield 25, 3, 7, 2, some (some 3), 0), (.getfield 48, 3, 4, 2, some (some 2), 0), (.iload_n 1, 1, 1, 0, none, 0), (.iload_n 2, 1, 2, 0, none, 0), (.aload_n 0, 1, 0, 0, none, 0), (.getfield 42, 3, 7, 7, none, 0)] 55 = true := by decide +kernel
theorem b_X9_readArmy_58 : dkM m_X9_readArmy 58 [(.aload_n 0, 1, 0, 0, none, 0)] 59 = true := by decide +kernel
theorem b_X9_readArmy_62 : dkM m_X9_readArmy 62 [(.ireturn, 1, 1, 0, none, 0)] 63 = true := by decide +kernel
theorem k_X9_readArmy_3 : cvB m_X9_readArmy m_X9_readNumber 3 84 7 2 359 65 356 358 5 = true := by decide +kernel
theorem k_X9_readArmy_17 : cvB m_X9_readArmy m_X9_readField 17 94 7 0 371 65 368 370 8 = true := by decide +kernel
theorem k_X9_readArmy_34 : cvB m_X9_readArmy m_X9_readNumber 34 84 7 2 359 65 356 358 5 = true := by decide +kernel
theorem k_X9_readArmy_55 : cvB m_X9_readArmy m_X1_add 55 101 1 3 388 62 385 386 387 = true := by decide +kernel
theorem k_X9_readArmy_59 : cvB m_X9_readArmy m_X9_readItemEnd 59 91 7 0 363 65 360 362 6 = true := by decide +kernel
theorem b_X9_readPage_0 : dkM m_X9_readPage 0 [(.aload_n 0, 1, 0, 0, none, 0), (.iconst 1, 1, 0, 0, none, 1), (.bipush 9, 2, 0, 0, none, 9)] 4 = true := by decide +kernel
theorem b_X9_readPage_7 : dkM m_X9_readPage 7 [(.ifCond .ne 5, 3, 12, 10, none, 0)] 10 = true := by decide +kernel
theorem b_X9_readPage_10 : dkM m_X9_readPage 10 [(.iconst 0, 1, 0, 0, none, 0), (.ireturn, 1, 1, 0, none, 0)] 12 = true := by decide +kernel
theorem b_X9_readPage_12 : dkM m_X9_readPage 12 [(.aload_n 0, 1, 0, 0, none, 0), (.getfield 42, 3, 7, 7, none, 0), (.istore_n 1, 1, 1, 0, none, 0), (.aload_n 0, 1, 0, 0, none, 0), (.iconst 0, 1, 0, 0, none, 0), (.iconst 2, 1, 0, 0, none, 2)] 20 = true := by decide +kernel
theorem b_X9_readPage_23 : dkM m_X9_readPage 23 [(.ifCond .ne 5, 3, 28, 26, none, 0)] 26 = true := by decide +kernel
theorem b_X9_readPage_26 : dkM m_X9_readPage 26 [(.iconst 0, 1, 0, 0, none, 0), (.ireturn, 1, 1, 0, none, 0)] 28 = true := by decide +kernel
theorem b_X9_readPage_28 : dkM m_X9_readPage 28 [(.aload_n 0, 1, 0, 0, none, 0), (.getfield 42, 3, 7, 7, none, 0), (.istore_n 2, 1, 2, 0, none, 0), (.aload_n 0, 1, 0, 0, none, 0), (.iconst 0, 1, 0, 0, none, 0), (.iconst 2, 1, 0, 0, none, 2)] 36 = true := by decide +kernel
theorem b_X9_readPage_39 : dkM m_X9_readPage 39 [(.ifCond .ne 5, 3, 44, 42, none, 0)] 42 = true := by decide +kernel
theorem b_X9_readPage_42 : dkM m_X9_readPage 42 [(.iconst 0, 1, 0, 0, none, 0), (.ireturn, 1, 1, 0, none, 0)] 44 = true := by decide +kernel
theorem b_X9_readPage_44 : dkM m_X9_readPage 44 [(.aload_n 0, 1, 0, 0, none, 0), (.getfield 42, 3, 7, 7, none, 0), (.istore_n 3, 1, 3, 0, none, 0), (.aload_n 0, 1, 0, 0, none, 0)] 50 = true := by decide +kernel
theorem b_X9_readPage_53 : dkM m_X9_readPage 53 [(.ifCond .ne 5, 3, 58, 56, none, 0)] 56 = true := by decide +kernel
theorem b_X9_readPage_56 : dkM m_X9_readPage 56 [(.iconst 0, 1, 0, 0, none, 0), (.ireturn, 1, 1, 0, none, 0)] 58 = true := by decide +kernel
theorem b_X9_readPage_58 : dkM m_X9_readPage 58 [(.aload_n 0, 1, 0, 0, none, 0), (.getfield 25, 3, 7, 2, some (some 3), 0), (.getfield 57, 3, 4, 3, some (some 6), 0), (.iload_n 1, 1, 1, 0, none, 0), (.iload_n 2, 1, 2, 0, none, 0), (.iload_n 3, 1, 3, 0, none, 0), (.aload_n 0, 1, 0, 0, none, 0), (.getfield 42, 3, 7, 7, none, 0)] 72 = true := by decide +kernel
theorem b_X9_readPage_75 : dkM m_X9_readPage 75 [(.aload_n 0, 1, 0, 0, none, 0)] 76 = true := by decide +kernel
theorem b_X9_readPage_79 : dkM m_X9_readPage 79 [(.ireturn, 1, 1, 0, none, 0)] 80 = true := by decide +kernel
theorem k_X9_readPage_4 : cvB m_X9_readPage m_X9_readNumber 4 84 7 2 359 65 356 358 5 = true := by decide +kernel
theorem k_X9_readPage_20 : cvB m_X9_readPage m_X9_readNumber 20 84 7 2 359 65 356 358 5 = true := by decide +kernel
theorem k_X9_readPage_36 : cvB m_X9_readPage m_X9_readNumber 36 84 7 2 359 65 356 358 5 = true := by decide +kernel
theorem k_X9_readPage_50 : cvB m_X9_readPage m_X9_readField 50 94 7 0 371 65 368 370 8 = true := by decide +kernel
theorem k_X9_readPage_72 : cvB m_X9_readPage m_X7_add 72 105 5 4 396 63 393 394 395 = true := by decide +kernel
theorem k_X9_readPage_76 : cvB m_X9_readPage m_X9_readItemEnd 76 91 7 0 363 65 360 362 6 = true := by decide +kernel
theorem b_X9_readField_0 : dkM m_X9_readField 0 [(.aload_n 0, 1, 0, 0, none, 0)] 1 = true := by decide +kernel
theorem b_X9_readField_4 : dkM m_X9_readField 4 [(.aload_n 0, 1, 0, 0, none, 0), (.getfield 36, 3, 7, 5, none, 0), (.bipush (-2), 2, 0, 0, none, -2), (.if_icmp .ne 21, 3, 31, 13, none, 0)] 13 = true := by decide +kernel
theorem b_X9_readField_13 : dkM m_X9_readField 13 [(.aload_n 0, 1, 0, 0, none, 0), (.getfield 18, 3, 7, 1, some (some 1), 0), (.aload_n 0, 1, 0, 0, none, 0), (.getfield 42, 3, 7, 7, none, 0)] 21 = true := by decide +kernel
theorem b_X9_readField_24 : dkM m_X9_readField 24 [(.ifCond .eq 7, 3, 31, 27, none, 0)] 27 = true := by decide +kernel
theorem b_X9_readField_27 : dkM m_X9_readField 27 [(.iconst 1, 1, 0, 0, none, 1), (.goto 4, 3, 32, 0, none, 0)] 31 = true := by decide +kernel
theorem b_X9_readField_31 : dkM m_X9_readField 31 [(.iconst 0, 1, 0, 0, none, 0)] 32 = true := by decide +kernel
theorem b_X9_readField_32 : dkM m_X9_readField 32 [(.ireturn, 1, 1, 0, none, 0)] 33 = true := by decide +kernel
theorem k_X9_readField_1 : cvB m_X9_readField m_X9_readToken 1 64 7 0 336 65 333 335 0 = true := by decide +kernel
theorem k_X9_readField_21 : cvB m_X9_readField m_X3_has 21 108 3 1 375 60 372 373 374 = true := by decide +kernel
theorem b_X9_readNumber_0 : dkM m_X9_readNumber 0 [(.aload_n 0, 1, 0, 0, none, 0)] 1 = true := by decide +kernel
theorem b_X9_readNumber_4 : dkM m_X9_readNumber 4 [(.aload_n 0, 1, 0, 0, none, 0), (.getfield 36, 3, 7, 5, none, 0), (.bipush (-2), 2, 0, 0, none, -2), (.if_icmp .ne 23, 3, 33, 13, none, 0)] 13 = true := by decide +kernel
theorem b_X9_readNumber_13 : dkM m_X9_readNumber 13 [(.aload_n 0, 1, 0, 0, none, 0), (.getfield 42, 3, 7, 7, none, 0), (.iload_n 1, 1, 1, 0, none, 0), (.if_icmp .lt 15, 3, 33, 21, none, 0)] 21 = true := by decide +kernel
theorem b_X9_readNumber_21 : dkM m_X9_readNumber 21 [(.aload_n 0, 1, 0, 0, none, 0), (.getfield 42, 3, 7, 7, none, 0), (.iload_n 2, 1, 2, 0, none, 0), (.if_icmp .gt 7, 3, 33, 29, none, 0)] 29 = true := by decide +kernel
theorem b_X9_readNumber_29 : dkM m_X9_readNumber 29 [(.iconst 1, 1, 0, 0, none, 1), (.goto 4, 3, 34, 0, none, 0)] 33 = true := by decide +kernel
theorem b_X9_readNumber_33 : dkM m_X9_readNumber 33 [(.iconst 0, 1, 0, 0, none, 0)] 34 = true := by decide +kernel
theorem b_X9_readNumber_34 : dkM m_X9_readNumber 34 [(.ireturn, 1, 1, 0, none, 0)] 35 = true := by decide +kernel
theorem k_X9_readNumber_1 : cvB m_X9_readNumber m_X9_readToken 1 64 7 0 336 65 333 335 0 = true := by decide +kernel
theorem b_X9_readItemEnd_0 : dkM m_X9_readItemEnd 0 [(.aload_n 0, 1, 0, 0, none, 0)] 1 = true := by decide +kernel
theorem b_X9_readItemEnd_4 : dkM m_X9_readItemEnd 4 [(.aload_n 0, 1, 0, 0, none, 0), (.getfield 36, 3, 7, 5, none, 0), (.bipush 59, 2, 0, 0, none, 59), (.if_icmp .ne 7, 3, 17, 13, none, 0)] 13 = true := by decide +kernel
theorem b_X9_readItemEnd_13 : dkM m_X9_readItemEnd 13 [(.iconst 1, 1, 0, 0, none, 1), (.goto 4, 3, 18, 0, none, 0)] 17 = true := by decide +kernel
theorem b_X9_readItemEnd_17 : dkM m_X9_readItemEnd 17 [(.iconst 0, 1, 0, 0, none, 0)] 18 = true := by decide +kernel
theorem b_X9_readItemEnd_18 : dkM m_X9_readItemEnd 18 [(.ireturn, 1, 1, 0, none, 0)] 19 = true := by decide +kernel
theorem k_X9_readItemEnd_1 : cvB m_X9_readItemEnd m_X9_readToken 1 64 7 0 336 65 333 335 0 = true := by decide +kernel
theorem b_X9_readToken_0 : dkM m_X9_readToken 0 [(.aload_n 0, 1, 0, 0, none, 0)] 1 = true := by decide +kernel
theorem b_X9_readToken_4 : dkM m_X9_readToken 4 [(.aload_n 0, 1, 0, 0, none, 0), (.aload_n 0, 1, 0, 0, none, 0), (.getfield 33, 3, 7, 4, none, 0), (.putfield 39, 3, 7, 6, none, 0), (.aload_n 0, 1, 0, 0, none, 0), (.getfield 33, 3, 7, 4, none, 0), (.aload_n 0, 1, 0, 0, none, 0), (.getfield 9, 3, 7, 0, none, 0), (.if_icmp .lt 11, 3, 31, 23, none, 0)] 23 = true := by decide +kernel
theorem b_X9_readToken_23 : dkM m_X9_readToken 23 [(.aload_n 0, 1, 0, 0, none, 0), (.iconst (-1), 1, 0, 0, none, -1), (.putfield 36, 3, 7, 5, none, 0), (.goto 48, 3, 76, 0, none, 0)] 31 = true := by decide +kernel
theorem b_X9_readToken_31 : dkM m_X9_readToken 31 [(.aload_n 0, 1, 0, 0, none, 0), (.getfield 29, 3, 7, 3, some (some 17), 0), (.aload_n 0, 1, 0, 0, none, 0), (.getfield 33, 3, 7, 4, none, 0), (.iaload, 1, 0, 0, none, 0)] 40 = true := by decide +kernel
theorem b_X9_readToken_43 : dkM m_X9_readToken 43 [(.ifCond .eq 10, 3, 53, 46, none, 0)] 46 = true := by decide +kernel
theorem b_X9_readToken_46 : dkM m_X9_readToken 46 [(.aload_n 0, 1, 0, 0, none, 0)] 47 = true := by decide +kernel
theorem b_X9_readToken_50 : dkM m_X9_readToken 50 [(.goto 26, 3, 76, 0, none, 0)] 53 = true := by decide +kernel
theorem b_X9_readToken_53 : dkM m_X9_readToken 53 [(.aload_n 0, 1, 0, 0, none, 0), (.aload_n 0, 1, 0, 0, none, 0), (.getfield 29, 3, 7, 3, some (some 17), 0), (.aload_n 0, 1, 0, 0, none, 0), (.getfield 33, 3, 7, 4, none, 0), (.iaload, 1, 0, 0, none, 0), (.putfield 36, 3, 7, 5, none, 0), (.aload_n 0, 1, 0, 0, none, 0), (.dup, 1, 0, 0, none, 0), (.getfield 33, 3, 7, 4, none, 0), (.iconst 1, 1, 0, 0, none, 1), (.iadd, 1, 0, 0, none, 0), (.putfield 33, 3, 7, 4, none, 0)] 76 = true := by decide +kernel
theorem b_X9_readToken_76 : dkM m_X9_readToken 76 [(.return_, 1, 0, 0, none, 0)] 77 = true := by decide +kernel
theorem k_X9_readToken_1 : cvB m_X9_readToken m_X9_skipBlanks 1 111 7 0 340 65 337 339 1 = true := by decide +kernel
theorem k_X9_readToken_40 : csB m_X9_readToken m_X9_isDigit 40 114 1 343 65 341 342 = true := by decide +kernel
theorem k_X9_readToken_47 : cvB m_X9_readToken m_X9_readDigits 47 117 7 0 347 65 344 346 2 = true := by decide +kernel
theorem b_X9_skipBlanks_0 : dkM m_X9_skipBlanks 0 [(.aload_n 0, 1, 0, 0, none, 0), (.getfield 33, 3, 7, 4, none, 0), (.aload_n 0, 1, 0, 0, none, 0), (.getfield 9, 3, 7, 0, none, 0), (.if_icmp .ge 30, 3, 38, 11, none, 0)] 11 = true := by decide +kernel
theorem b_X9_skipBlanks_11 : dkM m_X9_skipBlanks 11 [(.aload_n 0, 1, 0, 0, none, 0), (.getfield 29, 3, 7, 3, some (some 17), 0), (.aload_n 0, 1, 0, 0, none, 0), (.getfield 33, 3, 7, 4, none, 0), (.iaload, 1, 0, 0, none, 0), (.bipush 32, 2, 0, 0, none, 32), (.if_icmp .ne 16, 3, 38, 25, none, 0)] 25 = true := by decide +kernel
theorem b_X9_skipBlanks_25 : dkM m_X9_skipBlanks 25 [(.aload_n 0, 1, 0, 0, none, 0), (.dup, 1, 0, 0, none, 0), (.getfield 33, 3, 7, 4, none, 0), (.iconst 1, 1, 0, 0, none, 1), (.iadd, 1, 0, 0, none, 0), (.putfield 33, 3, 7, 4, none, 0), (.goto (-35), 3, 0, 0, none, 0)] 38 = true := by decide +kernel
theorem b_X9_skipBlanks_38 : dkM m_X9_skipBlanks 38 [(.return_, 1, 0, 0, none, 0)] 39 = true := by decide +kernel
theorem b_X9_readDigits_0 : dkM m_X9_readDigits 0 [(.aload_n 0, 1, 0, 0, none, 0), (.getfield 29, 3, 7, 3, some (some 17), 0), (.aload_n 0, 1, 0, 0, none, 0), (.getfield 33, 3, 7, 4, none, 0), (.iaload, 1, 0, 0, none, 0), (.bipush 48, 2, 0, 0, none, 48), (.if_icmp .ne 7, 3, 18, 14, none, 0)] 14 = true := by decide +kernel
theorem b_X9_readDigits_14 : dkM m_X9_readDigits 14 [(.iconst 1, 1, 0, 0, none, 1), (.goto 4, 3, 19, 0, none, 0)] 18 = true := by decide +kernel
theorem b_X9_readDigits_18 : dkM m_X9_readDigits 18 [(.iconst 0, 1, 0, 0, none, 0)] 19 = true := by decide +kernel
theorem b_X9_readDigits_19 : dkM m_X9_readDigits 19 [(.istore_n 1, 1, 1, 0, none, 0), (.aload_n 0, 1, 0, 0, none, 0), (.iconst 0, 1, 0, 0, none, 0), (.putfield 42, 3, 7, 7, none, 0)] 25 = true := by decide +kernel
theorem b_X9_readDigits_25 : dkM m_X9_readDigits 25 [(.aload_n 0, 1, 0, 0, none, 0), (.getfield 33, 3, 7, 4, none, 0), (.aload_n 0, 1, 0, 0, none, 0), (.getfield 9, 3, 7, 0, none, 0), (.if_icmp .ge 55, 3, 88, 36, none, 0)] 36 = true := by decide +kernel
theorem b_X9_readDigits_36 : dkM m_X9_readDigits 36 [(.aload_n 0, 1, 0, 0, none, 0), (.getfield 29, 3, 7, 3, some (some 17), 0), (.aload_n 0, 1, 0, 0, none, 0), (.getfield 33, 3, 7, 4, none, 0), (.iaload, 1, 0, 0, none, 0)] 45 = true := by decide +kernel
theorem b_X9_readDigits_48 : dkM m_X9_readDigits 48 [(.ifCond .eq 40, 3, 88, 51, none, 0)] 51 = true := by decide +kernel
theorem b_X9_readDigits_51 : dkM m_X9_readDigits 51 [(.aload_n 0, 1, 0, 0, none, 0), (.bipush 10, 2, 0, 0, none, 10), (.aload_n 0, 1, 0, 0, none, 0), (.getfield 42, 3, 7, 7, none, 0), (.imul, 1, 0, 0, none, 0), (.aload_n 0, 1, 0, 0, none, 0), (.getfield 29, 3, 7, 3, some (some 17), 0), (.aload_n 0, 1, 0, 0, none, 0), (.getfield 33, 3, 7, 4, none, 0), (.iaload, 1, 0, 0, none, 0), (.iadd, 1, 0, 0, none, 0), (.bipush 48, 2, 0, 0, none, 48), (.isub, 1, 0, 0, none, 0), (.putfield 42, 3, 7, 7, none, 0), (.aload_n 0, 1, 0, 0, none, 0), (.dup, 1, 0, 0, none, 0), (.getfield 33, 3, 7, 4, none, 0), (.iconst 1, 1, 0, 0, none, 1), (.iadd, 1, 0, 0, none, 0), (.putfield 33, 3, 7, 4, none, 0), (.goto (-60), 3, 25, 0, none, 0)] 88 = true := by decide +kernel
theorem b_X9_readDigits_88 : dkM m_X9_readDigits 88 [(.aload_n 0, 1, 0, 0, none, 0), (.getfield 33, 3, 7, 4, none, 0), (.aload_n 0, 1, 0, 0, none, 0), (.getfield 39, 3, 7, 6, none, 0), (.isub, 1, 0, 0, none, 0), (.istore_n 2, 1, 2, 0, none, 0), (.aload_n 0, 1, 0, 0, none, 0), (.iload_n 2, 1, 2, 0, none, 0), (.iconst 2, 1, 0, 0, none, 2), (.if_icmp .gt 12, 3, 113, 104, none, 0)] 104 = true := by decide +kernel
theorem b_X9_readDigits_104 : dkM m_X9_readDigits 104 [(.iload_n 1, 1, 1, 0, none, 0), (.ifCond .eq 13, 3, 118, 108, none, 0)] 108 = true := by decide +kernel
theorem b_X9_readDigits_108 : dkM m_X9_readDigits 108 [(.iload_n 2, 1, 2, 0, none, 0), (.iconst 1, 1, 0, 0, none, 1), (.if_icmp .le 8, 3, 118, 113, none, 0)] 113 = true := by decide +kernel
theorem b_X9_readDigits_113 : dkM m_X9_readDigits 113 [(.bipush (-3), 2, 0, 0, none, -3), (.goto 5, 3, 120, 0, none, 0)] 118 = true := by decide +kernel
theorem b_X9_readDigits_118 : dkM m_X9_readDigits 118 [(.bipush (-2), 2, 0, 0, none, -2)] 120 = true := by decide +kernel
theorem b_X9_readDigits_120 : dkM m_X9_readDigits 120 [(.putfield 36, 3, 7, 5, none, 0), (.return_, 1, 0, 0, none, 0)] 124 = true := by decide +kernel
theorem k_X9_readDigits_45 : csB m_X9_readDigits m_X9_isDigit 45 114 1 343 65 341 342 = true := by decide +kernel
theorem b_X9_isDigit_0 : dkM m_X9_isDigit 0 [(.iload_n 0, 1, 0, 0, none, 0), (.bipush 48, 2, 0, 0, none, 48), (.if_icmp .lt 13, 3, 16, 6, none, 0)] 6 = true := by decide +kernel
theorem b_X9_isDigit_6 : dkM m_X9_isDigit 6 [(.iload_n 0, 1, 0, 0, none, 0), (.bipush 57, 2, 0, 0, none, 57), (.if_icmp .gt 7, 3, 16, 12, none, 0)] 12 = true := by decide +kernel
theorem b_X9_isDigit_12 : dkM m_X9_isDigit 12 [(.iconst 1, 1, 0, 0, none, 1), (.goto 4, 3, 17, 0, none, 0)] 16 = true := by decide +kernel
theorem b_X9_isDigit_16 : dkM m_X9_isDigit 16 [(.iconst 0, 1, 0, 0, none, 0)] 17 = true := by decide +kernel
theorem b_X9_isDigit_17 : dkM m_X9_isDigit 17 [(.ireturn, 1, 1, 0, none, 0)] 18 = true := by decide +kernel
theorem b_X10_type_0 : dkM m_X10_type 0 [(.iload_n 1, 1, 1, 0, none, 0), (.ifCond .lt 10, 3, 11, 4, none, 0)] 4 = true := by decide +kernel
theorem b_X10_type_4 : dkM m_X10_type 4 [(.iload_n 1, 1, 1, 0, none, 0), (.sipush 255, 3, 0, 0, none, 255), (.if_icmp .le 5, 3, 13, 11, none, 0)] 11 = true := by decide +kernel
theorem b_X10_type_11 : dkM m_X10_type 11 [(.iconst (-1), 1, 0, 0, none, -1), (.ireturn, 1, 0, 0, none, 0)] 13 = true := by decide +kernel
theorem b_X10_type_13 : dkM m_X10_type 13 [(.aload_n 0, 1, 0, 0, none, 0), (.getfield 26, 3, 8, 2, some (some 17), 0), (.getfield 48, 3, 7, 0, none, 0), (.sipush 200, 3, 0, 0, none, 200), (.if_icmp .lt 6, 3, 29, 26, none, 0)] 26 = true := by decide +kernel
theorem b_X10_type_26 : dkM m_X10_type 26 [(.bipush (-3), 2, 0, 0, none, -3), (.ireturn, 1, 0, 0, none, 0)] 29 = true := by decide +kernel
theorem b_X10_type_29 : dkM m_X10_type 29 [(.aload_n 0, 1, 0, 0, none, 0), (.getfield 26, 3, 8, 2, some (some 17), 0), (.iload_n 1, 1, 1, 0, none, 0)] 34 = true := by decide +kernel
theorem b_X10_type_37 : dkM m_X10_type 37 [(.aload_n 0, 1, 0, 0, none, 0), (.getfield 26, 3, 8, 2, some (some 17), 0), (.getfield 48, 3, 7, 0, none, 0), (.ireturn, 1, 0, 0, none, 0)] 45 = true := by decide +kernel
theorem k_X10_type_34 : cvB m_X10_type m_X9_add 34 52 7 1 313 65 310 311 312 = true := by decide +kernel
theorem b_X10_clear_0 : dkM m_X10_clear 0 [(.aload_n 0, 1, 0, 0, none, 0), (.getfield 26, 3, 8, 2, some (some 17), 0), (.getfield 48, 3, 7, 0, none, 0), (.istore_n 1, 1, 1, 0, none, 0), (.aload_n 0, 1, 0, 0, none, 0), (.getfield 26, 3, 8, 2, some (some 17), 0), (.iconst 0, 1, 0, 0, none, 0), (.putfield 48, 3, 7, 0, none, 0), (.iload_n 1, 1, 1, 0, none, 0), (.ireturn, 1, 0, 0, none, 0)] 18 = true := by decide +kernel
theorem b_X10_land_0 : dkM m_X10_land 0 [(.aload_n 0, 1, 0, 0, none, 0), (.getfield 26, 3, 8, 2, some (some 17), 0)] 4 = true := by decide +kernel
theorem b_X10_land_7 : dkM m_X10_land 7 [(.istore_n 1, 1, 1, 0, none, 0), (.iload_n 1, 1, 1, 0, none, 0), (.ifCond .ge 5, 3, 14, 12, none, 0)] 12 = true := by decide +kernel
theorem b_X10_land_12 : dkM m_X10_land 12 [(.iload_n 1, 1, 1, 0, none, 0), (.ireturn, 1, 0, 0, none, 0)] 14 = true := by decide +kernel
theorem b_X10_land_14 : dkM m_X10_land 14 [(.aload_n 0, 1, 0, 0, none, 0), (.getfield 12, 3, 8, 0, some (some 1), 0), (.aload_n 0, 1, 0, 0, none, 0), (.getfield 26, 3, 8, 2, some (some 17), 0), (.getfield 60, 3, 7, 1, some (some 1), 0)] 25 = true := by decide +kernel
theorem b_X10_land_28 : dkM m_X10_land 28 [(.aload_n 0, 1, 0, 0, none, 0), (.getfield 19, 3, 8, 1, some (some 3), 0), (.aload_n 0, 1, 0, 0, none, 0), (.getfield 26, 3, 8, 2, some (some 17), 0), (.getfield 67, 3, 7, 2, some (some 3), 0)] 39 = true := by decide +kernel
theorem b_X10_land_42 : dkM m_X10_land 42 [(.aload_n 0, 1, 0, 0, none, 0), (.getfield 33, 3, 8, 3, some (some 35), 0)] 46 = true := by decide +kernel
theorem b_X10_land_49 : dkM m_X10_land 49 [(.aload_n 0, 1, 0, 0, none, 0), (.getfield 40, 3, 8, 4, some (some 177), 0)] 53 = true := by decide +kernel
theorem b_X10_land_56 : dkM m_X10_land 56 [(.aload_n 0, 1, 0, 0, none, 0), (.getfield 26, 3, 8, 2, some (some 17), 0), (.iconst 0, 1, 0, 0, none, 0), (.putfield 48, 3, 7, 0, none, 0), (.iload_n 1, 1, 1, 0, none, 0), (.ireturn, 1, 0, 0, none, 0)] 66 = true := by decide +kernel
theorem k_X10_land_4 : cvB m_X10_land m_X9_readAll 4 56 7 0 325 65 322 323 324 = true := by decide +kernel
theorem k_X10_land_25 : cvB m_X10_land m_X3_copyFrom 25 63 3 1 400 60 397 398 399 = true := by decide +kernel
theorem k_X10_land_39 : cvB m_X10_land m_X5_copyFrom 39 70 4 1 407 61 404 405 406 = true := by decide +kernel
theorem k_X10_land_46 : cvB m_X10_land m_X8_forgetAll 46 73 6 0 427 66 424 425 426 = true := by decide +kernel
theorem k_X10_land_53 : cvB m_X10_land m_X2_forgetAll 53 76 2 0 431 67 428 429 430 = true := by decide +kernel
theorem b_X10_roads_0 : dkM m_X10_roads 0 [(.aload_n 0, 1, 0, 0, none, 0), (.getfield 12, 3, 8, 0, some (some 1), 0), (.iload_n 1, 1, 1, 0, none, 0)] 5 = true := by decide +kernel
theorem b_X10_roads_8 : dkM m_X10_roads 8 [(.ifCond .eq 14, 3, 22, 11, none, 0)] 11 = true := by decide +kernel
theorem b_X10_roads_11 : dkM m_X10_roads 11 [(.aload_n 0, 1, 0, 0, none, 0), (.getfield 12, 3, 8, 0, some (some 1), 0), (.iload_n 1, 1, 1, 0, none, 0)] 16 = true := by decide +kernel
theorem b_X10_roads_19 : dkM m_X10_roads 19 [(.goto 4, 3, 23, 0, none, 0)] 22 = true := by decide +kernel
theorem b_X10_roads_22 : dkM m_X10_roads 22 [(.iconst (-1), 1, 0, 0, none, -1)] 23 = true := by decide +kernel
theorem b_X10_roads_23 : dkM m_X10_roads 23 [(.ireturn, 1, 0, 0, none, 0)] 24 = true := by decide +kernel
theorem k_X10_roads_5 : cvB m_X10_roads m_X3_has 5 77 3 1 375 60 436 373 374 = true := by decide +kernel
theorem k_X10_roads_16 : cvB m_X10_roads m_X3_waysFrom 16 81 3 1 440 60 437 438 439 = true := by decide +kernel
theorem b_X10_army_0 : dkM m_X10_army 0 [(.aload_n 0, 1, 0, 0, none, 0), (.getfield 19, 3, 8, 1, some (some 3), 0), (.getfield 85, 3, 4, 2, some (some 2), 0), (.iload_n 1, 1, 1, 0, none, 0)] 8 = true := by decide +kernel
theorem b_X10_army_11 : dkM m_X10_army 11 [(.ifCond .ne 5, 3, 16, 14, none, 0)] 14 = true := by decide +kernel
theorem b_X10_army_14 : dkM m_X10_army 14 [(.iconst (-1), 1, 0, 0, none, -1), (.ireturn, 1, 0, 0, none, 0)] 16 = true := by decide +kernel
theorem b_X10_army_16 : dkM m_X10_army 16 [(.iload_n 2, 1, 2, 0, none, 0)] 17 = true := by decide +kernel
theorem b_X10_army_44 : dkM m_X10_army 44 [(.aload_n 0, 1, 0, 0, none, 0), (.getfield 19, 3, 8, 1, some (some 3), 0), (.getfield 85, 3, 4, 2, some (some 2), 0), (.getfield 92, 3, 1, 1, some (some 1), 0), (.iload_n 1, 1, 1, 0, none, 0), (.iaload, 1, 0, 0, none, 0), (.ireturn, 1, 0, 0, none, 0)] 57 = true := by decide +kernel
theorem b_X10_army_57 : dkM m_X10_army 57 [(.aload_n 0, 1, 0, 0, none, 0), (.getfield 19, 3, 8, 1, some (some 3), 0), (.getfield 85, 3, 4, 2, some (some 2), 0), (.getfield 96, 3, 1, 2, some (some 2), 0), (.iload_n 1, 1, 1, 0, none, 0), (.iaload, 1, 0, 0, none, 0), (.ireturn, 1, 0, 0, none, 0)] 70 = true := by decide +kernel
theorem b_X10_army_70 : dkM m_X10_army 70 [(.aload_n 0, 1, 0, 0, none, 0), (.getfield 19, 3, 8, 1, some (some 3), 0), (.getfield 85, 3, 4, 2, some (some 2), 0), (.getfield 99, 3, 1, 3, some (some 3), 0), (.iload_n 1, 1, 1, 0, none, 0), (.iaload, 1, 0, 0, none, 0), (.ireturn, 1, 0, 0, none, 0)] 83 = true := by decide +kernel
theorem b_X10_army_83 : dkM m_X10_army 83 [(.iconst (-1), 1, 0, 0, none, -1), (.ireturn, 1, 0, 0, none, 0)] 85 = true := by decide +kernel
theorem k_X10_army_8 : cvB m_X10_army m_X1_has 8 89 1 1 448 62 445 446 447 = true := by decide +kernel
theorem s_X10_army_17 : tswB cX10_army 17 66 0 2 #[27, 40, 53] 27 [(0, 44), (1, 57), (2, 70)] 83 = true := by decide +kernel
theorem b_X10_page_0 : dkM m_X10_page 0 [(.aload_n 0, 1, 0, 0, none, 0), (.getfield 19, 3, 8, 1, some (some 3), 0), (.getfield 102, 3, 4, 3, some (some 6), 0), (.iload_n 1, 1, 1, 0, none, 0)] 8 = true := by decide +kernel
theorem b_X10_page_11 : dkM m_X10_page 11 [(.ifCond .ne 5, 3, 16, 14, none, 0)] 14 = true := by decide +kernel
theorem b_X10_page_14 : dkM m_X10_page 14 [(.iconst (-1), 1, 0, 0, none, -1), (.ireturn, 1, 0, 0, none, 0)] 16 = true := by decide +kernel
theorem b_X10_page_16 : dkM m_X10_page 16 [(.iload_n 2, 1, 2, 0, none, 0)] 17 = true := by decide +kernel
theorem b_X10_page_52 : dkM m_X10_page 52 [(.aload_n 0, 1, 0, 0, none, 0), (.getfield 19, 3, 8, 1, some (some 3), 0), (.getfield 102, 3, 4, 3, some (some 6), 0), (.getfield 109, 3, 5, 1, some (some 1), 0), (.iload_n 1, 1, 1, 0, none, 0), (.iaload, 1, 0, 0, none, 0), (.ireturn, 1, 0, 0, none, 0)] 65 = true := by decide +kernel
theorem b_X10_page_65 : dkM m_X10_page 65 [(.aload_n 0, 1, 0, 0, none, 0), (.getfield 19, 3, 8, 1, some (some 3), 0), (.getfield 102, 3, 4, 3, some (some 6), 0), (.getfield 112, 3, 5, 2, some (some 2), 0), (.iload_n 1, 1, 1, 0, none, 0), (.iaload, 1, 0, 0, none, 0), (.ireturn, 1, 0, 0, none, 0)] 78 = true := by decide +kernel
theorem b_X10_page_78 : dkM m_X10_page 78 [(.aload_n 0, 1, 0, 0, none, 0), (.getfield 19, 3, 8, 1, some (some 3), 0), (.getfield 102, 3, 4, 3, some (some 6), 0), (.getfield 115, 3, 5, 3, some (some 3), 0), (.iload_n 1, 1, 1, 0, none, 0), (.iaload, 1, 0, 0, none, 0), (.ireturn, 1, 0, 0, none, 0)] 91 = true := by decide +kernel
theorem b_X10_page_91 : dkM m_X10_page 91 [(.aload_n 0, 1, 0, 0, none, 0), (.getfield 19, 3, 8, 1, some (some 3), 0), (.getfield 102, 3, 4, 3, some (some 6), 0), (.getfield 118, 3, 5, 4, some (some 4), 0), (.iload_n 1, 1, 1, 0, none, 0), (.iaload, 1, 0, 0, none, 0), (.ireturn, 1, 0, 0, none, 0)] 104 = true := by decide +kernel
theorem b_X10_page_104 : dkM m_X10_page 104 [(.aload_n 0, 1, 0, 0, none, 0), (.getfield 19, 3, 8, 1, some (some 3), 0), (.iload_n 1, 1, 1, 0, none, 0)] 109 = true := by decide +kernel
theorem b_X10_page_112 : dkM m_X10_page 112 [(.ireturn, 1, 0, 0, none, 0)] 113 = true := by decide +kernel
theorem b_X10_page_113 : dkM m_X10_page 113 [(.iconst (-1), 1, 0, 0, none, -1), (.ireturn, 1, 0, 0, none, 0)] 115 = true := by decide +kernel
theorem k_X10_page_8 : cvB m_X10_page m_X7_has 8 106 5 1 456 63 453 454 455 = true := by decide +kernel
theorem k_X10_page_109 : cvB m_X10_page m_X5_stateOf 109 119 4 1 460 61 457 458 459 = true := by decide +kernel
theorem s_X10_page_17 : tswB cX10_page 17 96 0 4 #[35, 48, 61, 74, 87] 35 [(0, 52), (1, 65), (2, 78), (3, 91), (4, 104)] 113 = true := by decide +kernel
theorem b_X10_now_0 : dkM m_X10_now 0 [(.iload_n 1, 1, 1, 0, none, 0)] 1 = true := by decide +kernel
theorem b_X10_now_40 : dkM m_X10_now 40 [(.aload_n 0, 1, 0, 0, none, 0), (.getfield 19, 3, 8, 1, some (some 3), 0), (.getfield 122, 3, 4, 0, none, 0), (.ireturn, 1, 0, 0, none, 0)] 48 = true := by decide +kernel
theorem b_X10_now_48 : dkM m_X10_now 48 [(.aload_n 0, 1, 0, 0, none, 0), (.getfield 19, 3, 8, 1, some (some 3), 0), (.getfield 124, 3, 4, 1, some (some 1), 0), (.iconst 0, 1, 0, 0, none, 0), (.iaload, 1, 0, 0, none, 0), (.ireturn, 1, 0, 0, none, 0)] 58 = true := by decide +kernel
theorem b_X10_now_58 : dkM m_X10_now 58 [(.aload_n 0, 1, 0, 0, none, 0), (.getfield 19, 3, 8, 1, some (some 3), 0), (.getfield 124, 3, 4, 1, some (some 1), 0), (.iconst 1, 1, 0, 0, none, 1), (.iaload, 1, 0, 0, none, 0), (.ireturn, 1, 0, 0, none, 0)] 68 = true := by decide +kernel
theorem b_X10_now_68 : dkM m_X10_now 68 [(.aload_n 0, 1, 0, 0, none, 0), (.getfield 19, 3, 8, 1, some (some 3), 0), (.getfield 85, 3, 4, 2, some (some 2), 0), (.iconst 0, 1, 0, 0, none, 0)] 76 = true := by decide +kernel
theorem b_X10_now_79 : dkM m_X10_now 79 [(.ireturn, 1, 0, 0, none, 0)] 80 = true := by decide +kernel
theorem b_X10_now_80 : dkM m_X10_now 80 [(.aload_n 0, 1, 0, 0, none, 0), (.getfield 19, 3, 8, 1, some (some 3), 0), (.getfield 85, 3, 4, 2, some (some 2), 0), (.iconst 1, 1, 0, 0, none, 1)] 88 = true := by decide +kernel
theorem b_X10_now_91 : dkM m_X10_now 91 [(.ireturn, 1, 0, 0, none, 0)] 92 = true := by decide +kernel
theorem b_X10_now_92 : dkM m_X10_now 92 [(.aload_n 0, 1, 0, 0, none, 0), (.getfield 33, 3, 8, 3, some (some 35), 0), (.getfield 130, 3, 6, 0, none, 0), (.ireturn, 1, 0, 0, none, 0)] 100 = true := by decide +kernel
theorem b_X10_now_100 : dkM m_X10_now 100 [(.iconst (-1), 1, 0, 0, none, -1), (.ireturn, 1, 0, 0, none, 0)] 102 = true := by decide +kernel
theorem k_X10_now_76 : cvB m_X10_now m_X1_troopsOf 76 127 1 1 494 62 491 492 493 = true := by decide +kernel
theorem k_X10_now_88 : cvB m_X10_now m_X1_troopsOf 88 127 1 1 494 62 491 492 493 = true := by decide +kernel
theorem s_X10_now_1 : tswB cX10_now 1 99 0 5 #[39, 47, 57, 67, 79, 91] 39 [(0, 40), (1, 48), (2, 58), (3, 68), (4, 80), (5, 92)] 100 = true := by decide +kernel
theorem b_X10_written_0 : dkM m_X10_written 0 [(.aload_n 0, 1, 0, 0, none, 0), (.getfield 19, 3, 8, 1, some (some 3), 0), (.iload_n 1, 1, 1, 0, none, 0)] 5 = true := by decide +kernel
theorem b_X10_written_8 : dkM m_X10_written 8 [(.ifCond .ne 6, 3, 14, 11, none, 0)] 11 = true := by decide +kernel
theorem b_X10_written_11 : dkM m_X10_written 11 [(.ldc 136, 2, 0, 0, none, -1000000), (.ireturn, 1, 0, 0, none, 0)] 14 = true := by decide +kernel
theorem b_X10_written_14 : dkM m_X10_written 14 [(.iload_n 2, 1, 2, 0, none, 0)] 15 = true := by decide +kernel
theorem b_X10_written_40 : dkM m_X10_written 40 [(.aload_n 0, 1, 0, 0, none, 0), (.getfield 19, 3, 8, 1, some (some 3), 0), (.getfield 137, 3, 4, 4, some (some 11), 0), (.iload_n 1, 1, 1, 0, none, 0), (.iconst 0, 1, 0, 0, none, 0)] 49 = true := by decide +kernel
theorem b_X10_written_52 : dkM m_X10_written 52 [(.ireturn, 1, 0, 0, none, 0)] 53 = true := by decide +kernel
theorem b_X10_written_53 : dkM m_X10_written 53 [(.aload_n 0, 1, 0, 0, none, 0), (.getfield 19, 3, 8, 1, some (some 3), 0), (.getfield 137, 3, 4, 4, some (some 11), 0), (.iload_n 1, 1, 1, 0, none, 0), (.iconst 1, 1, 0, 0, none, 1)] 62 = true := by decide +kernel
theorem b_X10_written_65 : dkM m_X10_written 65 [(.ireturn, 1, 0, 0, none, 0)] 66 = true := by decide +kernel
theorem b_X10_written_66 : dkM m_X10_written 66 [(.aload_n 0, 1, 0, 0, none, 0), (.getfield 19, 3, 8, 1, some (some 3), 0), (.getfield 137, 3, 4, 4, some (some 11), 0), (.iload_n 1, 1, 1, 0, none, 0)] 74 = true := by decide +kernel
theorem b_X10_written_77 : dkM m_X10_written 77 [(.ireturn, 1, 0, 0, none, 0)] 78 = true := by decide +kernel
theorem b_X10_written_78 : dkM m_X10_written 78 [(.ldc 136, 2, 0, 0, none, -1000000), (.ireturn, 1, 0, 0, none, 0)] 81 = true := by decide +kernel
theorem k_X10_written_5 : cvB m_X10_written m_X5_wentBy 5 133 4 1 468 61 499 466 467 = true := by decide +kernel
theorem k_X10_written_49 : cvB m_X10_written m_X0_goalOf 49 141 0 2 476 64 501 474 475 = true := by decide +kernel
theorem k_X10_written_62 : cvB m_X10_written m_X0_goalOf 62 141 0 2 476 64 501 474 475 = true := by decide +kernel
theorem k_X10_written_74 : cvB m_X10_written m_X0_battlesOf 74 147 0 1 486 64 502 484 485 = true := by decide +kernel
theorem s_X10_written_15 : tswB cX10_written 15 63 0 2 #[25, 38, 51] 25 [(0, 40), (1, 53), (2, 66)] 78 = true := by decide +kernel
theorem b_X10_orders_0 : dkM m_X10_orders 0 [(.iload_n 1, 1, 1, 0, none, 0)] 1 = true := by decide +kernel
theorem b_X10_orders_4 : dkM m_X10_orders 4 [(.ifCond .eq 19, 3, 23, 7, none, 0)] 7 = true := by decide +kernel
theorem b_X10_orders_7 : dkM m_X10_orders 7 [(.aload_n 0, 1, 0, 0, none, 0), (.getfield 12, 3, 8, 0, some (some 1), 0), (.aload_n 0, 1, 0, 0, none, 0), (.getfield 19, 3, 8, 1, some (some 3), 0), (.iload_n 1, 1, 1, 0, none, 0), (.iload_n 2, 1, 2, 0, none, 0)] 17 = true := by decide +kernel
theorem b_X10_orders_20 : dkM m_X10_orders 20 [(.ifCond .ne 5, 3, 25, 23, none, 0)] 23 = true := by decide +kernel
theorem b_X10_orders_23 : dkM m_X10_orders 23 [(.iconst (-1), 1, 0, 0, none, -1), (.ireturn, 1, 0, 0, none, 0)] 25 = true := by decide +kernel
theorem b_X10_orders_25 : dkM m_X10_orders 25 [(.aload_n 0, 1, 0, 0, none, 0), (.getfield 19, 3, 8, 1, some (some 3), 0)] 29 = true := by decide +kernel
theorem b_X10_orders_32 : dkM m_X10_orders 32 [(.ifCond .eq 6, 3, 38, 35, none, 0)] 35 = true := by decide +kernel
theorem b_X10_orders_35 : dkM m_X10_orders 35 [(.bipush (-2), 2, 0, 0, none, -2), (.ireturn, 1, 0, 0, none, 0)] 38 = true := by decide +kernel
theorem b_X10_orders_38 : dkM m_X10_orders 38 [(.aload_n 0, 1, 0, 0, none, 0), (.getfield 33, 3, 8, 3, some (some 35), 0), (.aload_n 0, 1, 0, 0, none, 0), (.getfield 19, 3, 8, 1, some (some 3), 0)] 46 = true := by decide +kernel
theorem b_X10_orders_49 : dkM m_X10_orders 49 [(.aload_n 0, 1, 0, 0, none, 0), (.getfield 19, 3, 8, 1, some (some 3), 0), (.getfield 124, 3, 4, 1, some (some 1), 0), (.iload_n 1, 1, 1, 0, none, 0), (.iload_n 2, 1, 2, 0, none, 0), (.iastore, 1, 0, 0, none, 0), (.iconst 1, 1, 0, 0, none, 1), (.ireturn, 1, 0, 0, none, 0)] 61 = true := by decide +kernel
theorem k_X10_orders_1 : csB m_X10_orders m_X10_isDuke 1 150 1 482 59 507 481 = true := by decide +kernel
theorem k_X10_orders_17 : csB m_X10_orders m_X6_isOne 17 153 4 510 71 508 509 = true := by decide +kernel
theorem k_X10_orders_29 : cvB m_X10_orders m_X5_isOver 29 159 4 0 526 61 523 524 525 = true := by decide +kernel
theorem k_X10_orders_46 : cvB m_X10_orders m_X8_remember 46 163 6 1 530 66 527 528 529 = true := by decide +kernel
theorem b_X10_day_0 : dkM m_X10_day 0 [(.aload_n 0, 1, 0, 0, none, 0), (.getfield 19, 3, 8, 1, some (some 3), 0)] 4 = true := by decide +kernel
theorem b_X10_day_7 : dkM m_X10_day 7 [(.ifCond .eq 6, 3, 13, 10, none, 0)] 10 = true := by decide +kernel
theorem b_X10_day_10 : dkM m_X10_day 10 [(.bipush (-2), 2, 0, 0, none, -2), (.ireturn, 1, 0, 0, none, 0)] 13 = true := by decide +kernel
theorem b_X10_day_13 : dkM m_X10_day 13 [(.aload_n 0, 1, 0, 0, none, 0), (.getfield 33, 3, 8, 3, some (some 35), 0), (.aload_n 0, 1, 0, 0, none, 0), (.getfield 19, 3, 8, 1, some (some 3), 0)] 21 = true := by decide +kernel
theorem b_X10_day_24 : dkM m_X10_day 24 [(.aload_n 0, 1, 0, 0, none, 0), (.getfield 19, 3, 8, 1, some (some 3), 0)] 28 = true := by decide +kernel
theorem b_X10_day_31 : dkM m_X10_day 31 [(.ireturn, 1, 0, 0, none, 0)] 32 = true := by decide +kernel
theorem k_X10_day_4 : cvB m_X10_day m_X5_isOver 4 159 4 0 526 61 523 524 525 = true := by decide +kernel
theorem k_X10_day_21 : cvB m_X10_day m_X8_remember 21 163 6 1 530 66 527 528 529 = true := by decide +kernel
theorem k_X10_day_28 : cvB m_X10_day m_X5_passDay 28 166 4 0 542 61 539 540 541 = true := by decide +kernel
theorem b_X10_writes_0 : dkM m_X10_writes 0 [(.iload_n 1, 1, 1, 0, none, 0), (.iconst 1, 1, 0, 0, none, 1), (.if_icmp .lt 39, 3, 41, 5, none, 0)] 5 = true := by decide +kernel
theorem b_X10_writes_5 : dkM m_X10_writes 5 [(.iload_n 1, 1, 1, 0, none, 0), (.bipush 9, 2, 0, 0, none, 9), (.if_icmp .gt 33, 3, 41, 11, none, 0)] 11 = true := by decide +kernel
theorem b_X10_writes_11 : dkM m_X10_writes 11 [(.iload_n 2, 1, 2, 0, none, 0), (.ifCond .lt 29, 3, 41, 15, none, 0)] 15 = true := by decide +kernel
theorem b_X10_writes_15 : dkM m_X10_writes 15 [(.iload_n 2, 1, 2, 0, none, 0), (.iconst 2, 1, 0, 0, none, 2), (.if_icmp .gt 24, 3, 41, 20, none, 0)] 20 = true := by decide +kernel
theorem b_X10_writes_20 : dkM m_X10_writes 20 [(.iload_n 3, 1, 3, 0, none, 0), (.ifCond .lt 20, 3, 41, 24, none, 0)] 24 = true := by decide +kernel
theorem b_X10_writes_24 : dkM m_X10_writes 24 [(.iload_n 3, 1, 3, 0, none, 0), (.iconst 2, 1, 0, 0, none, 2), (.if_icmp .gt 15, 3, 41, 29, none, 0)] 29 = true := by decide +kernel
theorem b_X10_writes_29 : dkM m_X10_writes 29 [(.aload_n 0, 1, 0, 0, none, 0), (.getfield 12, 3, 8, 0, some (some 1), 0), (.iload 4, 2, 4, 0, none, 0)] 35 = true := by decide +kernel
theorem b_X10_writes_38 : dkM m_X10_writes 38 [(.ifCond .ne 5, 3, 43, 41, none, 0)] 41 = true := by decide +kernel
theorem b_X10_writes_41 : dkM m_X10_writes 41 [(.iconst (-1), 1, 0, 0, none, -1), (.ireturn, 1, 0, 0, none, 0)] 43 = true := by decide +kernel
theorem b_X10_writes_43 : dkM m_X10_writes 43 [(.iload_n 1, 1, 1, 0, none, 0), (.aload_n 0, 1, 0, 0, none, 0), (.getfield 19, 3, 8, 1, some (some 3), 0), (.getfield 122, 3, 4, 0, none, 0), (.if_icmp .ge 6, 3, 57, 54, none, 0)] 54 = true := by decide +kernel
theorem b_X10_writes_54 : dkM m_X10_writes 54 [(.bipush (-2), 2, 0, 0, none, -2), (.ireturn, 1, 0, 0, none, 0)] 57 = true := by decide +kernel
theorem b_X10_writes_57 : dkM m_X10_writes 57 [(.aload_n 0, 1, 0, 0, none, 0), (.getfield 19, 3, 8, 1, some (some 3), 0), (.getfield 102, 3, 4, 3, some (some 6), 0), (.getfield 169, 3, 5, 0, none, 0), (.bipush 6, 2, 0, 0, none, 6), (.if_icmp .lt 6, 3, 75, 72, none, 0)] 72 = true := by decide +kernel
theorem b_X10_writes_72 : dkM m_X10_writes 72 [(.bipush (-3), 2, 0, 0, none, -3), (.ireturn, 1, 0, 0, none, 0)] 75 = true := by decide +kernel
theorem b_X10_writes_75 : dkM m_X10_writes 75 [(.aload_n 0, 1, 0, 0, none, 0), (.getfield 33, 3, 8, 3, some (some 35), 0), (.aload_n 0, 1, 0, 0, none, 0), (.getfield 19, 3, 8, 1, some (some 3), 0)] 83 = true := by decide +kernel
theorem b_X10_writes_86 : dkM m_X10_writes 86 [(.aload_n 0, 1, 0, 0, none, 0), (.getfield 19, 3, 8, 1, some (some 3), 0), (.getfield 102, 3, 4, 3, some (some 6), 0), (.iload_n 1, 1, 1, 0, none, 0), (.iload_n 2, 1, 2, 0, none, 0), (.iload_n 3, 1, 3, 0, none, 0), (.iload 4, 2, 4, 0, none, 0)] 98 = true := by decide +kernel
theorem b_X10_writes_101 : dkM m_X10_writes 101 [(.aload_n 0, 1, 0, 0, none, 0), (.getfield 19, 3, 8, 1, some (some 3), 0), (.getfield 102, 3, 4, 3, some (some 6), 0), (.getfield 169, 3, 5, 0, none, 0), (.ireturn, 1, 0, 0, none, 0)] 112 = true := by decide +kernel
theorem k_X10_writes_35 : cvB m_X10_writes m_X3_has 35 77 3 1 375 60 436 373 374 = true := by decide +kernel
theorem k_X10_writes_83 : cvB m_X10_writes m_X8_remember 83 163 6 1 530 66 527 528 529 = true := by decide +kernel
theorem k_X10_writes_98 : cvB m_X10_writes m_X7_add 98 170 5 4 396 63 586 394 395 = true := by decide +kernel
theorem b_X10_strikes_0 : dkM m_X10_strikes 0 [(.aload_n 0, 1, 0, 0, none, 0), (.getfield 19, 3, 8, 1, some (some 3), 0), (.getfield 102, 3, 4, 3, some (some 6), 0), (.iload_n 1, 1, 1, 0, none, 0)] 8 = true := by decide +kernel
theorem b_X10_strikes_11 : dkM m_X10_strikes 11 [(.ifCond .ne 5, 3, 16, 14, none, 0)] 14 = true := by decide +kernel
theorem b_X10_strikes_14 : dkM m_X10_strikes 14 [(.iconst (-1), 1, 0, 0, none, -1), (.ireturn, 1, 0, 0, none, 0)] 16 = true := by decide +kernel
theorem b_X10_strikes_16 : dkM m_X10_strikes 16 [(.aload_n 0, 1, 0, 0, none, 0), (.getfield 33, 3, 8, 3, some (some 35), 0), (.aload_n 0, 1, 0, 0, none, 0), (.getfield 19, 3, 8, 1, some (some 3), 0)] 24 = true := by decide +kernel
theorem b_X10_strikes_27 : dkM m_X10_strikes 27 [(.aload_n 0, 1, 0, 0, none, 0), (.getfield 19, 3, 8, 1, some (some 3), 0), (.getfield 102, 3, 4, 3, some (some 6), 0), (.iload_n 1, 1, 1, 0, none, 0)] 35 = true := by decide +kernel
theorem b_X10_strikes_38 : dkM m_X10_strikes 38 [(.aload_n 0, 1, 0, 0, none, 0), (.getfield 19, 3, 8, 1, some (some 3), 0), (.getfield 102, 3, 4, 3, some (some 6), 0), (.getfield 169, 3, 5, 0, none, 0), (.ireturn, 1, 0, 0, none, 0)] 49 = true := by decide +kernel
theorem k_X10_strikes_8 : cvB m_X10_strikes m_X7_has 8 106 5 1 456 63 453 454 455 = true := by decide +kernel
theorem k_X10_strikes_24 : cvB m_X10_strikes m_X8_remember 24 163 6 1 530 66 527 528 529 = true := by decide +kernel
theorem k_X10_strikes_35 : cvB m_X10_strikes m_X7_remove 35 173 5 1 594 63 591 592 593 = true := by decide +kernel
theorem b_X10_undo_0 : dkM m_X10_undo 0 [(.aload_n 0, 1, 0, 0, none, 0), (.getfield 33, 3, 8, 3, some (some 35), 0), (.getfield 130, 3, 6, 0, none, 0), (.ifCond .ne 6, 3, 13, 10, none, 0)] 10 = true := by decide +kernel
theorem b_X10_undo_10 : dkM m_X10_undo 10 [(.bipush (-2), 2, 0, 0, none, -2), (.ireturn, 1, 0, 0, none, 0)] 13 = true := by decide +kernel
theorem b_X10_undo_13 : dkM m_X10_undo 13 [(.aload_n 0, 1, 0, 0, none, 0), (.getfield 33, 3, 8, 3, some (some 35), 0), (.aload_n 0, 1, 0, 0, none, 0), (.getfield 19, 3, 8, 1, some (some 3), 0)] 21 = true := by decide +kernel
theorem b_X10_undo_24 : dkM m_X10_undo 24 [(.aload_n 0, 1, 0, 0, none, 0), (.getfield 33, 3, 8, 3, some (some 35), 0), (.getfield 130, 3, 6, 0, none, 0), (.ireturn, 1, 0, 0, none, 0)] 32 = true := by decide +kernel
theorem k_X10_undo_21 : cvB m_X10_undo m_X8_takeBack 21 176 6 1 603 66 600 601 602 = true := by decide +kernel
theorem b_X10_dutiful_0 : dkM m_X10_dutiful 0 [(.iload_n 1, 1, 1, 0, none, 0)] 1 = true := by decide +kernel
theorem b_X10_dutiful_4 : dkM m_X10_dutiful 4 [(.ifCond .eq 8, 3, 12, 7, none, 0)] 7 = true := by decide +kernel
theorem b_X10_dutiful_7 : dkM m_X10_dutiful 7 [(.iload_n 2, 1, 2, 0, none, 0), (.iconst (-1), 1, 0, 0, none, -1), (.if_icmp .ge 5, 3, 14, 12, none, 0)] 12 = true := by decide +kernel
theorem b_X10_dutiful_12 : dkM m_X10_dutiful 12 [(.iconst (-1), 1, 0, 0, none, -1), (.ireturn, 1, 0, 0, none, 0)] 14 = true := by decide +kernel
theorem b_X10_dutiful_14 : dkM m_X10_dutiful 14 [(.aload_n 0, 1, 0, 0, none, 0), (.getfield 19, 3, 8, 1, some (some 3), 0)] 18 = true := by decide +kernel
theorem b_X10_dutiful_21 : dkM m_X10_dutiful 21 [(.ifCond .eq 6, 3, 27, 24, none, 0)] 24 = true := by decide +kernel
theorem b_X10_dutiful_24 : dkM m_X10_dutiful 24 [(.bipush (-2), 2, 0, 0, none, -2), (.ireturn, 1, 0, 0, none, 0)] 27 = true := by decide +kernel
theorem b_X10_dutiful_27 : dkM m_X10_dutiful 27 [(.iload_n 2, 1, 2, 0, none, 0), (.iconst (-1), 1, 0, 0, none, -1), (.if_icmp .ne 18, 3, 47, 32, none, 0)] 32 = true := by decide +kernel
theorem b_X10_dutiful_32 : dkM m_X10_dutiful 32 [(.aload_n 0, 1, 0, 0, none, 0), (.getfield 12, 3, 8, 0, some (some 1), 0), (.aload_n 0, 1, 0, 0, none, 0), (.getfield 19, 3, 8, 1, some (some 3), 0), (.iload_n 1, 1, 1, 0, none, 0)] 41 = true := by decide +kernel
theorem b_X10_dutiful_44 : dkM m_X10_dutiful 44 [(.goto 16, 3, 60, 0, none, 0)] 47 = true := by decide +kernel
theorem b_X10_dutiful_47 : dkM m_X10_dutiful 47 [(.aload_n 0, 1, 0, 0, none, 0), (.getfield 12, 3, 8, 0, some (some 1), 0), (.aload_n 0, 1, 0, 0, none, 0), (.getfield 19, 3, 8, 1, some (some 3), 0), (.iload_n 1, 1, 1, 0, none, 0), (.iload_n 2, 1, 2, 0, none, 0)] 57 = true := by decide +kernel
theorem b_X10_dutiful_60 : dkM m_X10_dutiful 60 [(.ireturn, 1, 0, 0, none, 0)] 61 = true := by decide +kernel
theorem k_X10_dutiful_1 : csB m_X10_dutiful m_X10_isDuke 1 150 1 482 59 507 481 = true := by decide +kernel
theorem k_X10_dutiful_18 : cvB m_X10_dutiful m_X5_isOver 18 159 4 0 526 61 523 524 525 = true := by decide +kernel
theorem k_X10_dutiful_41 : csB m_X10_dutiful m_X6_howManyDutiful 41 179 3 610 71 608 609 = true := by decide +kernel
theorem k_X10_dutiful_57 : csB m_X10_dutiful m_X6_dutifulAt 57 183 4 620 71 618 619 = true := by decide +kernel
theorem b_X10_best_0 : dkM m_X10_best 0 [(.iload_n 1, 1, 1, 0, none, 0)] 1 = true := by decide +kernel
theorem b_X10_best_4 : dkM m_X10_best 4 [(.ifCond .eq 21, 3, 25, 7, none, 0)] 7 = true := by decide +kernel
theorem b_X10_best_7 : dkM m_X10_best 7 [(.iload_n 2, 1, 2, 0, none, 0), (.ifCond .lt 17, 3, 25, 11, none, 0)] 11 = true := by decide +kernel
theorem b_X10_best_11 : dkM m_X10_best 11 [(.iload_n 2, 1, 2, 0, none, 0), (.iconst 2, 1, 0, 0, none, 2), (.if_icmp .gt 12, 3, 25, 16, none, 0)] 16 = true := by decide +kernel
theorem b_X10_best_16 : dkM m_X10_best 16 [(.iload_n 3, 1, 3, 0, none, 0), (.ifCond .lt 8, 3, 25, 20, none, 0)] 20 = true := by decide +kernel
theorem b_X10_best_20 : dkM m_X10_best 20 [(.iload_n 3, 1, 3, 0, none, 0), (.iconst 1, 1, 0, 0, none, 1), (.if_icmp .le 6, 3, 28, 25, none, 0)] 25 = true := by decide +kernel
theorem b_X10_best_25 : dkM m_X10_best 25 [(.ldc 136, 2, 0, 0, none, -1000000), (.ireturn, 1, 0, 0, none, 0)] 28 = true := by decide +kernel
theorem b_X10_best_28 : dkM m_X10_best 28 [(.iload_n 3, 1, 3, 0, none, 0), (.ifCond .ne 29, 3, 58, 32, none, 0)] 32 = true := by decide +kernel
theorem b_X10_best_32 : dkM m_X10_best 32 [(.aload_n 0, 1, 0, 0, none, 0), (.getfield 19, 3, 8, 1, some (some 3), 0), (.getfield 85, 3, 4, 2, some (some 2), 0), (.iload_n 1, 1, 1, 0, none, 0)] 40 = true := by decide +kernel
theorem b_X10_best_43 : dkM m_X10_best 43 [(.aload_n 0, 1, 0, 0, none, 0), (.getfield 19, 3, 8, 1, some (some 3), 0), (.getfield 85, 3, 4, 2, some (some 2), 0), (.iconst 1, 1, 0, 0, none, 1), (.iload_n 1, 1, 1, 0, none, 0), (.isub, 1, 0, 0, none, 0)] 53 = true := by decide +kernel
theorem b_X10_best_56 : dkM m_X10_best 56 [(.isub, 1, 0, 0, none, 0), (.ireturn, 1, 0, 0, none, 0)] 58 = true := by decide +kernel
theorem b_X10_best_58 : dkM m_X10_best 58 [(.iload_n 2, 1, 2, 0, none, 0), (.ifCond .eq 13, 3, 72, 62, none, 0)] 62 = true := by decide +kernel
theorem b_X10_best_62 : dkM m_X10_best 62 [(.aload_n 0, 1, 0, 0, none, 0), (.getfield 19, 3, 8, 1, some (some 3), 0)] 66 = true := by decide +kernel
theorem b_X10_best_69 : dkM m_X10_best 69 [(.ifCond .eq 5, 3, 74, 72, none, 0)] 72 = true := by decide +kernel
theorem b_X10_best_72 : dkM m_X10_best 72 [(.iconst (-1), 1, 0, 0, none, -1), (.ireturn, 1, 0, 0, none, 0)] 74 = true := by decide +kernel
theorem b_X10_best_74 : dkM m_X10_best 74 [(.aload_n 0, 1, 0, 0, none, 0), (.getfield 12, 3, 8, 0, some (some 1), 0), (.aload_n 0, 1, 0, 0, none, 0), (.getfield 19, 3, 8, 1, some (some 3), 0), (.iload_n 1, 1, 1, 0, none, 0), (.iconst 0, 1, 0, 0, none, 0)] 84 = true := by decide +kernel
theorem b_X10_best_87 : dkM m_X10_best 87 [(.istore 4, 2, 4, 0, none, 0), (.iload 4, 2, 4, 0, none, 0), (.bipush (-5), 2, 0, 0, none, -5), (.if_icmp .ne 7, 3, 100, 96, none, 0)] 96 = true := by decide +kernel
theorem b_X10_best_96 : dkM m_X10_best 96 [(.iconst 0, 1, 0, 0, none, 0), (.goto 5, 3, 102, 0, none, 0)] 100 = true := by decide +kernel
theorem b_X10_best_100 : dkM m_X10_best 100 [(.iload 4, 2, 4, 0, none, 0)] 102 = true := by decide +kernel
theorem b_X10_best_102 : dkM m_X10_best 102 [(.ireturn, 1, 0, 0, none, 0)] 103 = true := by decide +kernel
theorem k_X10_best_1 : csB m_X10_best m_X10_isDuke 1 150 1 482 59 507 481 = true := by decide +kernel
theorem k_X10_best_40 : cvB m_X10_best m_X1_troopsOf 40 127 1 1 494 62 491 492 493 = true := by decide +kernel
theorem k_X10_best_53 : cvB m_X10_best m_X1_troopsOf 53 127 1 1 494 62 491 492 493 = true := by decide +kernel
theorem k_X10_best_66 : cvB m_X10_best m_X5_isOver 66 159 4 0 526 61 523 524 525 = true := by decide +kernel
theorem k_X10_best_84 : csB m_X10_best m_X6_dutifulAt 84 183 4 620 71 618 619 = true := by decide +kernel
theorem b_X10_readings_0 : dkM m_X10_readings 0 [(.aload_n 0, 1, 0, 0, none, 0), (.getfield 19, 3, 8, 1, some (some 3), 0)] 4 = true := by decide +kernel
theorem b_X10_readings_7 : dkM m_X10_readings 7 [(.ireturn, 1, 0, 0, none, 0)] 8 = true := by decide +kernel
theorem k_X10_readings_4 : csB m_X10_readings m_X4_countReadings 4 187 1 631 74 629 630 = true := by decide +kernel
theorem b_X10_lost_0 : dkM m_X10_lost 0 [(.aload_n 0, 1, 0, 0, none, 0), (.getfield 19, 3, 8, 1, some (some 3), 0), (.iload_n 1, 1, 1, 0, none, 0)] 5 = true := by decide +kernel
theorem b_X10_lost_8 : dkM m_X10_lost 8 [(.ifCond .eq 24, 3, 32, 11, none, 0)] 11 = true := by decide +kernel
theorem b_X10_lost_11 : dkM m_X10_lost 11 [(.aload_n 0, 1, 0, 0, none, 0), (.getfield 19, 3, 8, 1, some (some 3), 0), (.getfield 137, 3, 4, 4, some (some 11), 0), (.iload_n 1, 1, 1, 0, none, 0), (.aload_n 0, 1, 0, 0, none, 0), (.getfield 12, 3, 8, 0, some (some 1), 0), (.getfield 193, 3, 3, 0, none, 0)] 26 = true := by decide +kernel
theorem b_X10_lost_29 : dkM m_X10_lost 29 [(.goto 4, 3, 33, 0, none, 0)] 32 = true := by decide +kernel
theorem b_X10_lost_32 : dkM m_X10_lost 32 [(.iconst (-1), 1, 0, 0, none, -1)] 33 = true := by decide +kernel
theorem b_X10_lost_33 : dkM m_X10_lost 33 [(.ireturn, 1, 0, 0, none, 0)] 34 = true := by decide +kernel
theorem k_X10_lost_5 : cvB m_X10_lost m_X5_wentBy 5 133 4 1 468 61 499 466 467 = true := by decide +kernel
theorem k_X10_lost_26 : csB m_X10_lost m_X4_countSentences 26 196 3 642 74 640 641 = true := by decide +kernel
theorem b_X10_clash_0 : dkM m_X10_clash 0 [(.aload_n 0, 1, 0, 0, none, 0), (.getfield 19, 3, 8, 1, some (some 3), 0), (.getfield 102, 3, 4, 3, some (some 6), 0)] 7 = true := by decide +kernel
theorem b_X10_clash_10 : dkM m_X10_clash 10 [(.ireturn, 1, 0, 0, none, 0)] 11 = true := by decide +kernel
theorem k_X10_clash_7 : csB m_X10_clash m_X4_firstClash 7 200 1 650 74 648 649 = true := by decide +kernel
theorem b_X10_least_0 : dkM m_X10_least 0 [(.iload_n 1, 1, 1, 0, none, 0), (.ifCond .lt 8, 3, 9, 4, none, 0)] 4 = true := by decide +kernel
theorem b_X10_least_4 : dkM m_X10_least 4 [(.iload_n 1, 1, 1, 0, none, 0), (.iconst 1, 1, 0, 0, none, 1), (.if_icmp .le 5, 3, 11, 9, none, 0)] 9 = true := by decide +kernel
theorem b_X10_least_9 : dkM m_X10_least 9 [(.iconst (-1), 1, 0, 0, none, -1), (.ireturn, 1, 0, 0, none, 0)] 11 = true := by decide +kernel
theorem b_X10_least_11 : dkM m_X10_least 11 [(.aload_n 0, 1, 0, 0, none, 0), (.getfield 19, 3, 8, 1, some (some 3), 0)] 15 = true := by decide +kernel
theorem b_X10_least_18 : dkM m_X10_least 18 [(.istore_n 2, 1, 2, 0, none, 0), (.iload_n 1, 1, 1, 0, none, 0), (.ifCond .ne 10, 3, 30, 23, none, 0)] 23 = true := by decide +kernel
theorem b_X10_least_23 : dkM m_X10_least 23 [(.iload_n 2, 1, 2, 0, none, 0)] 24 = true := by decide +kernel
theorem b_X10_least_27 : dkM m_X10_least 27 [(.goto 4, 3, 31, 0, none, 0)] 30 = true := by decide +kernel
theorem b_X10_least_30 : dkM m_X10_least 30 [(.iload_n 2, 1, 2, 0, none, 0)] 31 = true := by decide +kernel
theorem b_X10_least_31 : dkM m_X10_least 31 [(.ireturn, 1, 0, 0, none, 0)] 32 = true := by decide +kernel
theorem k_X10_least_15 : csB m_X10_least m_X4_leastStruck 15 204 1 661 74 659 660 = true := by decide +kernel
theorem k_X10_least_24 : csB m_X10_least m_J_bitCount 24 207 1 578 73 670 577 = true := by decide +kernel
theorem b_X10_march_0 : dkM m_X10_march 0 [(.aload_n 0, 1, 0, 0, none, 0), (.getfield 19, 3, 8, 1, some (some 3), 0), (.getfield 85, 3, 4, 2, some (some 2), 0), (.iload_n 1, 1, 1, 0, none, 0)] 8 = true := by decide +kernel
theorem b_X10_march_11 : dkM m_X10_march 11 [(.ifCond .eq 14, 3, 25, 14, none, 0)] 14 = true := by decide +kernel
theorem b_X10_march_14 : dkM m_X10_march 14 [(.aload_n 0, 1, 0, 0, none, 0), (.getfield 12, 3, 8, 0, some (some 1), 0), (.iload_n 2, 1, 2, 0, none, 0)] 19 = true := by decide +kernel
theorem b_X10_march_22 : dkM m_X10_march 22 [(.ifCond .ne 5, 3, 27, 25, none, 0)] 25 = true := by decide +kernel
theorem b_X10_march_25 : dkM m_X10_march 25 [(.iconst (-1), 1, 0, 0, none, -1), (.ireturn, 1, 0, 0, none, 0)] 27 = true := by decide +kernel
theorem b_X10_march_27 : dkM m_X10_march 27 [(.aload_n 0, 1, 0, 0, none, 0), (.getfield 12, 3, 8, 0, some (some 1), 0), (.aload_n 0, 1, 0, 0, none, 0), (.getfield 19, 3, 8, 1, some (some 3), 0), (.getfield 85, 3, 4, 2, some (some 2), 0), (.getfield 96, 3, 1, 2, some (some 2), 0), (.iload_n 1, 1, 1, 0, none, 0), (.iaload, 1, 0, 0, none, 0), (.iload_n 2, 1, 2, 0, none, 0)] 44 = true := by decide +kernel
theorem b_X10_march_47 : dkM m_X10_march 47 [(.ireturn, 1, 0, 0, none, 0)] 48 = true := by decide +kernel
theorem k_X10_march_8 : cvB m_X10_march m_X1_has 8 89 1 1 448 62 445 446 447 = true := by decide +kernel
theorem k_X10_march_19 : cvB m_X10_march m_X3_has 19 77 3 1 375 60 436 373 374 = true := by decide +kernel
theorem k_X10_march_44 : cvB m_X10_march m_X3_daysBetween 44 212 3 2 678 60 675 676 677 = true := by decide +kernel
theorem b_X10_rate_0 : dkM m_X10_rate 0 [(.aload_n 0, 1, 0, 0, none, 0), (.getfield 19, 3, 8, 1, some (some 3), 0), (.getfield 85, 3, 4, 2, some (some 2), 0), (.iload_n 2, 1, 2, 0, none, 0)] 8 = true := by decide +kernel
theorem b_X10_rate_11 : dkM m_X10_rate 11 [(.ifCond .ne 6, 3, 17, 14, none, 0)] 14 = true := by decide +kernel
theorem b_X10_rate_14 : dkM m_X10_rate 14 [(.ldc 136, 2, 0, 0, none, -1000000), (.ireturn, 1, 0, 0, none, 0)] 17 = true := by decide +kernel
theorem b_X10_rate_17 : dkM m_X10_rate 17 [(.iload_n 1, 1, 1, 0, none, 0)] 18 = true := by decide +kernel
theorem b_X10_rate_56 : dkM m_X10_rate 56 [(.aload_n 0, 1, 0, 0, none, 0), (.iload_n 2, 1, 2, 0, none, 0)] 58 = true := by decide +kernel
theorem b_X10_rate_61 : dkM m_X10_rate 61 [(.ireturn, 1, 0, 0, none, 0)] 62 = true := by decide +kernel
theorem b_X10_rate_62 : dkM m_X10_rate 62 [(.aload_n 0, 1, 0, 0, none, 0), (.iload_n 2, 1, 2, 0, none, 0)] 64 = true := by decide +kernel
theorem b_X10_rate_67 : dkM m_X10_rate 67 [(.ireturn, 1, 0, 0, none, 0)] 68 = true := by decide +kernel
theorem b_X10_rate_68 : dkM m_X10_rate 68 [(.aload_n 0, 1, 0, 0, none, 0), (.iload_n 2, 1, 2, 0, none, 0)] 70 = true := by decide +kernel
theorem b_X10_rate_73 : dkM m_X10_rate 73 [(.ireturn, 1, 0, 0, none, 0)] 74 = true := by decide +kernel
theorem b_X10_rate_74 : dkM m_X10_rate 74 [(.aload_n 0, 1, 0, 0, none, 0), (.iload_n 2, 1, 2, 0, none, 0)] 76 = true := by decide +kernel
theorem b_X10_rate_79 : dkM m_X10_rate 79 [(.ireturn, 1, 0, 0, none, 0)] 80 = true := by decide +kernel
theorem b_X10_rate_80 : dkM m_X10_rate 80 [(.aload_n 0, 1, 0, 0, none, 0), (.iload_n 2, 1, 2, 0, none, 0)] 82 = true := by decide +kernel
theorem b_X10_rate_85 : dkM m_X10_rate 85 [(.ireturn, 1, 0, 0, none, 0)] 86 = true := by decide +kernel
theorem b_X10_rate_86 : dkM m_X10_rate 86 [(.aload_n 0, 1, 0, 0, none, 0), (.iload_n 2, 1, 2, 0, none, 0)] 88 = true := by decide +kernel
theorem b_X10_rate_91 : dkM m_X10_rate 91 [(.ireturn, 1, 0, 0, none, 0)] 92 = true := by decide +kernel
theorem b_X10_rate_92 : dkM m_X10_rate 92 [(.ldc 136, 2, 0, 0, none, -1000000), (.ireturn, 1, 0, 0, none, 0)] 95 = true := by decide +kernel
theorem k_X10_rate_8 : cvB m_X10_rate m_X1_has 8 89 1 1 448 62 445 446 447 = true := by decide +kernel
theorem k_X10_rate_58 : cvB m_X10_rate m_X10_rateTroop 58 215 8 1 690 59 687 689 14 = true := by decide +kernel
theorem k_X10_rate_64 : cvB m_X10_rate m_X10_rateArchers 64 218 8 1 694 59 691 693 15 = true := by decide +kernel
theorem k_X10_rate_70 : cvB m_X10_rate m_X10_rateSiege 70 221 8 1 699 59 696 698 16 = true := by decide +kernel
theorem k_X10_rate_76 : cvB m_X10_rate m_X10_rateMarginalArchers 76 224 8 1 704 59 701 703 17 = true := by decide +kernel
theorem k_X10_rate_82 : cvB m_X10_rate m_X10_rateBaggage 82 227 8 1 709 59 706 708 18 = true := by decide +kernel
theorem k_X10_rate_88 : cvB m_X10_rate m_X10_rateMarshal 88 230 8 1 714 59 711 713 19 = true := by decide +kernel
theorem s_X10_rate_18 : tswB cX10_rate 18 74 0 5 #[38, 44, 50, 56, 62, 68] 38 [(0, 56), (1, 62), (2, 68), (3, 74), (4, 80), (5, 86)] 92 = true := by decide +kernel
theorem b_X10_keep_0 : dkM m_X10_keep 0 [(.aload_n 0, 1, 0, 0, none, 0), (.getfield 40, 3, 8, 4, some (some 177), 0), (.iload_n 1, 1, 1, 0, none, 0)] 5 = true := by decide +kernel
theorem b_X10_keep_8 : dkM m_X10_keep 8 [(.ifCond .ne 5, 3, 13, 11, none, 0)] 11 = true := by decide +kernel
theorem b_X10_keep_11 : dkM m_X10_keep 11 [(.iconst (-1), 1, 0, 0, none, -1), (.ireturn, 1, 0, 0, none, 0)] 13 = true := by decide +kernel
theorem b_X10_keep_13 : dkM m_X10_keep 13 [(.aload_n 0, 1, 0, 0, none, 0), (.getfield 40, 3, 8, 4, some (some 177), 0), (.iload_n 1, 1, 1, 0, none, 0), (.aload_n 0, 1, 0, 0, none, 0), (.getfield 19, 3, 8, 1, some (some 3), 0)] 22 = true := by decide +kernel
theorem b_X10_keep_25 : dkM m_X10_keep 25 [(.aload_n 0, 1, 0, 0, none, 0), (.getfield 19, 3, 8, 1, some (some 3), 0), (.getfield 122, 3, 4, 0, none, 0), (.ireturn, 1, 0, 0, none, 0)] 33 = true := by decide +kernel
theorem k_X10_keep_5 : cvB m_X10_keep m_X2_has 5 233 2 1 723 67 720 721 722 = true := by decide +kernel
theorem k_X10_keep_22 : cvB m_X10_keep m_X2_put 22 234 2 2 727 67 724 725 726 = true := by decide +kernel
theorem b_X10_back_0 : dkM m_X10_back 0 [(.aload_n 0, 1, 0, 0, none, 0), (.getfield 40, 3, 8, 4, some (some 177), 0), (.iload_n 1, 1, 1, 0, none, 0)] 5 = true := by decide +kernel
theorem b_X10_back_8 : dkM m_X10_back 8 [(.ifCond .ne 5, 3, 13, 11, none, 0)] 11 = true := by decide +kernel
theorem b_X10_back_11 : dkM m_X10_back 11 [(.iconst (-1), 1, 0, 0, none, -1), (.ireturn, 1, 0, 0, none, 0)] 13 = true := by decide +kernel
theorem b_X10_back_13 : dkM m_X10_back 13 [(.aload_n 0, 1, 0, 0, none, 0), (.getfield 40, 3, 8, 4, some (some 177), 0), (.getfield 238, 3, 2, 0, some (some 1), 0), (.iload_n 1, 1, 1, 0, none, 0), (.baload, 1, 0, 0, none, 0), (.ifCond .ne 6, 3, 28, 25, none, 0)] 25 = true := by decide +kernel
theorem b_X10_back_25 : dkM m_X10_back 25 [(.bipush (-2), 2, 0, 0, none, -2), (.ireturn, 1, 0, 0, none, 0)] 28 = true := by decide +kernel
theorem b_X10_back_28 : dkM m_X10_back 28 [(.aload_n 0, 1, 0, 0, none, 0), (.getfield 19, 3, 8, 1, some (some 3), 0), (.aload_n 0, 1, 0, 0, none, 0), (.getfield 40, 3, 8, 4, some (some 177), 0), (.getfield 242, 3, 2, 1, some (some 2), 0), (.iload_n 1, 1, 1, 0, none, 0), (.aaload, 1, 0, 0, none, 0)] 41 = true := by decide +kernel
theorem b_X10_back_44 : dkM m_X10_back 44 [(.aload_n 0, 1, 0, 0, none, 0), (.getfield 33, 3, 8, 3, some (some 35), 0)] 48 = true := by decide +kernel
theorem b_X10_back_51 : dkM m_X10_back 51 [(.aload_n 0, 1, 0, 0, none, 0), (.getfield 19, 3, 8, 1, some (some 3), 0), (.getfield 122, 3, 4, 0, none, 0), (.ireturn, 1, 0, 0, none, 0)] 59 = true := by decide +kernel
theorem k_X10_back_5 : cvB m_X10_back m_X2_has 5 233 2 1 723 67 720 721 722 = true := by decide +kernel
theorem k_X10_back_41 : cvB m_X10_back m_X5_copyFrom 41 70 4 1 407 61 404 405 406 = true := by decide +kernel
theorem k_X10_back_48 : cvB m_X10_back m_X8_forgetAll 48 73 6 0 427 66 424 425 426 = true := by decide +kernel
theorem b_X10_count_0 : dkM m_X10_count 0 [(.iload_n 1, 1, 1, 0, none, 0)] 1 = true := by decide +kernel
theorem b_X10_count_32 : dkM m_X10_count 32 [(.aload_n 0, 1, 0, 0, none, 0), (.getfield 12, 3, 8, 0, some (some 1), 0), (.getfield 193, 3, 3, 0, none, 0), (.ireturn, 1, 0, 0, none, 0)] 40 = true := by decide +kernel
theorem b_X10_count_40 : dkM m_X10_count 40 [(.aload_n 0, 1, 0, 0, none, 0), (.getfield 19, 3, 8, 1, some (some 3), 0), (.getfield 85, 3, 4, 2, some (some 2), 0), (.getfield 246, 3, 1, 0, none, 0), (.ireturn, 1, 0, 0, none, 0)] 51 = true := by decide +kernel
theorem b_X10_count_51 : dkM m_X10_count 51 [(.aload_n 0, 1, 0, 0, none, 0), (.getfield 19, 3, 8, 1, some (some 3), 0), (.getfield 102, 3, 4, 3, some (some 6), 0), (.getfield 169, 3, 5, 0, none, 0), (.ireturn, 1, 0, 0, none, 0)] 62 = true := by decide +kernel
theorem b_X10_count_62 : dkM m_X10_count 62 [(.aload_n 0, 1, 0, 0, none, 0), (.getfield 26, 3, 8, 2, some (some 17), 0), (.getfield 48, 3, 7, 0, none, 0), (.ireturn, 1, 0, 0, none, 0)] 70 = true := by decide +kernel
theorem b_X10_count_70 : dkM m_X10_count 70 [(.iconst (-1), 1, 0, 0, none, -1), (.ireturn, 1, 0, 0, none, 0)] 72 = true := by decide +kernel
theorem s_X10_count_1 : tswB cX10_count 1 69 0 3 #[31, 39, 50, 61] 31 [(0, 32), (1, 40), (2, 51), (3, 62)] 70 = true := by decide +kernel
theorem b_X10_trace_0 : dkM m_X10_trace 0 [(.aload_n 0, 1, 0, 0, none, 0), (.getfield 44, 3, 8, 5, some none, 0), (.lreturn, 1, 0, 0, none, 0)] 5 = true := by decide +kernel
theorem b_X10_isDuke_0 : dkM m_X10_isDuke 0 [(.iload_n 0, 1, 0, 0, none, 0), (.ifCond .lt 12, 3, 13, 4, none, 0)] 4 = true := by decide +kernel
theorem b_X10_isDuke_4 : dkM m_X10_isDuke 4 [(.iload_n 0, 1, 0, 0, none, 0), (.iconst 2, 1, 0, 0, none, 2), (.if_icmp .ge 7, 3, 13, 9, none, 0)] 9 = true := by decide +kernel
theorem b_X10_isDuke_9 : dkM m_X10_isDuke 9 [(.iconst 1, 1, 0, 0, none, 1), (.goto 4, 3, 14, 0, none, 0)] 13 = true := by decide +kernel
theorem b_X10_isDuke_13 : dkM m_X10_isDuke 13 [(.iconst 0, 1, 0, 0, none, 0)] 14 = true := by decide +kernel
theorem b_X10_isDuke_14 : dkM m_X10_isDuke 14 [(.ireturn, 1, 1, 0, none, 0)] 15 = true := by decide +kernel
theorem b_X10_rateTroop_0 : dkM m_X10_rateTroop 0 [(.aload_n 0, 1, 0, 0, none, 0), (.dup, 1, 0, 0, none, 0), (.getfield 44, 3, 8, 5, some none, 0), (.lconst 1, 1, 1, 0, none, 0), (.ladd, 1, 0, 0, none, 0), (.putfield 44, 3, 8, 5, some none, 0), (.aload_n 0, 1, 0, 0, none, 0), (.getfield 19, 3, 8, 1, some (some 3), 0), (.getfield 85, 3, 4, 2, some (some 2), 0), (.getfield 99, 3, 1, 3, some (some 3), 0), (.iload_n 1, 1, 1, 0, none, 0), (.iaload, 1, 0, 0, none, 0), (.ireturn, 1, 0, 0, none, 0)] 23 = true := by decide +kernel
theorem b_X10_rateArchers_0 : dkM m_X10_rateArchers 0 [(.aload_n 0, 1, 0, 0, none, 0), (.dup, 1, 0, 0, none, 0), (.getfield 44, 3, 8, 5, some none, 0), (.ldc2_w 247, 3, 10, 0, none, 0), (.ladd, 1, 0, 0, none, 0), (.putfield 44, 3, 8, 5, some none, 0), (.aload_n 0, 1, 0, 0, none, 0), (.iload_n 1, 1, 1, 0, none, 0)] 14 = true := by decide +kernel
theorem b_X10_rateArchers_17 : dkM m_X10_rateArchers 17 [(.aload_n 0, 1, 0, 0, none, 0), (.getfield 19, 3, 8, 1, some (some 3), 0), (.getfield 85, 3, 4, 2, some (some 2), 0), (.getfield 96, 3, 1, 2, some (some 2), 0), (.iload_n 1, 1, 1, 0, none, 0), (.iaload, 1, 0, 0, none, 0), (.iadd, 1, 0, 0, none, 0), (.ireturn, 1, 0, 0, none, 0)] 31 = true := by decide +kernel
theorem k_X10_rateArchers_14 : cvB m_X10_rateArchers m_X10_rateTroop 14 215 8 1 690 59 687 689 14 = true := by decide +kernel
theorem b_X10_rateSiege_0 : dkM m_X10_rateSiege 0 [(.aload_n 0, 1, 0, 0, none, 0), (.dup, 1, 0, 0, none, 0), (.getfield 44, 3, 8, 5, some none, 0), (.ldc2_w 249, 3, 100, 0, none, 0), (.ladd, 1, 0, 0, none, 0), (.putfield 44, 3, 8, 5, some none, 0), (.aload_n 0, 1, 0, 0, none, 0), (.iload_n 1, 1, 1, 0, none, 0)] 14 = true := by decide +kernel
theorem b_X10_rateSiege_17 : dkM m_X10_rateSiege 17 [(.aload_n 0, 1, 0, 0, none, 0), (.getfield 12, 3, 8, 0, some (some 1), 0), (.aload_n 0, 1, 0, 0, none, 0), (.getfield 19, 3, 8, 1, some (some 3), 0), (.getfield 85, 3, 4, 2, some (some 2), 0), (.getfield 96, 3, 1, 2, some (some 2), 0), (.iload_n 1, 1, 1, 0, none, 0), (.iaload, 1, 0, 0, none, 0)] 33 = true := by decide +kernel
theorem b_X10_rateSiege_39 : dkM m_X10_rateSiege 39 [(.isub, 1, 0, 0, none, 0), (.ireturn, 1, 0, 0, none, 0)] 41 = true := by decide +kernel
theorem k_X10_rateSiege_14 : cvB m_X10_rateSiege m_X10_rateTroop 14 215 8 1 690 59 687 689 14 = true := by decide +kernel
theorem k_X10_rateSiege_33 : cvB m_X10_rateSiege m_X3_waysFrom 33 81 3 1 440 60 437 438 439 = true := by decide +kernel
theorem k_X10_rateSiege_36 : csB m_X10_rateSiege m_J_bitCount 36 207 1 578 73 670 577 = true := by decide +kernel
theorem b_X10_rateMarginalArchers_0 : dkM m_X10_rateMarginalArchers 0 [(.aload_n 0, 1, 0, 0, none, 0), (.dup, 1, 0, 0, none, 0), (.getfield 44, 3, 8, 5, some none, 0), (.ldc2_w 251, 3, 1000, 0, none, 0), (.ladd, 1, 0, 0, none, 0), (.putfield 44, 3, 8, 5, some none, 0), (.iconst 2, 1, 0, 0, none, 2), (.aload_n 0, 1, 0, 0, none, 0), (.iload_n 1, 1, 1, 0, none, 0)] 15 = true := by decide +kernel
theorem b_X10_rateMarginalArchers_18 : dkM m_X10_rateMarginalArchers 18 [(.imul, 1, 0, 0, none, 0), (.ireturn, 1, 0, 0, none, 0)] 20 = true := by decide +kernel
theorem k_X10_rateMarginalArchers_15 : cvB m_X10_rateMarginalArchers m_X10_rateArchers 15 218 8 1 694 59 691 693 15 = true := by decide +kernel
theorem b_X10_rateBaggage_0 : dkM m_X10_rateBaggage 0 [(.aload_n 0, 1, 0, 0, none, 0), (.dup, 1, 0, 0, none, 0), (.getfield 44, 3, 8, 5, some none, 0), (.ldc2_w 253, 3, 10000, 0, none, 0), (.ladd, 1, 0, 0, none, 0), (.putfield 44, 3, 8, 5, some none, 0), (.aload_n 0, 1, 0, 0, none, 0), (.iload_n 1, 1, 1, 0, none, 0)] 14 = true := by decide +kernel
theorem b_X10_rateBaggage_17 : dkM m_X10_rateBaggage 17 [(.iload_n 1, 1, 1, 0, none, 0), (.iadd, 1, 0, 0, none, 0), (.ireturn, 1, 0, 0, none, 0)] 20 = true := by decide +kernel
theorem k_X10_rateBaggage_14 : cvB m_X10_rateBaggage m_X10_rateSiege 14 221 8 1 699 59 696 698 16 = true := by decide +kernel
theorem b_X10_rateMarshal_0 : dkM m_X10_rateMarshal 0 [(.aload_n 0, 1, 0, 0, none, 0), (.dup, 1, 0, 0, none, 0), (.getfield 44, 3, 8, 5, some none, 0), (.ldc2_w 255, 3, 100000, 0, none, 0), (.ladd, 1, 0, 0, none, 0), (.putfield 44, 3, 8, 5, some none, 0), (.aload_n 0, 1, 0, 0, none, 0), (.iload_n 1, 1, 1, 0, none, 0)] 14 = true := by decide +kernel
theorem b_X10_rateMarshal_17 : dkM m_X10_rateMarshal 17 [(.aload_n 0, 1, 0, 0, none, 0), (.getfield 19, 3, 8, 1, some (some 3), 0), (.getfield 122, 3, 4, 0, none, 0), (.iadd, 1, 0, 0, none, 0), (.ireturn, 1, 0, 0, none, 0)] 26 = true := by decide +kernel
theorem k_X10_rateMarshal_14 : cvB m_X10_rateMarshal m_X10_rateTroop 14 215 8 1 690 59 687 689 14 = true := by decide +kernel
theorem b_J_bitCount_0 : dkM m_J_bitCount 0 [(.iload_n 0, 1, 0, 0, none, 0), (.iload_n 0, 1, 0, 0, none, 0), (.iconst 1, 1, 0, 0, none, 1), (.iushr, 1, 0, 0, none, 0), (.ldc_w 265, 3, 0, 0, none, 1431655765), (.iand, 1, 0, 0, none, 0), (.isub, 1, 0, 0, none, 0), (.istore_n 0, 1, 0, 0, none, 0), (.iload_n 0, 1, 0, 0, none, 0), (.ldc_w 266, 3, 0, 0, none, 858993459), (.iand, 1, 0, 0, none, 0), (.iload_n 0, 1, 0, 0, none, 0), (.iconst 2, 1, 0, 0, none, 2), (.iushr, 1, 0, 0, none, 0), (.ldc_w 266, 3, 0, 0, none, 858993459), (.iand, 1, 0, 0, none, 0), (.iadd, 1, 0, 0, none, 0), (.istore_n 0, 1, 0, 0, none, 0), (.iload_n 0, 1, 0, 0, none, 0), (.iload_n 0, 1, 0, 0, none, 0), (.iconst 4, 1, 0, 0, none, 4), (.iushr, 1, 0, 0, none, 0), (.iadd, 1, 0, 0, none, 0), (.ldc_w 267, 3, 0, 0, none, 252645135), (.iand, 1, 0, 0, none, 0), (.istore_n 0, 1, 0, 0, none, 0), (.iload_n 0, 1, 0, 0, none, 0), (.iload_n 0, 1, 0, 0, none, 0), (.bipush 8, 2, 0, 0, none, 8), (.iushr, 1, 0, 0, none, 0), (.iadd, 1, 0, 0, none, 0), (.istore_n 0, 1, 0, 0, none, 0), (.iload_n 0, 1, 0, 0, none, 0), (.iload_n 0, 1, 0, 0, none, 0), (.bipush 16, 2, 0, 0, none, 16), (.iushr, 1, 0, 0, none, 0), (.iadd, 1, 0, 0, none, 0), (.istore_n 0, 1, 0, 0, none, 0), (.iload_n 0, 1, 0, 0, none, 0), (.bipush 63, 2, 0, 0, none, 63), (.iand, 1, 0, 0, none, 0), (.ireturn, 1, 0, 0, none, 0)] 53 = true := by decide +kernel
theorem b_J_min_0 : dkM m_J_min 0 [(.iload_n 0, 1, 0, 0, none, 0), (.iload_n 1, 1, 1, 0, none, 0), (.if_icmp .gt 7, 3, 9, 5, none, 0)] 5 = true := by decide +kernel
theorem b_J_min_5 : dkM m_J_min 5 [(.iload_n 0, 1, 0, 0, none, 0), (.goto 4, 3, 10, 0, none, 0)] 9 = true := by decide +kernel
theorem b_J_min_9 : dkM m_J_min 9 [(.iload_n 1, 1, 1, 0, none, 0)] 10 = true := by decide +kernel
theorem b_J_min_10 : dkM m_J_min 10 [(.ireturn, 1, 0, 0, none, 0)] 11 = true := by decide +kernel
theorem b_J_fill_0 : dkM m_J_fill 0 [(.iconst 0, 1, 0, 0, none, 0), (.istore_n 2, 1, 2, 0, none, 0), (.aload_n 0, 1, 0, 0, none, 0), (.arraylength, 1, 0, 0, none, 0), (.istore_n 3, 1, 3, 0, none, 0)] 5 = true := by decide +kernel
theorem b_J_fill_5 : dkM m_J_fill 5 [(.iload_n 2, 1, 2, 0, none, 0), (.iload_n 3, 1, 3, 0, none, 0), (.if_icmp .ge 13, 3, 20, 10, none, 0)] 10 = true := by decide +kernel
theorem b_J_fill_10 : dkM m_J_fill 10 [(.aload_n 0, 1, 0, 0, none, 0), (.iload_n 2, 1, 2, 0, none, 0), (.iload_n 1, 1, 1, 0, none, 0), (.iastore, 1, 0, 0, none, 0), (.iinc 2 1, 3, 2, 0, none, 1), (.goto (-12), 3, 5, 0, none, 0)] 20 = true := by decide +kernel
theorem b_J_fill_20 : dkM m_J_fill 20 [(.return_, 1, 0, 0, none, 0)] 21 = true := by decide +kernel
