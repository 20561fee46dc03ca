/-! the tables of the abstract machine, by program: methods, field links, constants, places -/
def am_N (y : Nat) : MethodName := (bif Nat.blt y 47 then (bif Nat.blt y 23 then (bif Nat.blt y 11 then (bif Nat.blt y 5 then (bif Nat.blt y 2 then (bif Nat.blt y 1 then yX0_run else yX0_beginCall) else (bif Nat.blt y 3 then yX0_whyNot else (bif Nat.blt y 4 then yX0_goingOn else yX0_endCalls))) else (bif Nat.blt y 8 then (bif Nat.blt y 6 then yX1_measure else (bif Nat.blt y 7 then yX1_layTube else yX1_goBy)) else (bif Nat.blt y 9 then yX1_carried else (bif Nat.blt y 10 then yX1_sum else yX1_sumWith)))) else (bif Nat.blt y 17 then (bif Nat.blt y 14 then (bif Nat.blt y 12 then yX1_lacksOneOf else (bif Nat.blt y 13 then yX2_read else yX2_beyond)) else (bif Nat.blt y 15 then yX2_ofKind else (bif Nat.blt y 16 then yX3_beginTries else yX3_addWaiting))) else (bif Nat.blt y 20 then (bif Nat.blt y 18 then yX4_gather else (bif Nat.blt y 19 then yX4_seek else yX4_callAt)) else (bif Nat.blt y 21 then yX4_orderEnd else (bif Nat.blt y 22 then yX4_span else yX4_firstFree))))) else (bif Nat.blt y 35 then (bif Nat.blt y 29 then (bif Nat.blt y 26 then (bif Nat.blt y 24 then yX4_busyMinutes else (bif Nat.blt y 25 then yX4_minutesOf else yX4_nextOrder)) else (bif Nat.blt y 27 then yX4_swap else (bif Nat.blt y 28 then yX5_add else yX5_empty))) else (bif Nat.blt y 32 then (bif Nat.blt y 30 then yX5_signAt else (bif Nat.blt y 31 then yX5_roomAt else yX5_otherRoomAt)) else (bif Nat.blt y 33 then yX5_digitAt else (bif Nat.blt y 34 then yX5_kindAt else yX5_roomOf)))) else (bif Nat.blt y 41 then (bif Nat.blt y 38 then (bif Nat.blt y 36 then yX5_numberOf else (bif Nat.blt y 37 then yX5_houseFault else yX5_dayFault)) else (bif Nat.blt y 39 then yX6_find else (bif Nat.blt y 40 then yX6_aim else yX6_bringsNearer))) else (bif Nat.blt y 44 then (bif Nat.blt y 42 then yX6_stepOf else (bif Nat.blt y 43 then yX6_walk else yX6_nextTube)) else (bif Nat.blt y 45 then yX6_loudness else (bif Nat.blt y 46 then yX6_hearers else yX7_gather)))))) else (bif Nat.blt y 70 then (bif Nat.blt y 58 then (bif Nat.blt y 52 then (bif Nat.blt y 49 then (bif Nat.blt y 48 then yX7_takeAsTheyCome else yX7_takeByNumbers) else (bif Nat.blt y 50 then yX7_leastLocked else (bif Nat.blt y 51 then yX7_leastFrom else yX8_gather))) else (bif Nat.blt y 55 then (bif Nat.blt y 53 then yX8_nextTry else (bif Nat.blt y 54 then yX8_largerPart else yX8_fewestTries)) else (bif Nat.blt y 56 then yX8_gatherParts else (bif Nat.blt y 57 then yX8_hasPart else yX8_allCanBeParted)))) else (bif Nat.blt y 64 then (bif Nat.blt y 61 then (bif Nat.blt y 59 then yX8_layBounds else (bif Nat.blt y 60 then yX8_fewestOf else yX9_say)) else (bif Nat.blt y 62 then yX9_wipe else (bif Nat.blt y 63 then yX9_fault else yX9_house))) else (bif Nat.blt y 67 then (bif Nat.blt y 65 then yX9_set else (bif Nat.blt y 66 then yX9_way else yX9_loud)) else (bif Nat.blt y 68 then yX9_heard else (bif Nat.blt y 69 then yX9_judge else yX9_day))))) else (bif Nat.blt y 82 then (bif Nat.blt y 76 then (bif Nat.blt y 73 then (bif Nat.blt y 71 then yX9_know else (bif Nat.blt y 72 then yX9_knows else yX9_call)) else (bif Nat.blt y 74 then yX9_clear else (bif Nat.blt y 75 then yX9_soonest else yX9_byDue))) else (bif Nat.blt y 79 then (bif Nat.blt y 77 then yX9_locked else (bif Nat.blt y 78 then yX9_tried else yX9_stopped)) else (bif Nat.blt y 80 then yX9_far else (bif Nat.blt y 81 then yX9_further else yX9_bridges)))) else (bif Nat.blt y 88 then (bif Nat.blt y 85 then (bif Nat.blt y 83 then yX9_told else (bif Nat.blt y 84 then yX9_within else yX9_isRoom)) else (bif Nat.blt y 86 then yX9_twoRooms else (bif Nat.blt y 87 then yX9_takenOf else yJ6_bitCount_0f7a4))) else (bif Nat.blt y 91 then (bif Nat.blt y 89 then yJ7_fill_031fb else (bif Nat.blt y 90 then yL_cell else yL_sign)) else (bif Nat.blt y 92 then yL_house else (bif Nat.blt y 93 then yL_leads else yL_law)))))))
def am_B (y : Nat) : ByteArray := (bif Nat.blt y 47 then (bif Nat.blt y 23 then (bif Nat.blt y 11 then (bif Nat.blt y 5 then (bif Nat.blt y 2 then (bif Nat.blt y 1 then cX0_run else cX0_beginCall) else (bif Nat.blt y 3 then cX0_whyNot else (bif Nat.blt y 4 then cX0_goingOn else cX0_endCalls))) else (bif Nat.blt y 8 then (bif Nat.blt y 6 then cX1_measure else (bif Nat.blt y 7 then cX1_layTube else cX1_goBy)) else (bif Nat.blt y 9 then cX1_carried else (bif Nat.blt y 10 then cX1_sum else cX1_sumWith)))) else (bif Nat.blt y 17 then (bif Nat.blt y 14 then (bif Nat.blt y 12 then cX1_lacksOneOf else (bif Nat.blt y 13 then cX2_read else cX2_beyond)) else (bif Nat.blt y 15 then cX2_ofKind else (bif Nat.blt y 16 then cX3_beginTries else cX3_addWaiting))) else (bif Nat.blt y 20 then (bif Nat.blt y 18 then cX4_gather else (bif Nat.blt y 19 then cX4_seek else cX4_callAt)) else (bif Nat.blt y 21 then cX4_orderEnd else (bif Nat.blt y 22 then cX4_span else cX4_firstFree))))) else (bif Nat.blt y 35 then (bif Nat.blt y 29 then (bif Nat.blt y 26 then (bif Nat.blt y 24 then cX4_busyMinutes else (bif Nat.blt y 25 then cX4_minutesOf else cX4_nextOrder)) else (bif Nat.blt y 27 then cX4_swap else (bif Nat.blt y 28 then cX5_add else cX5_empty))) else (bif Nat.blt y 32 then (bif Nat.blt y 30 then cX5_signAt else (bif Nat.blt y 31 then cX5_roomAt else cX5_otherRoomAt)) else (bif Nat.blt y 33 then cX5_digitAt else (bif Nat.blt y 34 then cX5_kindAt else cX5_roomOf)))) else (bif Nat.blt y 41 then (bif Nat.blt y 38 then (bif Nat.blt y 36 then cX5_numberOf else (bif Nat.blt y 37 then cX5_houseFault else cX5_dayFault)) else (bif Nat.blt y 39 then cX6_find else (bif Nat.blt y 40 then cX6_aim else cX6_bringsNearer))) else (bif Nat.blt y 44 then (bif Nat.blt y 42 then cX6_stepOf else (bif Nat.blt y 43 then cX6_walk else cX6_nextTube)) else (bif Nat.blt y 45 then cX6_loudness else (bif Nat.blt y 46 then cX6_hearers else cX7_gather)))))) else (bif Nat.blt y 70 then (bif Nat.blt y 58 then (bif Nat.blt y 52 then (bif Nat.blt y 49 then (bif Nat.blt y 48 then cX7_takeAsTheyCome else cX7_takeByNumbers) else (bif Nat.blt y 50 then cX7_leastLocked else (bif Nat.blt y 51 then cX7_leastFrom else cX8_gather))) else (bif Nat.blt y 55 then (bif Nat.blt y 53 then cX8_nextTry else (bif Nat.blt y 54 then cX8_largerPart else cX8_fewestTries)) else (bif Nat.blt y 56 then cX8_gatherParts else (bif Nat.blt y 57 then cX8_hasPart else cX8_allCanBeParted)))) else (bif Nat.blt y 64 then (bif Nat.blt y 61 then (bif Nat.blt y 59 then cX8_layBounds else (bif Nat.blt y 60 then cX8_fewestOf else cX9_say)) else (bif Nat.blt y 62 then cX9_wipe else (bif Nat.blt y 63 then cX9_fault else cX9_house))) else (bif Nat.blt y 67 then (bif Nat.blt y 65 then cX9_set else (bif Nat.blt y 66 then cX9_way else cX9_loud)) else (bif Nat.blt y 68 then cX9_heard else (bif Nat.blt y 69 then cX9_judge else cX9_day))))) else (bif Nat.blt y 82 then (bif Nat.blt y 76 then (bif Nat.blt y 73 then (bif Nat.blt y 71 then cX9_know else (bif Nat.blt y 72 then cX9_knows else cX9_call)) else (bif Nat.blt y 74 then cX9_clear else (bif Nat.blt y 75 then cX9_soonest else cX9_byDue))) else (bif Nat.blt y 79 then (bif Nat.blt y 77 then cX9_locked else (bif Nat.blt y 78 then cX9_tried else cX9_stopped)) else (bif Nat.blt y 80 then cX9_far else (bif Nat.blt y 81 then cX9_further else cX9_bridges)))) else (bif Nat.blt y 88 then (bif Nat.blt y 85 then (bif Nat.blt y 83 then cX9_told else (bif Nat.blt y 84 then cX9_within else cX9_isRoom)) else (bif Nat.blt y 86 then cX9_twoRooms else (bif Nat.blt y 87 then cX9_takenOf else cJ6_bitCount_0f7a4))) else (bif Nat.blt y 91 then (bif Nat.blt y 89 then cJ7_fill_031fb else (bif Nat.blt y 90 then cL_cell else cL_sign)) else (bif Nat.blt y 92 then cL_house else (bif Nat.blt y 93 then cL_leads else cL_law)))))))
def am_X (y : Nat) : Nat := (bif Nat.blt y 47 then (bif Nat.blt y 23 then (bif Nat.blt y 11 then (bif Nat.blt y 5 then (bif Nat.blt y 2 then (bif Nat.blt y 1 then 9 else 6) else (bif Nat.blt y 3 then 9 else (bif Nat.blt y 4 then 3 else 3))) else (bif Nat.blt y 8 then (bif Nat.blt y 6 then 4 else (bif Nat.blt y 7 then 5 else 5)) else (bif Nat.blt y 9 then 2 else (bif Nat.blt y 10 then 6 else 13)))) else (bif Nat.blt y 17 then (bif Nat.blt y 14 then (bif Nat.blt y 12 then 3 else (bif Nat.blt y 13 then 3 else 3)) else (bif Nat.blt y 15 then 4 else (bif Nat.blt y 16 then 1 else 5))) else (bif Nat.blt y 20 then (bif Nat.blt y 18 then 4 else (bif Nat.blt y 19 then 5 else 2)) else (bif Nat.blt y 21 then 7 else (bif Nat.blt y 22 then 2 else 4))))) else (bif Nat.blt y 35 then (bif Nat.blt y 29 then (bif Nat.blt y 26 then (bif Nat.blt y 24 then 8 else (bif Nat.blt y 25 then 6 else 5)) else (bif Nat.blt y 27 then 4 else (bif Nat.blt y 28 then 2 else 2))) else (bif Nat.blt y 32 then (bif Nat.blt y 30 then 2 else (bif Nat.blt y 31 then 2 else 3)) else (bif Nat.blt y 33 then 2 else (bif Nat.blt y 34 then 3 else 2)))) else (bif Nat.blt y 41 then (bif Nat.blt y 38 then (bif Nat.blt y 36 then 2 else (bif Nat.blt y 37 then 3 else 4)) else (bif Nat.blt y 39 then 5 else (bif Nat.blt y 40 then 7 else 7))) else (bif Nat.blt y 44 then (bif Nat.blt y 42 then 2 else (bif Nat.blt y 43 then 8 else 6)) else (bif Nat.blt y 45 then 5 else (bif Nat.blt y 46 then 5 else 6)))))) else (bif Nat.blt y 70 then (bif Nat.blt y 58 then (bif Nat.blt y 52 then (bif Nat.blt y 49 then (bif Nat.blt y 48 then 3 else 4) else (bif Nat.blt y 50 then 1 else (bif Nat.blt y 51 then 10 else 5))) else (bif Nat.blt y 55 then (bif Nat.blt y 53 then 7 else (bif Nat.blt y 54 then 2 else 2)) else (bif Nat.blt y 56 then 9 else (bif Nat.blt y 57 then 4 else 5)))) else (bif Nat.blt y 64 then (bif Nat.blt y 61 then (bif Nat.blt y 59 then 5 else (bif Nat.blt y 60 then 8 else 2)) else (bif Nat.blt y 62 then 1 else (bif Nat.blt y 63 then 2 else 1))) else (bif Nat.blt y 67 then (bif Nat.blt y 65 then 4 else (bif Nat.blt y 66 then 4 else 4)) else (bif Nat.blt y 68 then 3 else (bif Nat.blt y 69 then 2 else 2))))) else (bif Nat.blt y 82 then (bif Nat.blt y 76 then (bif Nat.blt y 73 then (bif Nat.blt y 71 then 4 else (bif Nat.blt y 72 then 3 else 5)) else (bif Nat.blt y 74 then 2 else (bif Nat.blt y 75 then 2 else 2))) else (bif Nat.blt y 79 then (bif Nat.blt y 77 then 4 else (bif Nat.blt y 78 then 4 else 2)) else (bif Nat.blt y 80 then 3 else (bif Nat.blt y 81 then 8 else 3)))) else (bif Nat.blt y 88 then (bif Nat.blt y 85 then (bif Nat.blt y 83 then 2 else (bif Nat.blt y 84 then 3 else 1)) else (bif Nat.blt y 86 then 2 else (bif Nat.blt y 87 then 3 else 1))) else (bif Nat.blt y 91 then (bif Nat.blt y 89 then 4 else (bif Nat.blt y 90 then 3 else 1)) else (bif Nat.blt y 92 then 10 else (bif Nat.blt y 93 then 4 else 21)))))))
def am_R (y : Nat) : Option FieldType := (bif Nat.blt y 47 then (bif Nat.blt y 23 then (bif Nat.blt y 11 then (bif Nat.blt y 5 then (bif Nat.blt y 2 then (bif Nat.blt y 1 then none else none) else (bif Nat.blt y 3 then (some .int) else (bif Nat.blt y 4 then (some .int) else none))) else (bif Nat.blt y 8 then (bif Nat.blt y 6 then none else (bif Nat.blt y 7 then none else none)) else (bif Nat.blt y 9 then (some .int) else (bif Nat.blt y 10 then (some .int) else (some .int))))) else (bif Nat.blt y 17 then (bif Nat.blt y 14 then (bif Nat.blt y 12 then (some .boolean) else (bif Nat.blt y 13 then none else (some .int))) else (bif Nat.blt y 15 then (some .int) else (bif Nat.blt y 16 then none else (some .boolean)))) else (bif Nat.blt y 20 then (bif Nat.blt y 18 then (some .boolean) else (bif Nat.blt y 19 then none else (some .int))) else (bif Nat.blt y 21 then (some .int) else (bif Nat.blt y 22 then (some .long) else (some .int)))))) else (bif Nat.blt y 35 then (bif Nat.blt y 29 then (bif Nat.blt y 26 then (bif Nat.blt y 24 then (some .long) else (bif Nat.blt y 25 then (some .long) else (some .boolean))) else (bif Nat.blt y 27 then none else (bif Nat.blt y 28 then (some .boolean) else (some .int)))) else (bif Nat.blt y 32 then (bif Nat.blt y 30 then (some .int) else (bif Nat.blt y 31 then (some .boolean) else (some .boolean))) else (bif Nat.blt y 33 then (some .boolean) else (bif Nat.blt y 34 then (some .boolean) else (some .int))))) else (bif Nat.blt y 41 then (bif Nat.blt y 38 then (bif Nat.blt y 36 then (some .int) else (bif Nat.blt y 37 then (some .int) else (some .int))) else (bif Nat.blt y 39 then (some .boolean) else (bif Nat.blt y 40 then none else (some .boolean)))) else (bif Nat.blt y 44 then (bif Nat.blt y 42 then (some .int) else (bif Nat.blt y 43 then (some .boolean) else (some .int))) else (bif Nat.blt y 45 then (some .int) else (bif Nat.blt y 46 then (some .int) else (some .boolean))))))) else (bif Nat.blt y 70 then (bif Nat.blt y 58 then (bif Nat.blt y 52 then (bif Nat.blt y 49 then (bif Nat.blt y 48 then none else none) else (bif Nat.blt y 50 then (some .int) else (bif Nat.blt y 51 then (some .int) else none))) else (bif Nat.blt y 55 then (bif Nat.blt y 53 then (some .int) else (bif Nat.blt y 54 then (some .int) else (some .int))) else (bif Nat.blt y 56 then none else (bif Nat.blt y 57 then (some .boolean) else (some .boolean))))) else (bif Nat.blt y 64 then (bif Nat.blt y 61 then (bif Nat.blt y 59 then none else (bif Nat.blt y 60 then (some .int) else (some .int))) else (bif Nat.blt y 62 then (some .int) else (bif Nat.blt y 63 then (some .int) else (some .int)))) else (bif Nat.blt y 67 then (bif Nat.blt y 65 then (some .int) else (bif Nat.blt y 66 then (some .int) else (some .int))) else (bif Nat.blt y 68 then (some .int) else (bif Nat.blt y 69 then (some .int) else (some .int)))))) else (bif Nat.blt y 82 then (bif Nat.blt y 76 then (bif Nat.blt y 73 then (bif Nat.blt y 71 then (some .int) else (bif Nat.blt y 72 then (some .int) else (some .int))) else (bif Nat.blt y 74 then (some .int) else (bif Nat.blt y 75 then (some .int) else (some .int)))) else (bif Nat.blt y 79 then (bif Nat.blt y 77 then (some .int) else (bif Nat.blt y 78 then (some .int) else (some .int))) else (bif Nat.blt y 80 then (some .int) else (bif Nat.blt y 81 then (some .int) else (some .int))))) else (bif Nat.blt y 88 then (bif Nat.blt y 85 then (bif Nat.blt y 83 then (some .int) else (bif Nat.blt y 84 then (some .boolean) else (some .boolean))) else (bif Nat.blt y 86 then (some .boolean) else (bif Nat.blt y 87 then (some .int) else (some .int)))) else (bif Nat.blt y 91 then (bif Nat.blt y 89 then none else (bif Nat.blt y 90 then (some .int) else (some .int))) else (bif Nat.blt y 92 then (some .int) else (bif Nat.blt y 93 then (some .int) else (some .boolean))))))))
def am_O (y : Nat) : Nat := (bif Nat.blt y 47 then (bif Nat.blt y 23 then (bif Nat.blt y 11 then (bif Nat.blt y 5 then (bif Nat.blt y 2 then (bif Nat.blt y 1 then 0 else 0) else (bif Nat.blt y 3 then 0 else (bif Nat.blt y 4 then 0 else 0))) else (bif Nat.blt y 8 then (bif Nat.blt y 6 then 1 else (bif Nat.blt y 7 then 1 else 1)) else (bif Nat.blt y 9 then 1 else (bif Nat.blt y 10 then 1 else 1)))) else (bif Nat.blt y 17 then (bif Nat.blt y 14 then (bif Nat.blt y 12 then 1 else (bif Nat.blt y 13 then 2 else 2)) else (bif Nat.blt y 15 then 2 else (bif Nat.blt y 16 then 3 else 3))) else (bif Nat.blt y 20 then (bif Nat.blt y 18 then 4 else (bif Nat.blt y 19 then 4 else 4)) else (bif Nat.blt y 21 then 4 else (bif Nat.blt y 22 then 4 else 4))))) else (bif Nat.blt y 35 then (bif Nat.blt y 29 then (bif Nat.blt y 26 then (bif Nat.blt y 24 then 4 else (bif Nat.blt y 25 then 4 else 4)) else (bif Nat.blt y 27 then 4 else (bif Nat.blt y 28 then 5 else 5))) else (bif Nat.blt y 32 then (bif Nat.blt y 30 then 5 else (bif Nat.blt y 31 then 5 else 5)) else (bif Nat.blt y 33 then 5 else (bif Nat.blt y 34 then 5 else 5)))) else (bif Nat.blt y 41 then (bif Nat.blt y 38 then (bif Nat.blt y 36 then 5 else (bif Nat.blt y 37 then 5 else 5)) else (bif Nat.blt y 39 then 6 else (bif Nat.blt y 40 then 6 else 6))) else (bif Nat.blt y 44 then (bif Nat.blt y 42 then 6 else (bif Nat.blt y 43 then 6 else 6)) else (bif Nat.blt y 45 then 6 else (bif Nat.blt y 46 then 6 else 7)))))) else (bif Nat.blt y 70 then (bif Nat.blt y 58 then (bif Nat.blt y 52 then (bif Nat.blt y 49 then (bif Nat.blt y 48 then 7 else 7) else (bif Nat.blt y 50 then 7 else (bif Nat.blt y 51 then 7 else 8))) else (bif Nat.blt y 55 then (bif Nat.blt y 53 then 8 else (bif Nat.blt y 54 then 8 else 8)) else (bif Nat.blt y 56 then 8 else (bif Nat.blt y 57 then 8 else 8)))) else (bif Nat.blt y 64 then (bif Nat.blt y 61 then (bif Nat.blt y 59 then 8 else (bif Nat.blt y 60 then 8 else 9)) else (bif Nat.blt y 62 then 9 else (bif Nat.blt y 63 then 9 else 9))) else (bif Nat.blt y 67 then (bif Nat.blt y 65 then 9 else (bif Nat.blt y 66 then 9 else 9)) else (bif Nat.blt y 68 then 9 else (bif Nat.blt y 69 then 9 else 9))))) else (bif Nat.blt y 82 then (bif Nat.blt y 76 then (bif Nat.blt y 73 then (bif Nat.blt y 71 then 9 else (bif Nat.blt y 72 then 9 else 9)) else (bif Nat.blt y 74 then 9 else (bif Nat.blt y 75 then 9 else 9))) else (bif Nat.blt y 79 then (bif Nat.blt y 77 then 9 else (bif Nat.blt y 78 then 9 else 9)) else (bif Nat.blt y 80 then 9 else (bif Nat.blt y 81 then 9 else 9)))) else (bif Nat.blt y 88 then (bif Nat.blt y 85 then (bif Nat.blt y 83 then 9 else (bif Nat.blt y 84 then 9 else 9)) else (bif Nat.blt y 86 then 9 else (bif Nat.blt y 87 then 9 else 11))) else (bif Nat.blt y 91 then (bif Nat.blt y 89 then 12 else (bif Nat.blt y 90 then 13 else 13)) else (bif Nat.blt y 92 then 13 else (bif Nat.blt y 93 then 13 else 13)))))))
def am_P (y : Nat) : Nat := (bif Nat.blt y 47 then (bif Nat.blt y 23 then (bif Nat.blt y 11 then (bif Nat.blt y 5 then (bif Nat.blt y 2 then (bif Nat.blt y 1 then 4 else 5) else (bif Nat.blt y 3 then 4 else (bif Nat.blt y 4 then 0 else 0))) else (bif Nat.blt y 8 then (bif Nat.blt y 6 then 2 else (bif Nat.blt y 7 then 2 else 1)) else (bif Nat.blt y 9 then 2 else (bif Nat.blt y 10 then 0 else 4)))) else (bif Nat.blt y 17 then (bif Nat.blt y 14 then (bif Nat.blt y 12 then 1 else (bif Nat.blt y 13 then 1 else 2)) else (bif Nat.blt y 15 then 1 else (bif Nat.blt y 16 then 0 else 4))) else (bif Nat.blt y 20 then (bif Nat.blt y 18 then 2 else (bif Nat.blt y 19 then 1 else 1)) else (bif Nat.blt y 21 then 1 else (bif Nat.blt y 22 then 2 else 2))))) else (bif Nat.blt y 35 then (bif Nat.blt y 29 then (bif Nat.blt y 26 then (bif Nat.blt y 24 then 1 else (bif Nat.blt y 25 then 2 else 0)) else (bif Nat.blt y 27 then 2 else (bif Nat.blt y 28 then 1 else 0))) else (bif Nat.blt y 32 then (bif Nat.blt y 30 then 1 else (bif Nat.blt y 31 then 1 else 2)) else (bif Nat.blt y 33 then 1 else (bif Nat.blt y 34 then 1 else 1)))) else (bif Nat.blt y 41 then (bif Nat.blt y 38 then (bif Nat.blt y 36 then 1 else (bif Nat.blt y 37 then 0 else 0)) else (bif Nat.blt y 39 then 4 else (bif Nat.blt y 40 then 3 else 2))) else (bif Nat.blt y 44 then (bif Nat.blt y 42 then 2 else (bif Nat.blt y 43 then 4 else 3)) else (bif Nat.blt y 45 then 2 else (bif Nat.blt y 46 then 2 else 4)))))) else (bif Nat.blt y 70 then (bif Nat.blt y 58 then (bif Nat.blt y 52 then (bif Nat.blt y 49 then (bif Nat.blt y 48 then 2 else 2) else (bif Nat.blt y 50 then 0 else (bif Nat.blt y 51 then 6 else 2))) else (bif Nat.blt y 55 then (bif Nat.blt y 53 then 1 else (bif Nat.blt y 54 then 2 else 1)) else (bif Nat.blt y 56 then 1 else (bif Nat.blt y 57 then 2 else 1)))) else (bif Nat.blt y 64 then (bif Nat.blt y 61 then (bif Nat.blt y 59 then 1 else (bif Nat.blt y 60 then 3 else 1)) else (bif Nat.blt y 62 then 0 else (bif Nat.blt y 63 then 1 else 0))) else (bif Nat.blt y 67 then (bif Nat.blt y 65 then 2 else (bif Nat.blt y 66 then 3 else 3)) else (bif Nat.blt y 68 then 2 else (bif Nat.blt y 69 then 1 else 1))))) else (bif Nat.blt y 82 then (bif Nat.blt y 76 then (bif Nat.blt y 73 then (bif Nat.blt y 71 then 2 else (bif Nat.blt y 72 then 2 else 4)) else (bif Nat.blt y 74 then 0 else (bif Nat.blt y 75 then 1 else 1))) else (bif Nat.blt y 79 then (bif Nat.blt y 77 then 2 else (bif Nat.blt y 78 then 3 else 1)) else (bif Nat.blt y 80 then 2 else (bif Nat.blt y 81 then 2 else 0)))) else (bif Nat.blt y 88 then (bif Nat.blt y 85 then (bif Nat.blt y 83 then 1 else (bif Nat.blt y 84 then 3 else 1)) else (bif Nat.blt y 86 then 2 else (bif Nat.blt y 87 then 3 else 1))) else (bif Nat.blt y 91 then (bif Nat.blt y 89 then 2 else (bif Nat.blt y 90 then 3 else 1)) else (bif Nat.blt y 92 then 5 else (bif Nat.blt y 93 then 3 else 1)))))))
def am_C (y : Nat) : String := (bif Nat.blt y 7 then (bif Nat.blt y 3 then (bif Nat.blt y 1 then RX0 else (bif Nat.blt y 2 then RX1 else RX2)) else (bif Nat.blt y 5 then (bif Nat.blt y 4 then RX3 else RX4) else (bif Nat.blt y 6 then RX5 else RX6))) else (bif Nat.blt y 10 then (bif Nat.blt y 8 then RX7 else (bif Nat.blt y 9 then RX8 else RX9)) else (bif Nat.blt y 12 then (bif Nat.blt y 11 then RX10 else RJ6) else (bif Nat.blt y 13 then RJ7 else RL))))
def am_FL : List (Nat × Nat × Nat × Nat × Nat) := [(5, 9, 5, 0, 29), (5, 15, 5, 1, 30), (2, 28, 5, 1, 31), (9, 82, 5, 1, 32), (0, 64, 5, 1, 33), (2, 9, 2, 0, 52), (1, 42, 2, 0, 53), (6, 46, 2, 0, 54), (2, 15, 2, 1, 55), (1, 45, 2, 1, 56), (6, 49, 2, 1, 57), (2, 18, 2, 2, 58), (1, 48, 2, 2, 59), (6, 52, 2, 2, 60), (2, 21, 2, 3, 61), (1, 51, 2, 3, 62), (6, 59, 2, 3, 63), (2, 24, 2, 4, 64), (1, 21, 2, 4, 65), (3, 60, 2, 4, 66), (6, 36, 2, 4, 67), (9, 112, 2, 4, 68), (3, 12, 3, 0, 80), (6, 21, 3, 0, 81), (7, 20, 3, 0, 82), (4, 43, 3, 0, 83), (8, 25, 3, 0, 84), (1, 15, 3, 0, 85), (0, 86, 3, 0, 86), (9, 96, 3, 0, 87), (3, 18, 3, 1, 88), (1, 35, 3, 1, 89), (6, 68, 3, 1, 90), (9, 130, 3, 1, 91), (3, 22, 3, 2, 92), (9, 133, 3, 2, 93), (3, 25, 3, 3, 94), (0, 34, 3, 3, 95), (9, 180, 3, 3, 96), (3, 29, 3, 4, 97), (4, 56, 3, 4, 98), (7, 36, 3, 4, 99), (3, 32, 3, 5, 100), (4, 59, 3, 5, 101), (7, 39, 3, 5, 102), (3, 35, 3, 6, 103), (4, 71, 3, 6, 104), (3, 38, 3, 7, 105), (4, 72, 3, 7, 106), (4, 34, 3, 8, 107), (3, 54, 3, 8, 108), (9, 106, 3, 8, 109), (3, 57, 3, 9, 110), (9, 216, 3, 9, 111), (3, 41, 3, 10, 112), (9, 219, 3, 10, 113), (6, 9, 6, 0, 143), (6, 15, 6, 1, 144), (7, 55, 6, 1, 145), (9, 147, 6, 1, 146), (6, 18, 6, 2, 147), (7, 64, 6, 3, 148), (6, 62, 6, 3, 149), (9, 146, 6, 3, 150), (6, 63, 6, 4, 151), (9, 144, 6, 4, 152), (8, 41, 6, 5, 153), (4, 68, 6, 5, 154), (0, 105, 6, 5, 155), (7, 67, 6, 5, 156), (6, 65, 6, 5, 157), (9, 222, 6, 5, 158), (0, 9, 0, 0, 179), (0, 15, 0, 1, 180), (0, 18, 0, 2, 181), (0, 21, 0, 3, 182), (0, 24, 0, 4, 183), (0, 27, 0, 5, 184), (0, 31, 0, 6, 185), (9, 183, 0, 6, 186), (0, 45, 0, 7, 187), (9, 168, 0, 7, 188), (0, 49, 0, 8, 189), (0, 52, 0, 9, 190), (9, 171, 0, 9, 191), (0, 55, 0, 10, 192), (9, 174, 0, 10, 193), (0, 58, 0, 11, 194), (9, 177, 0, 11, 195), (0, 61, 0, 12, 196), (9, 165, 0, 12, 197), (4, 9, 4, 0, 231), (4, 15, 4, 1, 232), (4, 18, 4, 2, 233), (4, 21, 4, 3, 234), (4, 24, 4, 4, 235), (4, 27, 4, 5, 236), (4, 30, 4, 6, 237), (4, 40, 4, 7, 238), (4, 53, 4, 8, 239), (4, 77, 4, 9, 240), (9, 198, 4, 9, 241), (4, 73, 4, 10, 242), (9, 205, 4, 10, 243), (7, 11, 7, 0, 276), (7, 16, 7, 1, 277), (7, 32, 7, 2, 278), (8, 9, 8, 0, 292), (8, 15, 8, 1, 293), (8, 81, 8, 2, 294), (8, 18, 8, 3, 295), (8, 21, 8, 4, 296), (1, 9, 1, 0, 315), (9, 12, 9, 0, 319), (9, 19, 9, 1, 320), (9, 23, 9, 2, 321), (9, 26, 9, 3, 322), (9, 29, 9, 4, 323), (9, 36, 9, 5, 324), (9, 43, 9, 6, 325), (9, 50, 9, 7, 326), (9, 57, 9, 8, 327), (9, 64, 9, 9, 328), (9, 71, 9, 10, 329), (9, 75, 9, 11, 330)]
def am_CT : List (Nat × Nat × Int × Nat) := [(6, 35, 1048576, 397), (9, 215, 1000000, 603), (11, 265, 1431655765, 611), (11, 266, 858993459, 612), (11, 267, 252645135, 613), (13, 7, 4194303, 709)]
def am_CL : List (Nat × Nat × Nat × Nat) := []
def am_SP : List (Nat × Nat × Nat × Nat) := [(0, 39, 2, 462), (0, 99, 0, 495), (4, 106, 0, 558), (4, 84, 2, 559), (7, 58, 2, 590), (8, 55, 0, 632), (8, 88, 1, 659), (1, 54, 1, 678)]
def am_PF : List (Nat × Nat × Nat) := [(0, 7, 0), (0, 8, 0), (0, 9, 0), (0, 10, 0), (0, 11, 0), (0, 12, 0), (2, 4, 0), (3, 1, 0), (3, 2, 0), (3, 8, 0), (3, 9, 0), (3, 10, 0), (4, 7, 0), (4, 8, 0), (4, 9, 0), (4, 10, 1), (5, 1, 0), (6, 3, 0), (6, 4, 0), (6, 5, 0), (7, 2, 0), (8, 2, 0)]
def am_NP : Nat := 75
def am_tr (k : Nat) : (Nat × List (Option Nat)) ⊕ (Nat × Nat) := (bif Nat.blt k 37 then (bif Nat.blt k 18 then (bif Nat.blt k 9 then (bif Nat.blt k 4 then (bif Nat.blt k 2 then (bif Nat.blt k 1 then (.inl (9, [some 1, some 3, some 14, some 25, some 36, some 37, some 41, some 49, some 57, some 65, some 70, some 72])) else (.inl (5, [some 2, none]))) else (bif Nat.blt k 3 then (.inr (0, 60)) else (.inl (3, [some 4, none, none, some 9, some 10, some 11, some 12, some 13, none, none, none])))) else (bif Nat.blt k 6 then (bif Nat.blt k 5 then (.inl (2, [some 5, some 6, some 7, some 8, none])) else (.inr (0, 12))) else (bif Nat.blt k 7 then (.inr (0, 12)) else (bif Nat.blt k 8 then (.inr (0, 12)) else (.inr (0, 12)))))) else (bif Nat.blt k 13 then (bif Nat.blt k 11 then (bif Nat.blt k 10 then (.inr (0, 8)) else (.inr (0, 5))) else (bif Nat.blt k 12 then (.inr (0, 5)) else (.inr (0, 5)))) else (bif Nat.blt k 15 then (bif Nat.blt k 14 then (.inr (0, 5)) else (.inl (3, [some 15, none, none, some 20, some 21, some 22, some 23, some 24, none, none, none]))) else (bif Nat.blt k 16 then (.inl (2, [some 16, some 17, some 18, some 19, none])) else (bif Nat.blt k 17 then (.inr (0, 12)) else (.inr (0, 12))))))) else (bif Nat.blt k 27 then (bif Nat.blt k 22 then (bif Nat.blt k 20 then (bif Nat.blt k 19 then (.inr (0, 12)) else (.inr (0, 12))) else (bif Nat.blt k 21 then (.inr (0, 8)) else (.inr (0, 5)))) else (bif Nat.blt k 24 then (bif Nat.blt k 23 then (.inr (0, 5)) else (.inr (0, 5))) else (bif Nat.blt k 25 then (.inr (0, 5)) else (bif Nat.blt k 26 then (.inl (3, [some 26, none, none, some 31, some 32, some 33, some 34, some 35, none, none, none])) else (.inl (2, [some 27, some 28, some 29, some 30, none])))))) else (bif Nat.blt k 32 then (bif Nat.blt k 29 then (bif Nat.blt k 28 then (.inr (0, 12)) else (.inr (0, 12))) else (bif Nat.blt k 30 then (.inr (0, 12)) else (bif Nat.blt k 31 then (.inr (0, 12)) else (.inr (0, 8))))) else (bif Nat.blt k 34 then (bif Nat.blt k 33 then (.inr (0, 5)) else (.inr (0, 5))) else (bif Nat.blt k 35 then (.inr (0, 5)) else (bif Nat.blt k 36 then (.inr (0, 5)) else (.inr (1, 2)))))))) else (bif Nat.blt k 56 then (bif Nat.blt k 46 then (bif Nat.blt k 41 then (bif Nat.blt k 39 then (bif Nat.blt k 38 then (.inl (6, [some 38, some 39, some 40, none, none, none])) else (.inr (0, 8))) else (bif Nat.blt k 40 then (.inr (0, 8)) else (.inr (0, 8)))) else (bif Nat.blt k 43 then (bif Nat.blt k 42 then (.inl (0, [some 42, some 43, some 44, some 45, some 46, some 47, some 48, none, none, none, none, none, none])) else (.inr (0, 20))) else (bif Nat.blt k 44 then (.inr (0, 20)) else (bif Nat.blt k 45 then (.inr (0, 20)) else (.inr (0, 20)))))) else (bif Nat.blt k 51 then (bif Nat.blt k 48 then (bif Nat.blt k 47 then (.inr (0, 20)) else (.inr (1, 20))) else (bif Nat.blt k 49 then (.inr (0, 8)) else (bif Nat.blt k 50 then (.inl (4, [some 50, some 51, some 52, some 53, some 54, some 55, some 56, none, none, none, none])) else (.inr (0, 5))))) else (bif Nat.blt k 53 then (bif Nat.blt k 52 then (.inr (0, 5)) else (.inr (0, 5))) else (bif Nat.blt k 54 then (.inr (0, 5)) else (bif Nat.blt k 55 then (.inr (0, 5)) else (.inr (0, 5))))))) else (bif Nat.blt k 65 then (bif Nat.blt k 60 then (bif Nat.blt k 58 then (bif Nat.blt k 57 then (.inr (2, 5)) else (.inl (7, [some 58, some 64, none]))) else (bif Nat.blt k 59 then (.inr (4, 5)) else (.inr (0, 8)))) else (bif Nat.blt k 62 then (bif Nat.blt k 61 then (.inr (0, 8)) else (.inr (0, 8))) else (bif Nat.blt k 63 then (.inr (0, 8)) else (bif Nat.blt k 64 then (.inr (0, 8)) else (.inr (0, 5)))))) else (bif Nat.blt k 70 then (bif Nat.blt k 67 then (bif Nat.blt k 66 then (.inl (8, [some 66, some 67, none, some 68, some 69])) else (.inr (0, 64))) else (bif Nat.blt k 68 then (.inr (0, 64)) else (bif Nat.blt k 69 then (.inr (0, 14)) else (.inr (3, 8192))))) else (bif Nat.blt k 72 then (bif Nat.blt k 71 then (.inl (1, [some 71])) else (.inr (0, 64))) else (bif Nat.blt k 73 then (.inl (1, [some 73])) else (bif Nat.blt k 74 then (.inr (0, 64)) else (.inr (0, 48)))))))))
def am_MT : List (Nat × Nat × Nat × Nat × Nat × Nat) := [(461, 1, 459, 1, 460, 6), (494, 1, 493, 2, 4, 6), (481, 1, 480, 2, 3, 6), (501, 1, 500, 2, 5, 6), (473, 1, 472, 2, 2, 6), (673, 1, 671, 1, 672, 10), (677, 1, 676, 2, 17, 10), (682, 1, 681, 2, 18, 10), (685, 0, 684, 0, 0, 10), (689, 1, 687, 1, 688, 10), (693, 1, 691, 1, 692, 10), (701, 1, 699, 1, 700, 10), (735, 1, 733, 1, 734, 4), (416, 1, 414, 1, 415, 4), (486, 1, 484, 1, 485, 4), (742, 1, 740, 1, 741, 3), (521, 1, 519, 1, 520, 3), (533, 1, 531, 1, 532, 7), (539, 1, 537, 1, 538, 7), (571, 1, 569, 1, 570, 7), (543, 1, 542, 2, 6, 7), (557, 0, 556, 0, 0, 7), (554, 0, 553, 0, 0, 7), (547, 1, 546, 2, 7, 7), (551, 1, 550, 2, 8, 7), (563, 1, 562, 2, 9, 7), (567, 1, 566, 2, 10, 7), (363, 1, 361, 1, 362, 2), (371, 1, 369, 1, 370, 2), (444, 1, 442, 1, 443, 2), (448, 1, 446, 1, 447, 2), (453, 1, 451, 1, 452, 2), (457, 1, 455, 1, 456, 2), (727, 1, 725, 1, 726, 2), (477, 1, 475, 1, 476, 2), (469, 1, 467, 1, 468, 2), (723, 1, 721, 1, 722, 2), (440, 1, 438, 1, 439, 2), (392, 1, 390, 1, 391, 5), (396, 1, 394, 1, 395, 5), (401, 1, 400, 2, 0, 5), (404, 0, 403, 0, 0, 5), (408, 1, 406, 1, 407, 5), (412, 1, 411, 2, 1, 5), (424, 1, 422, 1, 423, 5), (432, 1, 430, 1, 431, 5), (583, 1, 581, 1, 582, 8), (589, 1, 588, 2, 11, 8), (594, 1, 593, 2, 12, 8), (598, 1, 596, 1, 597, 8), (601, 0, 600, 0, 0, 8), (621, 1, 619, 1, 620, 9), (627, 1, 625, 1, 626, 9), (631, 0, 630, 0, 0, 9), (636, 1, 634, 1, 635, 9), (640, 1, 639, 2, 13, 9), (644, 1, 643, 2, 14, 9), (648, 1, 647, 2, 15, 9), (652, 1, 651, 2, 16, 9), (658, 0, 657, 0, 0, 9), (359, 1, 357, 1, 358, 1), (367, 1, 365, 1, 366, 1), (719, 1, 717, 1, 718, 1), (731, 1, 729, 1, 730, 1), (375, 1, 373, 1, 374, 1), (382, 1, 380, 1, 381, 1), (420, 1, 418, 1, 419, 1), (428, 1, 426, 1, 427, 1), (436, 1, 434, 1, 435, 1), (505, 1, 503, 1, 504, 1), (509, 1, 507, 1, 508, 1), (513, 1, 511, 1, 512, 1), (517, 1, 515, 1, 516, 1), (525, 1, 523, 1, 524, 1), (529, 1, 527, 1, 528, 1), (575, 1, 573, 1, 574, 1), (579, 1, 577, 1, 578, 1), (607, 1, 605, 1, 606, 1), (617, 1, 615, 1, 616, 1), (665, 1, 663, 1, 664, 1), (669, 1, 667, 1, 668, 1), (697, 1, 695, 1, 696, 1), (705, 1, 703, 1, 704, 1), (378, 0, 377, 0, 0, 1), (388, 0, 387, 0, 0, 1), (385, 0, 384, 0, 0, 1), (489, 0, 488, 0, 0, 1), (610, 0, 609, 0, 0, 13), (655, 0, 654, 0, 0, 14), (708, 0, 707, 0, 0, 0), (715, 0, 714, 0, 0, 0), (712, 0, 711, 0, 0, 0), (746, 0, 745, 0, 0, 0)]
def am_CS : List (Nat × Nat × Nat × Nat) := [(13, 20, 60, 356), (9, 78, 27, 360), (13, 8, 61, 364), (9, 86, 28, 368), (13, 40, 64, 372), (9, 126, 83, 376), (13, 44, 65, 379), (9, 136, 85, 383), (9, 150, 84, 386), (9, 140, 38, 389), (6, 27, 39, 393), (6, 42, 40, 398), (6, 55, 41, 402), (6, 31, 42, 405), (6, 71, 43, 409), (6, 75, 13, 413), (13, 48, 66, 417), (9, 153, 44, 421), (13, 51, 67, 425), (9, 157, 45, 429), (13, 70, 68, 433), (9, 93, 37, 437), (5, 19, 29, 441), (5, 27, 30, 445), (5, 34, 31, 450), (5, 38, 32, 454), (9, 161, 0, 458), (0, 69, 29, 465), (0, 73, 35, 466), (0, 76, 4, 470), (0, 79, 34, 474), (0, 82, 2, 478), (0, 112, 38, 482), (0, 116, 14, 483), (0, 90, 45, 490), (0, 95, 1, 491), (0, 108, 3, 498), (13, 73, 69, 502), (13, 60, 70, 506), (13, 76, 71, 510), (13, 66, 72, 514), (9, 186, 16, 518), (13, 63, 73, 522), (13, 82, 74, 526), (9, 190, 17, 530), (4, 47, 14, 534), (4, 62, 38, 535), (9, 194, 18, 536), (4, 80, 20, 540), (4, 94, 23, 544), (4, 112, 24, 548), (4, 98, 22, 552), (4, 102, 21, 555), (4, 90, 25, 560), (4, 115, 26, 564), (9, 201, 19, 568), (13, 85, 75, 572), (13, 88, 76, 576), (9, 209, 46, 580), (7, 26, 14, 584), (7, 42, 38, 585), (7, 48, 47, 586), (7, 52, 48, 591), (9, 212, 49, 595), (7, 70, 50, 599), (13, 94, 77, 604), (9, 225, 87, 608), (13, 91, 78, 614), (9, 230, 51, 618), (8, 31, 39, 622), (8, 37, 42, 623), (9, 233, 52, 624), (8, 45, 87, 628), (8, 51, 53, 629), (9, 236, 54, 633), (8, 60, 55, 637), (8, 84, 56, 641), (8, 64, 57, 645), (8, 68, 58, 649), (8, 71, 88, 653), (8, 77, 59, 656), (13, 54, 79, 662), (13, 57, 80, 666), (9, 239, 5, 670), (1, 27, 6, 674), (1, 31, 7, 679), (1, 38, 8, 683), (9, 243, 9, 686), (9, 246, 10, 690), (13, 98, 81, 694), (9, 250, 11, 698), (13, 79, 82, 702), (13, 14, 89, 706), (13, 37, 91, 710), (13, 24, 90, 713), (13, 27, 62, 716), (9, 90, 36, 720), (5, 31, 33, 724), (13, 30, 63, 728), (9, 100, 12, 732), (2, 31, 34, 736), (2, 35, 29, 737), (2, 38, 35, 738), (9, 109, 15, 739), (3, 63, 14, 743), (13, 33, 92, 744)]
theorem in_1 {w : Cond} (h : w ∈ tables_1_1) : w ∈ lw_tbl := by
  show w ∈ k2_sels lw_privs ++ tables_1
  exact List.mem_append_right _ (show w ∈ tables_1_1 ++ (tables_1_2 ++ (tables_1_3 ++ tables_1_4)) from List.mem_append_left _ h)
theorem in_2 {w : Cond} (h : w ∈ tables_1_2) : w ∈ lw_tbl := by
  show w ∈ k2_sels lw_privs ++ tables_1
  exact List.mem_append_right _ (show w ∈ tables_1_1 ++ (tables_1_2 ++ (tables_1_3 ++ tables_1_4)) from List.mem_append_right _ (List.mem_append_left _ h))
theorem in_3 {w : Cond} (h : w ∈ tables_1_3) : w ∈ lw_tbl := by
  show w ∈ k2_sels lw_privs ++ tables_1
  exact List.mem_append_right _ (show w ∈ tables_1_1 ++ (tables_1_2 ++ (tables_1_3 ++ tables_1_4)) from List.mem_append_right _ (List.mem_append_right _ (List.mem_append_left _ h)))
theorem in_4 {w : Cond} (h : w ∈ tables_1_4) : w ∈ lw_tbl := by
  show w ∈ k2_sels lw_privs ++ tables_1
  exact List.mem_append_right _ (show w ∈ tables_1_1 ++ (tables_1_2 ++ (tables_1_3 ++ tables_1_4)) from List.mem_append_right _ (List.mem_append_right _ (List.mem_append_right _ (h))))
/-! ===== the abstract machine: values at places, places at addresses ===== -/
abbrev vwCl : List vw_C := [(RX0, TX0, 13), (RX1, TX1, 1), (RX2, TX2, 5), (RX3, TX3, 11), (RX4, TX4, 11), (RX5, TX5, 2), (RX6, TX6, 6), (RX7, TX7, 3), (RX8, TX8, 5), (RX9, TX9, 12)]
abbrev Mem : Type := Nat → Nat → Int32
abbrev LMem : Type := Nat → Int64
def mput (M : Mem) (k i : Nat) (v : Int32) : Mem := fun a b => if a = k ∧ b = i then v else M a b
def mcpy (M : Mem) (ks kd sp dp n : Nat) : Mem := fun a => if a = kd then va_cpy (M ks) (M kd) sp dp n else M a
def am_sh (k : Nat) : (Nat × List (Option Nat)) ⊕ (Nat × Nat) := bif Nat.blt k am_NP then am_tr k else .inr (99, 0)
/-- the class of the object at a place (99: none), its fields' places; the type of the array at a place (99: none), its length -/
def oci (k : Nat) : Nat := match am_sh k with
  | .inl x => x.1
  | .inr _ => 99
def ofs (k : Nat) : List (Option Nat) := match am_sh k with
  | .inl x => x.2
  | .inr _ => []
def oty (k : Nat) : Nat := match am_sh k with
  | .inl _ => 99
  | .inr x => x.1
def oln (k : Nat) : Nat := match am_sh k with
  | .inl _ => 0
  | .inr x => x.2
def lopt : List (Option Nat) → Nat → Option Nat
  | [], _ => none
  | a :: _, 0 => a
  | _ :: r, n + 1 => lopt r n
def lget : List Value → Nat → Value
  | [], _ => .null
  | a :: _, 0 => a
  | _ :: r, n + 1 => lget r n
def lset : List Value → Nat → Value → List Value
  | [], _, _ => []
  | _ :: r, 0, v => v :: r
  | a :: r, n + 1, v => a :: lset r n v
def llt : List Value → Nat → Bool
  | [], _ => false
  | _ :: _, 0 => true
  | _ :: r, n + 1 => llt r n
def isC1 : Value → Bool
  | .long _ => false
  | .double _ => false
  | _ => true
/-- a place to store at: it is there, nothing of two slots stands just ahead of it -/
def lok (lo : List Value) : Nat → Bool
  | 0 => llt lo 0
  | n + 1 => isC1 (lget lo n) && llt lo (n + 1)
def fv (M : Mem) (k j : Nat) : Option Nat → Value
  | some t => .ref t
  | none => .int (M k j)
def isN : Option Nat → Bool
  | some _ => false
  | none => true
def csum : List Value → Nat
  | [] => 0
  | v :: r => v.category + csum r
def aok (k t : Nat) (i : Int32) : Prop := oty k = t ∧ vp_in i (oln k)
def isI : Value → (Int32 → Prop) → Prop
  | .int x, P => P x
  | _, _ => False
def isR : Value → (Nat → Prop) → Prop
  | .ref x, P => P x
  | _, _ => False
def isJ : Value → (Int64 → Prop) → Prop
  | .long x, P => P x
  | _, _ => False
def pI : List Value → (Int32 → List Value → Prop) → Prop
  | .int x :: r, P => P x r
  | _, _ => False
def pR : List Value → (Nat → List Value → Prop) → Prop
  | .ref x :: r, P => P x r
  | _, _ => False
def pJ : List Value → (Int64 → List Value → Prop) → Prop
  | .long x :: r, P => P x r
  | _, _ => False
theorem isI_inv {v : Value} {P : Int32 → Prop} (h : isI v P) : ∃ x, v = .int x ∧ P x := by
  cases v <;> first | exact ⟨_, rfl, h⟩ | exact False.elim h
theorem isR_inv {v : Value} {P : Nat → Prop} (h : isR v P) : ∃ x, v = .ref x ∧ P x := by
  cases v <;> first | exact ⟨_, rfl, h⟩ | exact False.elim h
theorem isJ_inv {v : Value} {P : Int64 → Prop} (h : isJ v P) : ∃ x, v = .long x ∧ P x := by
  cases v <;> first | exact ⟨_, rfl, h⟩ | exact False.elim h
theorem pI_inv {st : List Value} {P : Int32 → List Value → Prop} (h : pI st P) : ∃ x r, st = .int x :: r ∧ P x r := by
  cases st with
  | nil => exact False.elim h
  | cons v r => cases v <;> first | exact ⟨_, _, rfl, h⟩ | exact False.elim h
theorem pR_inv {st : List Value} {P : Nat → List Value → Prop} (h : pR st P) : ∃ x r, st = .ref x :: r ∧ P x r := by
  cases st with
  | nil => exact False.elim h
  | cons v r => cases v <;> first | exact ⟨_, _, rfl, h⟩ | exact False.elim h
theorem pJ_inv {st : List Value} {P : Int64 → List Value → Prop} (h : pJ st P) : ∃ x r, st = .long x :: r ∧ P x r := by
  cases st with
  | nil => exact False.elim h
  | cons v r => cases v <;> first | exact ⟨_, _, rfl, h⟩ | exact False.elim h
theorem bif_inv {b : Bool} {P : Prop} (h : (bif b then P else False)) : b = true ∧ P := by
  cases b
  · exact False.elim h
  · exact ⟨rfl, h⟩
theorem bif_inv2 {b : Bool} {P R : Prop} (h : (bif b then P else R)) : (b = true ∧ P) ∨ (b = false ∧ R) := by
  cases b
  · exact Or.inr ⟨rfl, h⟩
  · exact Or.inl ⟨rfl, h⟩
def am_find3 (L : List (Nat × Nat × Nat × Nat)) (a b : Nat) : Option Nat := (L.find? (fun q => Nat.beq q.1 a && Nat.beq q.2.1 b)).map (fun q => q.2.2.1)
def am_fl (own i : Nat) : Option (Nat × Nat) := (am_FL.find? (fun q => Nat.beq q.1 own && Nat.beq q.2.1 i)).map (fun q => (q.2.2.1, q.2.2.2.1))
def am_ct (own i : Nat) : Option Int := (am_CT.find? (fun q => Nat.beq q.1 own && Nat.beq q.2.1 i)).map (fun q => q.2.2.1)
def am_cl (own i : Nat) : Option Nat := am_find3 am_CL own i
def am_sp (own i : Nat) : Option Nat := am_find3 am_SP own i
/-- 0: an int that may be written, 1: a boolean, 2: none -/
def am_pf (ci k : Nat) : Nat := match am_PF.find? (fun q => Nat.beq q.1 ci && Nat.beq q.2.1 k) with
  | some q => q.2.2
  | none => 2
/-- an instruction as it is, its constants and places looked up; and its length -/
def am_res (own : Nat) : Instr → Option (Instr × Nat)
  | .iconst n => some (.iconst n, 1)
  | .bipush n => if (Int8.ofInt n).toInt32 = Int32.ofInt n then some (.iconst n, 2) else none
  | .sipush n => if (Int16.ofInt n).toInt32 = Int32.ofInt n then some (.iconst n, 3) else none
  | .ldc i => (am_ct own i).map fun v => (.iconst v, 2)
  | .ldc_w i => (am_ct own i).map fun v => (.iconst v, 3)
  | .ldc2_w i => (am_cl own i).map fun v => (.ldc2_w v, 3)
  | .lconst n => some (.ldc2_w n.val, 1)
  | .iload_n k => some (.iload k.val, 1)
  | .iload i => some (.iload i, 2)
  | .aload_n k => some (.aload k.val, 1)
  | .aload i => some (.aload i, 2)
  | .lload_n k => some (.lload k.val, 1)
  | .lload i => some (.lload i, 2)
  | .istore_n k => some (.istore k.val, 1)
  | .istore i => some (.istore i, 2)
  | .astore_n k => some (.astore k.val, 1)
  | .astore i => some (.astore i, 2)
  | .lstore_n k => some (.lstore k.val, 1)
  | .lstore i => some (.lstore i, 2)
  | .iinc i n => some (.iinc i n, 3)
  | .iadd => some (.iadd, 1)
  | .isub => some (.isub, 1)
  | .imul => some (.imul, 1)
  | .idiv => some (.idiv, 1)
  | .irem => some (.irem, 1)
  | .iand => some (.iand, 1)
  | .ior => some (.ior, 1)
  | .ixor => some (.ixor, 1)
  | .ishl => some (.ishl, 1)
  | .ishr => some (.ishr, 1)
  | .iushr => some (.iushr, 1)
  | .lshl => some (.lshl, 1)
  | .lor => some (.lor, 1)
  | .land => some (.land, 1)
  | .lsub => some (.lsub, 1)
  | .lcmp => some (.lcmp, 1)
  | .i2l => some (.i2l, 1)
  | .i2b => some (.i2b, 1)
  | .dup => some (.dup, 1)
  | .dup2 => some (.dup2, 1)
  | .pop => some (.pop, 1)
  | .getfield i => (am_fl own i).map fun q => (.getfield (64 * q.1 + q.2), 3)
  | .putfield i => (am_fl own i).map fun q => (.putfield (64 * q.1 + q.2), 3)
  | .iaload => some (.iaload, 1)
  | .baload => some (.baload, 1)
  | .laload => some (.laload, 1)
  | .aaload => some (.aaload, 1)
  | .iastore => some (.iastore, 1)
  | .bastore => some (.bastore, 1)
  | .lastore => some (.lastore, 1)
  | .arraylength => some (.arraylength, 1)
  | .invokestatic i => (am_sp own i).map fun w => (.invokestatic w, 3)
  | _ => none
abbrev KK : Type := List Value → List Value → Mem → LMem → Prop
/-- what an instruction asks, and where it leads -/
def ex (i : Instr) (lo st : List Value) (M : Mem) (L : LMem) (K : KK) : Prop := match i with
  | .goto _ => K lo st M L
  | .iconst n => K lo (.int (Int32.ofInt n) :: st) M L
  | .ldc2_w n => K lo (.long (Int64.ofNat n) :: st) M L
  | .iload i => isI (lget lo i) fun x => K lo (.int x :: st) M L
  | .aload i => isR (lget lo i) fun x => K lo (.ref x :: st) M L
  | .lload i => isJ (lget lo i) fun x => K lo (.long x :: st) M L
  | .istore i => pI st fun x st => bif lok lo i then K (lset lo i (.int x)) st M L else False
  | .astore i => pR st fun x st => bif lok lo i then K (lset lo i (.ref x)) st M L else False
  | .lstore i => pJ st fun x st => bif lok lo i && llt lo (i + 1) then K (lset (lset lo i (.long x)) (i + 1) .null) st M L else False
  | .iinc i n => isI (lget lo i) fun x => bif lok lo i then K (lset lo i (.int (x + Int32.ofInt n))) st M L else False
  | .iadd => pI st fun y st => pI st fun x st => K lo (.int (x + y) :: st) M L
  | .isub => pI st fun y st => pI st fun x st => K lo (.int (x - y) :: st) M L
  | .imul => pI st fun y st => pI st fun x st => K lo (.int (x * y) :: st) M L
  | .idiv => pI st fun y st => pI st fun x st => ¬ y = 0 ∧ K lo (.int (x / y) :: st) M L
  | .irem => pI st fun y st => pI st fun x st => ¬ y = 0 ∧ K lo (.int (x - x / y * y) :: st) M L
  | .iand => pI st fun y st => pI st fun x st => K lo (.int (x &&& y) :: st) M L
  | .ior => pI st fun y st => pI st fun x st => K lo (.int (x ||| y) :: st) M L
  | .ixor => pI st fun y st => pI st fun x st => K lo (.int (x ^^^ y) :: st) M L
  | .ishl => pI st fun y st => pI st fun x st => K lo (.int (x <<< (y &&& 31)) :: st) M L
  | .ishr => pI st fun y st => pI st fun x st => K lo (.int (x >>> (y &&& 31)) :: st) M L
  | .iushr => pI st fun y st => pI st fun x st => K lo (.int ((x.toUInt32 >>> (y.toUInt32 &&& Int32.toUInt32 31)).toInt32) :: st) M L
  | .lshl => pI st fun y st => pJ st fun x st => K lo (.long (x <<< (y.toInt64 &&& 63)) :: st) M L
  | .lor => pJ st fun y st => pJ st fun x st => K lo (.long (x ||| y) :: st) M L
  | .land => pJ st fun y st => pJ st fun x st => K lo (.long (x &&& y) :: st) M L
  | .lsub => pJ st fun y st => pJ st fun x st => K lo (.long (x - y) :: st) M L
  | .lcmp => pJ st fun y st => pJ st fun x st => K lo (.int (lg_cmp x y) :: st) M L
  | .i2l => pI st fun x st => K lo (.long x.toInt64 :: st) M L
  | .i2b => pI st fun x st => K lo (.int x.toInt8.toInt32 :: st) M L
  | .dup => (match st with
    | .int x :: st => K lo (.int x :: .int x :: st) M L
    | .ref x :: st => K lo (.ref x :: .ref x :: st) M L
    | _ => False)
  | .dup2 => pI st fun y st => pR st fun x st => K lo (.int y :: .ref x :: .int y :: .ref x :: st) M L
  | .pop => pI st fun _ st => K lo st M L
  | .getfield n => pR st fun k st => bif Nat.beq (oci k) (n / 64) && Nat.blt (n % 64) (ofs k).length then K lo (fv M k (n % 64) (lopt (ofs k) (n % 64)) :: st) M L else False
  | .putfield n => pI st fun x st => pR st fun k st => bif (Nat.beq (oci k) (n / 64) && Nat.blt (n % 64) (ofs k).length) && isN (lopt (ofs k) (n % 64)) then
      (bif Nat.beq (am_pf (n / 64) (n % 64)) 0 then K lo st (mput M k (n % 64) x) L else (bif Nat.beq (am_pf (n / 64) (n % 64)) 1 then (x = 0 ∨ x = 1) ∧ K lo st (mput M k (n % 64) x) L else False)) else False
  | .iaload => pI st fun i st => pR st fun k st => aok k 0 i ∧ K lo (.int (M k i.toNatClampNeg) :: st) M L
  | .baload => pI st fun i st => pR st fun k st => (aok k 1 i ∨ aok k 3 i) ∧ K lo (.int (M k i.toNatClampNeg) :: st) M L
  | .laload => pI st fun i st => pR st fun k st => aok k 2 i ∧ K lo (.long (L i.toNatClampNeg) :: st) M L
  | .aaload => pI st fun i st => pR st fun k st => aok k 4 i ∧ K lo (.ref (k + 1 + i.toNatClampNeg) :: st) M L
  | .iastore => pI st fun x st => pI st fun i st => pR st fun k st => aok k 0 i ∧ K lo st (mput M k i.toNatClampNeg x) L
  | .bastore => pI st fun x st => pI st fun i st => pR st fun k st => (aok k 1 i ∧ K lo st (mput M k i.toNatClampNeg (vp_nar .boolean x)) L) ∨ (aok k 3 i ∧ K lo st (mput M k i.toNatClampNeg (vp_nar .byte x)) L)
  | .lastore => pJ st fun x st => pI st fun i st => pR st fun k st => aok k 2 i ∧ K lo st M (vp_updL L i.toNatClampNeg x)
  | .arraylength => pR st fun k st => bif Nat.blt (oty k) 5 then K lo (.int (Int32.ofNat (oln k)) :: st) M L else False
  | .invokestatic w => (match w with
    | 0 => pI st fun y st => pI st fun x st => bif Nat.ble (csum st) 8 then K lo (.int (if x < y then y else x) :: st) M L else False
    | 1 => pI st fun y st => pI st fun x st => bif Nat.ble (csum st) 8 then K lo (.int (if y < x then y else x) :: st) M L else False
    | 2 => pI st fun n st => pI st fun dp st => pR st fun kd st => pI st fun sp st => pR st fun ks st => bif Nat.ble (csum st) 8 then (oty ks = 0 ∧ oty kd = 0 ∧ ¬ sp < 0 ∧ ¬ dp < 0 ∧ ¬ n < 0 ∧ sp.toNatClampNeg + n.toNatClampNeg ≤ oln ks ∧ dp.toNatClampNeg + n.toNatClampNeg ≤ oln kd) ∧ K lo st (mcpy M ks kd sp.toNatClampNeg dp.toNatClampNeg n.toNatClampNeg) L else False
    | _ => False)
  | _ => False
def exs : List Instr → List Value → List Value → Mem → LMem → KK → Prop
  | [], lo, st, M, L, K => K lo st M L
  | i :: is, lo, st, M, L, K => ex i lo st M L (fun lo st M L => exs is lo st M L K)
/-- these instructions stand from pc on (gotos are followed: .goto 0); where they end -/
def segc (b : ByteArray) (own : Nat) : List Instr → Nat → Option Nat
  | [], pc => some pc
  | i :: is, pc => (match decode b pc with
    | .ok (.goto off, 3) => if i = .goto 0 ∧ 0 ≤ (pc : Int) + off then segc b own is ((pc : Int) + off).toNat else none
    | .ok (j, len) => if am_res own j = some (i, len) then segc b own is (pc + len) else none
    | _ => none)
/-! ===== the real machine beneath ===== -/
def cvl (ad : Nat → Nat) : Value → Value
  | .ref k => .ref (ad k)
  | v => v
def am_tys (cA : Nat → ClassId) : List (ClassId × FieldType) := [(cA 0, .int), (cA 1, .boolean), (cA 2, .long), (cA 3, .byte), (cA 4, .array .int)]
def cel (ad : Nat → Nat) (cA : Nat → ClassId) (M : Mem) (L : LMem) (k : Nat) : va_E := match am_sh k with
  | .inl x => .inr (x.1, (List.range x.2.length).map fun j => cvl ad (fv M k j (lopt x.2 j)))
  | .inr x => .inl (cA x.1, x.2, if x.1 = 2 then .inr (.inl L) else if x.1 = 4 then .inr (.inr (.inr (.inr fun i => if i < x.2 then some (ad (k + 1 + i)) else none))) else .inl (M k))
def wd (ad : Nat → Nat) (cA : Nat → ClassId) (M : Mem) (L : LMem) : va_W := (List.range am_NP).map fun k => (ad k, cel ad cA M L k)
abbrev VE : Type := Launch × va_G × (Nat → Nat) × (Nat → ClassId) × Nat × (Nat → Int32)
def am_rm (d : Nat) : Room := { frames := d + 1, cells := 0, slots := 0, locals := 64 * (d + 1) }
def am_WG : List Cond := lw_tbl.filter goodWord
def am_nest : List Cond := [.methodLinkNest RX5 23 yX9_within "SpeakTubes", .methodLinkNest RX0 121 yX9_takenOf "SpeakTubes", .methodLinkNest RX7 74 yX9_takenOf "SpeakTubes"]
def am_AD (ad : Nat → Nat) : Nat → Prop := fun q => ∃ k, k < am_NP ∧ q = ad k
def LOK (ad : Nat → Nat) (n : Nat) (ls : Array Slot) (lo : List Value) : Prop := ls.size = n ∧ lo.length = n ∧ lv_wf ls ∧ ∀ (i : Nat) (v : Value), lo[i]? = some v → v ≠ Value.null → ls[i]? = some (Slot.val (cvl ad v))
abbrev QQ : Type := Option Value → Mem → LMem → Prop
def QcOf (E : VE) (Q : QQ) : Array Value → State → Outcome → State → Prop := fun _ st o t => (∃ r M L, o = .returned (r.map (cvl E.2.2.1)) ∧ Q r M L ∧ va_P E.2.1 vwCl (wd E.2.2.1 E.2.2.2.1 M L) t.heap) ∧ va_F (am_AD E.2.2.1) st t
/-- the script's place -/
def SCU (E : VE) (U : State) : Prop := (∀ i, i < am_NP → E.2.2.1 i ≠ E.2.2.1 75) ∧ E.2.2.1 75 < U.heap.size ∧ va_X (E.2.2.1 75) E.2.2.2.2.1 E.2.2.2.2.2 U U.heap
/-- the law's own method -/
def LAW : Nat := 93
def Ctx (E : VE) (y : Nat) (p : Program) (s : State) (m : MethodId) (args : Array Value) (meth : Method) (c : Code) : Prop :=
  p.tables.exec = Jvm.exec ∧ c.code = am_B y ∧ meth.sig.returnType = am_R y ∧ c.maxLocals = am_X y ∧ s.vm.findClass (am_C (am_O y)) = some m.cls ∧ (∀ w ∈ am_WG, w.before args s = true) ∧ (∀ w ∈ am_nest, va_Nw w s) ∧ va_K E.2.1 vwCl (am_tys E.2.2.2.1) s ∧ meth.locks = false ∧ (∀ i j, i < am_NP → j < am_NP → E.2.2.1 i = E.2.2.1 j → i = j) ∧ SCU E s ∧ (y = LAW → args = #[.ref (E.2.2.1 75)] ∧ ∀ k, k < am_NP → s.heap.size ≤ E.2.2.1 k)
/-- how a method runs: its room, cells and slots made, its end -/
abbrev MD : Type := Room × Nat × Nat × (VE → QQ → List Frame → Array Value → State → State → Prop)
/-- a method that is called, d calls may stand upon it -/
def nm (d : Nat) : MD := (am_rm d, 0, 0, fun E Q below args s => MQ below (QcOf E Q) args s 0 0 (am_AD E.2.2.1))
/-- the law -/
def rt : MD := (room_1, 600000, 7302250, fun _ _ below args s => lw_Z below args s)
def GG (E : VE) (μ : MD) (y : Nat) (Q : QQ) (p : Program) (e : Env) (s : State) (m : MethodId) (args : Array Value) (below : List Frame) (meth : Method) (c : Code) (pc : Nat) (lo st : List Value) (M : Mem) (L : LMem) : Prop :=
  ∀ (ls : Array Slot) (H : Heap) (locs : List Loc), LOK E.2.2.1 (am_X y) ls lo → va_P E.2.1 vwCl (wd E.2.2.1 E.2.2.2.1 M L) H → va_S (am_AD E.2.2.1) s.heap H locs →
    W p E.1 e μ.1 s m args below meth c H locs μ.2.1 μ.2.2.1 (μ.2.2.2 E Q below args s) (F0 m pc ls (st.map (cvl E.2.2.1)))
/-- FROM HERE THE METHOD COMES TO ITS END, AND Q HOLDS THEN: y's code at pc, locals lo, stack st, memory M, longs L -/
def Wm (E : VE) (μ : MD) (y pc : Nat) (lo st : List Value) (M : Mem) (L : LMem) (Q : QQ) : Prop :=
  ∀ (p : Program) (e : Env) (s : State) (m : MethodId) (args : Array Value) (below : List Frame) (meth : Method) (c : Code), Ctx E y p s m args meth c → GG E μ y Q p e s m args below meth c pc lo st M L
abbrev Wp (E : VE) (d y pc : Nat) (lo st : List Value) (M : Mem) (L : LMem) (Q : QQ) : Prop := Wm E (nm d) y pc lo st M L Q
/-- of the law's own body; what it answers is told by its end -/
def QT : QQ := fun _ _ _ => True
abbrev Wr (E : VE) (pc : Nat) (lo st : List Value) (M : Mem) (L : LMem) : Prop := Wm E rt LAW pc lo st M L QT
/-- a method's first locals -/
def lex : List Value → List Value
  | [] => []
  | .long x :: r => .long x :: .null :: lex r
  | v :: r => v :: lex r
def lpad : Nat → List Value → List Value
  | 0, _ => []
  | n + 1, [] => .null :: lpad n []
  | n + 1, a :: r => a :: lpad n r
