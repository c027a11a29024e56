set_option maxRecDepth 100000 in
theorem ckX0_power : chkM false 0 cX0_power 0 kX0_power = true := by decide +kernel
set_option maxRecDepth 100000 in
theorem ckX0_fixedByGoingRound : chkM false 0 cX0_fixedByGoingRound 0 kX0_fixedByGoingRound = true := by decide +kernel
set_option maxRecDepth 100000 in
theorem ckX0_commonPart : chkM false 0 cX0_commonPart 0 kX0_commonPart = true := by decide +kernel
set_option maxRecDepth 100000 in
theorem ckX0_fixedByGoingOver : chkM false 0 cX0_fixedByGoingOver 0 kX0_fixedByGoingOver = true := by decide +kernel
set_option maxRecDepth 100000 in
theorem ckX1_isLook : chkM false 1 cX1_isLook 0 kX1_isLook = true := by decide +kernel
set_option maxRecDepth 100000 in
theorem ckX1_isHope : chkM false 1 cX1_isHope 0 kX1_isHope = true := by decide +kernel
set_option maxRecDepth 100000 in
theorem ckX1_ofEye : chkM false 1 cX1_ofEye 0 kX1_ofEye = true := by decide +kernel
set_option maxRecDepth 100000 in
theorem ckX1_ofStreet : chkM false 1 cX1_ofStreet 0 kX1_ofStreet = true := by decide +kernel
set_option maxRecDepth 100000 in
theorem ckX1_isRest : chkM false 1 cX1_isRest 0 kX1_isRest = true := by decide +kernel
set_option maxRecDepth 100000 in
theorem ckX2_endsBeside : chkM false 2 cX2_endsBeside 0 kX2_endsBeside = true := by decide +kernel
set_option maxRecDepth 100000 in
theorem ckX2_firstTurn : chkM false 2 cX2_firstTurn 0 kX2_firstTurn = true := by decide +kernel
set_option maxRecDepth 100000 in
theorem ckX3_init : chkM true 3 cX3_init 0 kX3_init = true := by decide +kernel
set_option maxRecDepth 100000 in
theorem ckX3_isFull : chkM false 3 cX3_isFull 0 kX3_isFull = true := by decide +kernel
set_option maxRecDepth 100000 in
theorem ckX3_add : chkM false 3 cX3_add 0 kX3_add = true := by decide +kernel
set_option maxRecDepth 100000 in
theorem ckX3_partners : chkM false 3 cX3_partners 0 kX3_partners = true := by decide +kernel
set_option maxRecDepth 100000 in
theorem ckX3_all : chkM false 3 cX3_all 0 kX3_all = true := by decide +kernel
set_option maxRecDepth 100000 in
theorem ckX3_holding : chkM false 3 cX3_holding 0 kX3_holding = true := by decide +kernel
set_option maxRecDepth 100000 in
theorem ckX3_firstBroken : chkM false 3 cX3_firstBroken 0 kX3_firstBroken = true := by decide +kernel
set_option maxRecDepth 100000 in
theorem ckX4_init : chkM true 4 cX4_init 0 kX4_init = true := by decide +kernel
set_option maxRecDepth 100000 in
theorem ckX4_explore : chkM false 4 cX4_explore 0 kX4_explore = true := by decide +kernel
set_option maxRecDepth 100000 in
theorem ckX4_find : chkM false 4 cX4_find 0 kX4_find = true := by decide +kernel
set_option maxRecDepth 100000 in
theorem ckX4_depthOf : chkM false 4 cX4_depthOf 0 kX4_depthOf = true := by decide +kernel
set_option maxRecDepth 100000 in
theorem ckX4_most : chkM false 4 cX4_most 0 kX4_most = true := by decide +kernel
set_option maxRecDepth 100000 in
theorem ckX4_evenCount : chkM false 4 cX4_evenCount 0 kX4_evenCount = true := by decide +kernel
set_option maxRecDepth 100000 in
theorem ckX4_comesInto : chkM false 4 cX4_comesInto 0 kX4_comesInto = true := by decide +kernel
set_option maxRecDepth 100000 in
theorem ckX4_leaving : chkM false 4 cX4_leaving 0 kX4_leaving = true := by decide +kernel
set_option maxRecDepth 100000 in
theorem ckX4_pairSets : chkM false 4 cX4_pairSets 0 kX4_pairSets = true := by decide +kernel
set_option maxRecDepth 100000 in
theorem ckX4_pairsFrom : chkM false 4 cX4_pairsFrom 0 kX4_pairsFrom = true := by decide +kernel
set_option maxRecDepth 100000 in
theorem ckX4_central : chkM false 4 cX4_central 0 kX4_central = true := by decide +kernel
set_option maxRecDepth 100000 in
theorem ckX4_standBehind : chkM false 4 cX4_standBehind 0 kX4_standBehind = true := by decide +kernel
set_option maxRecDepth 100000 in
theorem ckX4_firstHolding : chkM false 4 cX4_firstHolding 0 kX4_firstHolding = true := by decide +kernel
set_option maxRecDepth 100000 in
theorem ckX4_firstBringing : chkM false 4 cX4_firstBringing 0 kX4_firstBringing = true := by decide +kernel
set_option maxRecDepth 100000 in
theorem ckX4_turnAt : chkM false 4 cX4_turnAt 0 kX4_turnAt = true := by decide +kernel
set_option maxRecDepth 100000 in
theorem ckX4_colourCount : chkM false 4 cX4_colourCount 0 kX4_colourCount = true := by decide +kernel
set_option maxRecDepth 100000 in
theorem ckX5_init : chkM true 5 cX5_init 0 kX5_init = true := by decide +kernel
set_option maxRecDepth 100000 in
theorem ckX5_put : chkM false 5 cX5_put 0 kX5_put = true := by decide +kernel
set_option maxRecDepth 100000 in
theorem ckX5_read : chkM false 5 cX5_read 0 kX5_read = true := by decide +kernel
set_option maxRecDepth 100000 in
theorem ckX5_failHere : chkM false 5 cX5_failHere 0 kX5_failHere = true := by decide +kernel
set_option maxRecDepth 100000 in
theorem ckX5_step : chkM false 5 cX5_step 0 kX5_step = true := by decide +kernel
set_option maxRecDepth 100000 in
theorem ckX5_takeWord : chkM false 5 cX5_takeWord 0 kX5_takeWord = true := by decide +kernel
set_option maxRecDepth 100000 in
theorem ckX5_takeWhole : chkM false 5 cX5_takeWhole 0 kX5_takeWhole = true := by decide +kernel
set_option maxRecDepth 100000 in
theorem ckX5_coded : chkM false 5 cX5_coded 0 kX5_coded = true := by decide +kernel
set_option maxRecDepth 100000 in
theorem ckX5_isWord : chkM false 5 cX5_isWord 0 kX5_isWord = true := by decide +kernel
set_option maxRecDepth 100000 in
theorem ckX5_lineSort : chkM false 5 cX5_lineSort 0 kX5_lineSort = true := by decide +kernel
set_option maxRecDepth 100000 in
theorem ckX5_takeLine : chkM false 5 cX5_takeLine 0 kX5_takeLine = true := by decide +kernel
set_option maxRecDepth 100000 in
theorem ckX5_isFull : chkM false 5 cX5_isFull 0 kX5_isFull = true := by decide +kernel
set_option maxRecDepth 100000 in
theorem ckX5_goesOn : chkM false 5 cX5_goesOn 0 kX5_goesOn = true := by decide +kernel
set_option maxRecDepth 100000 in
theorem ckX5_takeTube : chkM false 5 cX5_takeTube 0 kX5_takeTube = true := by decide +kernel
set_option maxRecDepth 100000 in
theorem ckX5_takePerson : chkM false 5 cX5_takePerson 0 kX5_takePerson = true := by decide +kernel
set_option maxRecDepth 100000 in
theorem ckX5_takeTurn : chkM false 5 cX5_takeTurn 0 kX5_takeTurn = true := by decide +kernel
set_option maxRecDepth 100000 in
theorem ckX5_takeQuarrel : chkM false 5 cX5_takeQuarrel 0 kX5_takeQuarrel = true := by decide +kernel
set_option maxRecDepth 100000 in
theorem ckX5_takeWish : chkM false 5 cX5_takeWish 0 kX5_takeWish = true := by decide +kernel
set_option maxRecDepth 100000 in
theorem ckX5_takeUnsure : chkM false 5 cX5_takeUnsure 0 kX5_takeUnsure = true := by decide +kernel
set_option maxRecDepth 100000 in
theorem ckX5_takeSeen : chkM false 5 cX5_takeSeen 0 kX5_takeSeen = true := by decide +kernel
set_option maxRecDepth 100000 in
theorem ckX5_takeThis : chkM false 5 cX5_takeThis 0 kX5_takeThis = true := by decide +kernel
set_option maxRecDepth 100000 in
theorem ckX5_isBetween : chkM false 5 cX5_isBetween 0 kX5_isBetween = true := by decide +kernel
set_option maxRecDepth 100000 in
theorem ckX5_takeBetween : chkM false 5 cX5_takeBetween 0 kX5_takeBetween = true := by decide +kernel
set_option maxRecDepth 100000 in
theorem ckX5_nameHere : chkM false 5 cX5_nameHere 0 kX5_nameHere = true := by decide +kernel
set_option maxRecDepth 100000 in
theorem ckX5_takeNewName : chkM false 5 cX5_takeNewName 0 kX5_takeNewName = true := by decide +kernel
set_option maxRecDepth 100000 in
theorem ckX5_personHere : chkM false 5 cX5_personHere 0 kX5_personHere = true := by decide +kernel
set_option maxRecDepth 100000 in
theorem ckX5_takePersonsName : chkM false 5 cX5_takePersonsName 0 kX5_takePersonsName = true := by decide +kernel
set_option maxRecDepth 100000 in
theorem ckX5_takeAnother : chkM false 5 cX5_takeAnother 0 kX5_takeAnother = true := by decide +kernel
set_option maxRecDepth 100000 in
theorem ckX6_init : chkM true 6 cX6_init 0 kX6_init = true := by decide +kernel
set_option maxRecDepth 100000 in
theorem ckX6_spread : chkM false 6 cX6_spread 0 kX6_spread = true := by decide +kernel
set_option maxRecDepth 100000 in
theorem ckX6_state : chkM false 6 cX6_state 0 kX6_state = true := by decide +kernel
set_option maxRecDepth 100000 in
theorem ckX6_shakeOnce : chkM false 6 cX6_shakeOnce 0 kX6_shakeOnce = true := by decide +kernel
set_option maxRecDepth 100000 in
theorem ckX6_besideWeight : chkM false 6 cX6_besideWeight 0 kX6_besideWeight = true := by decide +kernel
set_option maxRecDepth 100000 in
theorem ckX6_weightIn : chkM false 6 cX6_weightIn 0 kX6_weightIn = true := by decide +kernel
set_option maxRecDepth 100000 in
theorem ckX6_draw : chkM false 6 cX6_draw 0 kX6_draw = true := by decide +kernel
set_option maxRecDepth 100000 in
theorem ckX6_drawnShake : chkM false 6 cX6_drawnShake 0 kX6_drawnShake = true := by decide +kernel
set_option maxRecDepth 100000 in
theorem ckX7_at : chkM false 7 cX7_at 0 kX7_at = true := by decide +kernel
set_option maxRecDepth 100000 in
theorem ckX7_with : chkM false 7 cX7_with 0 kX7_with = true := by decide +kernel
set_option maxRecDepth 100000 in
theorem ckX7_areBeside : chkM false 7 cX7_areBeside 0 kX7_areBeside = true := by decide +kernel
set_option maxRecDepth 100000 in
theorem ckX7_same : chkM false 7 cX7_same 0 kX7_same = true := by decide +kernel
set_option maxRecDepth 100000 in
theorem ckX7_otherWayRound : chkM false 7 cX7_otherWayRound 0 kX7_otherWayRound = true := by decide +kernel
set_option maxRecDepth 100000 in
theorem ckX7_through : chkM false 7 cX7_through 0 kX7_through = true := by decide +kernel
set_option maxRecDepth 100000 in
theorem ckX7_inverse : chkM false 7 cX7_inverse 0 kX7_inverse = true := by decide +kernel
set_option maxRecDepth 100000 in
theorem ckX7_commuting : chkM false 7 cX7_commuting 0 kX7_commuting = true := by decide +kernel
set_option maxRecDepth 100000 in
theorem ckX7_fixed : chkM false 7 cX7_fixed 0 kX7_fixed = true := by decide +kernel
set_option maxRecDepth 100000 in
theorem ckX7_cycles : chkM false 7 cX7_cycles 0 kX7_cycles = true := by decide +kernel
set_option maxRecDepth 100000 in
theorem ckX7_isEven : chkM false 7 cX7_isEven 0 kX7_isEven = true := by decide +kernel
set_option maxRecDepth 100000 in
theorem ckX7_order : chkM false 7 cX7_order 0 kX7_order = true := by decide +kernel
set_option maxRecDepth 100000 in
theorem ckX7_rank : chkM false 7 cX7_rank 0 kX7_rank = true := by decide +kernel
set_option maxRecDepth 100000 in
theorem ckX8_init : chkM true 8 cX8_init 0 kX8_init = true := by decide +kernel
set_option maxRecDepth 100000 in
theorem ckX8_begin : chkM false 8 cX8_begin 0 kX8_begin = true := by decide +kernel
set_option maxRecDepth 100000 in
theorem ckX8_act : chkM false 8 cX8_act 0 kX8_act = true := by decide +kernel
set_option maxRecDepth 100000 in
theorem ckX8_takeBack : chkM false 8 cX8_takeBack 0 kX8_takeBack = true := by decide +kernel
