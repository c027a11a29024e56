set_option maxRecDepth 100000 in
theorem ckX12_fixes : chkM false 12 cX12_fixes 0 kX12_fixes = true := by decide +kernel
set_option maxRecDepth 100000 in
theorem ckX12_doCommute : chkM false 12 cX12_doCommute 0 kX12_doCommute = true := by decide +kernel
set_option maxRecDepth 100000 in
theorem ckX12_commute : chkM false 12 cX12_commute 0 kX12_commute = true := by decide +kernel
set_option maxRecDepth 100000 in
theorem ckX12_inverts : chkM false 12 cX12_inverts 0 kX12_inverts = true := by decide +kernel
set_option maxRecDepth 100000 in
theorem ckX12_undoing : chkM false 12 cX12_undoing 0 kX12_undoing = true := by decide +kernel
set_option maxRecDepth 100000 in
theorem ckX12_reach : chkM false 12 cX12_reach 0 kX12_reach = true := by decide +kernel
set_option maxRecDepth 100000 in
theorem ckX12_deepest : chkM false 12 cX12_deepest 0 kX12_deepest = true := by decide +kernel
set_option maxRecDepth 100000 in
theorem ckX12_evens : chkM false 12 cX12_evens 0 kX12_evens = true := by decide +kernel
set_option maxRecDepth 100000 in
theorem ckX12_orbit : chkM false 12 cX12_orbit 0 kX12_orbit = true := by decide +kernel
set_option maxRecDepth 100000 in
theorem ckX12_keeps : chkM false 12 cX12_keeps 0 kX12_keeps = true := by decide +kernel
set_option maxRecDepth 100000 in
theorem ckX12_pairs : chkM false 12 cX12_pairs 0 kX12_pairs = true := by decide +kernel
set_option maxRecDepth 100000 in
theorem ckX12_centre : chkM false 12 cX12_centre 0 kX12_centre = true := by decide +kernel
set_option maxRecDepth 100000 in
theorem ckX12_isDone : chkM false 12 cX12_isDone 0 kX12_isDone = true := by decide +kernel
set_option maxRecDepth 100000 in
theorem ckX12_doneBy : chkM false 12 cX12_doneBy 0 kX12_doneBy = true := by decide +kernel
set_option maxRecDepth 100000 in
theorem ckX12_fewest : chkM false 12 cX12_fewest 0 kX12_fewest = true := by decide +kernel
set_option maxRecDepth 100000 in
theorem ckX12_stepOf : chkM false 12 cX12_stepOf 0 kX12_stepOf = true := by decide +kernel
set_option maxRecDepth 100000 in
theorem ckX12_errand : chkM false 12 cX12_errand 0 kX12_errand = true := by decide +kernel
set_option maxRecDepth 100000 in
theorem ckX12_errandAt : chkM false 12 cX12_errandAt 0 kX12_errandAt = true := by decide +kernel
set_option maxRecDepth 100000 in
theorem ckX12_peace : chkM false 12 cX12_peace 0 kX12_peace = true := by decide +kernel
set_option maxRecDepth 100000 in
theorem ckX12_peaceAt : chkM false 12 cX12_peaceAt 0 kX12_peaceAt = true := by decide +kernel
set_option maxRecDepth 100000 in
theorem ckX12_bring : chkM false 12 cX12_bring 0 kX12_bring = true := by decide +kernel
set_option maxRecDepth 100000 in
theorem ckX12_calmest : chkM false 12 cX12_calmest 0 kX12_calmest = true := by decide +kernel
set_option maxRecDepth 100000 in
theorem ckX12_counted : chkM false 12 cX12_counted 0 kX12_counted = true := by decide +kernel
set_option maxRecDepth 100000 in
theorem ckX12_refusesColours : chkM false 12 cX12_refusesColours 0 kX12_refusesColours = true := by decide +kernel
set_option maxRecDepth 100000 in
theorem ckX12_colourings : chkM false 12 cX12_colourings 0 kX12_colourings = true := by decide +kernel
set_option maxRecDepth 100000 in
theorem ckX12_mirrored : chkM false 12 cX12_mirrored 0 kX12_mirrored = true := by decide +kernel
set_option maxRecDepth 100000 in
theorem ckX12_aroundSum : chkM false 12 cX12_aroundSum 0 kX12_aroundSum = true := by decide +kernel
set_option maxRecDepth 100000 in
theorem ckX12_refusesNecklace : chkM false 12 cX12_refusesNecklace 0 kX12_refusesNecklace = true := by decide +kernel
set_option maxRecDepth 100000 in
theorem ckX12_necklaces : chkM false 12 cX12_necklaces 0 kX12_necklaces = true := by decide +kernel
set_option maxRecDepth 100000 in
theorem ckX12_bracelets : chkM false 12 cX12_bracelets 0 kX12_bracelets = true := by decide +kernel
set_option maxRecDepth 100000 in
theorem ckX12_laysFirst : chkM false 12 cX12_laysFirst 0 kX12_laysFirst = true := by decide +kernel
set_option maxRecDepth 100000 in
theorem ckX12_areUnlike : chkM false 12 cX12_areUnlike 0 kX12_areUnlike = true := by decide +kernel
set_option maxRecDepth 100000 in
theorem ckX12_wrongSeen : chkM false 12 cX12_wrongSeen 0 kX12_wrongSeen = true := by decide +kernel
set_option maxRecDepth 100000 in
theorem ckX12_fitting : chkM false 12 cX12_fitting 0 kX12_fitting = true := by decide +kernel
set_option maxRecDepth 100000 in
theorem ckX12_fits : chkM false 12 cX12_fits 0 kX12_fits = true := by decide +kernel
set_option maxRecDepth 100000 in
theorem ckX12_fitAt : chkM false 12 cX12_fitAt 0 kX12_fitAt = true := by decide +kernel
set_option maxRecDepth 100000 in
theorem ckX12_could : chkM false 12 cX12_could 0 kX12_could = true := by decide +kernel
set_option maxRecDepth 100000 in
theorem ckX12_surely : chkM false 12 cX12_surely 0 kX12_surely = true := by decide +kernel
set_option maxRecDepth 100000 in
theorem ckX12_asks : chkM false 12 cX12_asks 0 kX12_asks = true := by decide +kernel
set_option maxRecDepth 100000 in
theorem ckX12_ask : chkM false 12 cX12_ask 0 kX12_ask = true := by decide +kernel
set_option maxRecDepth 100000 in
theorem ckX12_askLeaves : chkM false 12 cX12_askLeaves 0 kX12_askLeaves = true := by decide +kernel
set_option maxRecDepth 100000 in
theorem ckX12_judge : chkM false 12 cX12_judge 0 kX12_judge = true := by decide +kernel
set_option maxRecDepth 100000 in
theorem ckX12_choices : chkM false 12 cX12_choices 0 kX12_choices = true := by decide +kernel
set_option maxRecDepth 100000 in
theorem ckX12_argues : chkM false 12 cX12_argues 0 kX12_argues = true := by decide +kernel
set_option maxRecDepth 100000 in
theorem ckX12_bestFrom : chkM false 12 cX12_bestFrom 0 kX12_bestFrom = true := by decide +kernel
set_option maxRecDepth 100000 in
theorem ckX12_refusesGame : chkM false 12 cX12_refusesGame 0 kX12_refusesGame = true := by decide +kernel
set_option maxRecDepth 100000 in
theorem ckX12_gets : chkM false 12 cX12_gets 0 kX12_gets = true := by decide +kernel
set_option maxRecDepth 100000 in
theorem ckX12_getsBy : chkM false 12 cX12_getsBy 0 kX12_getsBy = true := by decide +kernel
set_option maxRecDepth 100000 in
theorem ckX12_eye : chkM false 12 cX12_eye 0 kX12_eye = true := by decide +kernel
set_option maxRecDepth 100000 in
theorem ckX12_street : chkM false 12 cX12_street 0 kX12_street = true := by decide +kernel
set_option maxRecDepth 100000 in
theorem ckX12_refusesBlue : chkM false 12 cX12_refusesBlue 0 kX12_refusesBlue = true := by decide +kernel
set_option maxRecDepth 100000 in
theorem ckX12_looks : chkM false 12 cX12_looks 0 kX12_looks = true := by decide +kernel
set_option maxRecDepth 100000 in
theorem ckX12_isRest : chkM false 12 cX12_isRest 0 kX12_isRest = true := by decide +kernel
set_option maxRecDepth 100000 in
theorem ckX12_rests : chkM false 12 cX12_rests 0 kX12_rests = true := by decide +kernel
set_option maxRecDepth 100000 in
theorem ckX12_rest : chkM false 12 cX12_rest 0 kX12_rest = true := by decide +kernel
set_option maxRecDepth 100000 in
theorem ckX12_spreadsOut : chkM false 12 cX12_spreadsOut 0 kX12_spreadsOut = true := by decide +kernel
set_option maxRecDepth 100000 in
theorem ckX12_spreads : chkM false 12 cX12_spreads 0 kX12_spreads = true := by decide +kernel
set_option maxRecDepth 100000 in
theorem ckX12_refusesShakes : chkM false 12 cX12_refusesShakes 0 kX12_refusesShakes = true := by decide +kernel
set_option maxRecDepth 100000 in
theorem ckX12_odds : chkM false 12 cX12_odds 0 kX12_odds = true := by decide +kernel
set_option maxRecDepth 100000 in
theorem ckX12_slotOdds : chkM false 12 cX12_slotOdds 0 kX12_slotOdds = true := by decide +kernel
set_option maxRecDepth 100000 in
theorem ckX12_mean : chkM false 12 cX12_mean 0 kX12_mean = true := by decide +kernel
set_option maxRecDepth 100000 in
theorem ckX12_aShake : chkM false 12 cX12_aShake 0 kX12_aShake = true := by decide +kernel
set_option maxRecDepth 100000 in
theorem ckX12_refusesSeed : chkM false 12 cX12_refusesSeed 0 kX12_refusesSeed = true := by decide +kernel
set_option maxRecDepth 100000 in
theorem ckX12_shaken : chkM false 12 cX12_shaken 0 kX12_shaken = true := by decide +kernel
set_option maxRecDepth 100000 in
theorem ckX12_peaceIn : chkM false 12 cX12_peaceIn 0 kX12_peaceIn = true := by decide +kernel
set_option maxRecDepth 100000 in
theorem ckX12_remembers : chkM false 12 cX12_remembers 0 kX12_remembers = true := by decide +kernel
set_option maxRecDepth 100000 in
theorem ckX12_slidesAll : chkM false 12 cX12_slidesAll 0 kX12_slidesAll = true := by decide +kernel
set_option maxRecDepth 100000 in
theorem ckX12_layTurn : chkM false 12 cX12_layTurn 0 kX12_layTurn = true := by decide +kernel
set_option maxRecDepth 100000 in
theorem ckX12_turn : chkM false 12 cX12_turn 0 kX12_turn = true := by decide +kernel
set_option maxRecDepth 100000 in
theorem ckX12_turnBack : chkM false 12 cX12_turnBack 0 kX12_turnBack = true := by decide +kernel
set_option maxRecDepth 100000 in
theorem ckX12_move : chkM false 12 cX12_move 0 kX12_move = true := by decide +kernel
set_option maxRecDepth 100000 in
theorem ckX12_undo : chkM false 12 cX12_undo 0 kX12_undo = true := by decide +kernel
set_option maxRecDepth 100000 in
theorem ckX12_keep : chkM false 12 cX12_keep 0 kX12_keep = true := by decide +kernel
set_option maxRecDepth 100000 in
theorem ckX12_back : chkM false 12 cX12_back 0 kX12_back = true := by decide +kernel
set_option maxRecDepth 100000 in
theorem ckX12_led : chkM false 12 cX12_led 0 kX12_led = true := by decide +kernel
set_option maxRecDepth 100000 in
theorem ckX12_size : chkM false 12 cX12_size 0 kX12_size = true := by decide +kernel
set_option maxRecDepth 100000 in
theorem ckX12_trouble : chkM false 12 cX12_trouble 0 kX12_trouble = true := by decide +kernel
set_option maxRecDepth 100000 in
theorem ckJ6_bitCount_0f7a4 : chkM false 13 cJ6_bitCount_0f7a4 0 kJ6_bitCount_0f7a4 = true := by decide +kernel
set_option maxRecDepth 100000 in
theorem ckX5_changeFor : chkM false 5 cX5_changeFor 0 kX5_changeFor = true := by decide +kernel
set_option maxRecDepth 100000 in
theorem ckX9_addPerson : chkM false 9 cX9_addPerson 0 kX9_addPerson = true := by decide +kernel
set_option maxRecDepth 100000 in
theorem ckX9_addTurn : chkM false 9 cX9_addTurn 0 kX9_addTurn = true := by decide +kernel
set_option maxRecDepth 100000 in
theorem ckX9_addUnsure : chkM false 9 cX9_addUnsure 0 kX9_addUnsure = true := by decide +kernel
