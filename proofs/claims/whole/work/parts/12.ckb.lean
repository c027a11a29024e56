set_option maxRecDepth 100000 in
theorem ckX8_keepImage : chkM false 8 cX8_keepImage 0 kX8_keepImage = true := by decide +kernel
set_option maxRecDepth 100000 in
theorem ckX8_goBack : chkM false 8 cX8_goBack 0 kX8_goBack = true := by decide +kernel
set_option maxRecDepth 100000 in
theorem ckX9_init : chkM true 9 cX9_init 0 kX9_init = true := by decide +kernel
set_option maxRecDepth 100000 in
theorem ckX9_clear : chkM false 9 cX9_clear 0 kX9_clear = true := by decide +kernel
set_option maxRecDepth 100000 in
theorem ckX9_isHome : chkM false 9 cX9_isHome 0 kX9_isHome = true := by decide +kernel
set_option maxRecDepth 100000 in
theorem ckX9_isUnsure : chkM false 9 cX9_isUnsure 0 kX9_isUnsure = true := by decide +kernel
set_option maxRecDepth 100000 in
theorem ckX9_homeStand : chkM false 9 cX9_homeStand 0 kX9_homeStand = true := by decide +kernel
set_option maxRecDepth 100000 in
theorem ckX9_changeBy : chkM false 9 cX9_changeBy 0 kX9_changeBy = true := by decide +kernel
set_option maxRecDepth 100000 in
theorem ckX9_unsureSets : chkM false 9 cX9_unsureSets 0 kX9_unsureSets = true := by decide +kernel
set_option maxRecDepth 100000 in
theorem ckX9_fitting : chkM false 9 cX9_fitting 0 kX9_fitting = true := by decide +kernel
set_option maxRecDepth 100000 in
theorem ckX9_standBy : chkM false 9 cX9_standBy 0 kX9_standBy = true := by decide +kernel
set_option maxRecDepth 100000 in
theorem ckX9_areUnlike : chkM false 9 cX9_areUnlike 0 kX9_areUnlike = true := by decide +kernel
set_option maxRecDepth 100000 in
theorem ckX9_leftAtMost : chkM false 9 cX9_leftAtMost 0 kX9_leftAtMost = true := by decide +kernel
set_option maxRecDepth 100000 in
theorem ckX9_shakeWeight : chkM false 9 cX9_shakeWeight 0 kX9_shakeWeight = true := by decide +kernel
set_option maxRecDepth 100000 in
theorem ckX10_init : chkM true 10 cX10_init 0 kX10_init = true := by decide +kernel
set_option maxRecDepth 100000 in
theorem ckX10_feed : chkM false 10 cX10_feed 0 kX10_feed = true := by decide +kernel
set_option maxRecDepth 100000 in
theorem ckX10_tube : chkM false 10 cX10_tube 0 kX10_tube = true := by decide +kernel
set_option maxRecDepth 100000 in
theorem ckX10_fault : chkM false 10 cX10_fault 0 kX10_fault = true := by decide +kernel
set_option maxRecDepth 100000 in
theorem ckX10_where : chkM false 10 cX10_where 0 kX10_where = true := by decide +kernel
set_option maxRecDepth 100000 in
theorem ckX10_person : chkM false 10 cX10_person 0 kX10_person = true := by decide +kernel
set_option maxRecDepth 100000 in
theorem ckX10_slot : chkM false 10 cX10_slot 0 kX10_slot = true := by decide +kernel
set_option maxRecDepth 100000 in
theorem ckX10_turned : chkM false 10 cX10_turned 0 kX10_turned = true := by decide +kernel
set_option maxRecDepth 100000 in
theorem ckX10_quarrels : chkM false 10 cX10_quarrels 0 kX10_quarrels = true := by decide +kernel
set_option maxRecDepth 100000 in
theorem ckX10_met : chkM false 10 cX10_met 0 kX10_met = true := by decide +kernel
set_option maxRecDepth 100000 in
theorem ckX10_ring : chkM false 10 cX10_ring 0 kX10_ring = true := by decide +kernel
set_option maxRecDepth 100000 in
theorem ckX10_truth : chkM false 10 cX10_truth 0 kX10_truth = true := by decide +kernel
set_option maxRecDepth 100000 in
theorem ckX10_image : chkM false 10 cX10_image 0 kX10_image = true := by decide +kernel
set_option maxRecDepth 100000 in
theorem ckX10_selves : chkM false 10 cX10_selves 0 kX10_selves = true := by decide +kernel
set_option maxRecDepth 100000 in
theorem ckX10_near : chkM false 10 cX10_near 0 kX10_near = true := by decide +kernel
set_option maxRecDepth 100000 in
theorem ckX10_seenIn : chkM false 10 cX10_seenIn 0 kX10_seenIn = true := by decide +kernel
set_option maxRecDepth 100000 in
theorem ckX10_slides : chkM false 10 cX10_slides 0 kX10_slides = true := by decide +kernel
set_option maxRecDepth 100000 in
theorem ckX10_round : chkM false 10 cX10_round 0 kX10_round = true := by decide +kernel
set_option maxRecDepth 100000 in
theorem ckX10_even : chkM false 10 cX10_even 0 kX10_even = true := by decide +kernel
set_option maxRecDepth 100000 in
theorem ckX10_fixes : chkM false 10 cX10_fixes 0 kX10_fixes = true := by decide +kernel
set_option maxRecDepth 100000 in
theorem ckX10_commute : chkM false 10 cX10_commute 0 kX10_commute = true := by decide +kernel
set_option maxRecDepth 100000 in
theorem ckX10_undoing : chkM false 10 cX10_undoing 0 kX10_undoing = true := by decide +kernel
set_option maxRecDepth 100000 in
theorem ckX10_reach : chkM false 10 cX10_reach 0 kX10_reach = true := by decide +kernel
set_option maxRecDepth 100000 in
theorem ckX10_deepest : chkM false 10 cX10_deepest 0 kX10_deepest = true := by decide +kernel
set_option maxRecDepth 100000 in
theorem ckX10_evens : chkM false 10 cX10_evens 0 kX10_evens = true := by decide +kernel
set_option maxRecDepth 100000 in
theorem ckX10_orbit : chkM false 10 cX10_orbit 0 kX10_orbit = true := by decide +kernel
set_option maxRecDepth 100000 in
theorem ckX10_keeps : chkM false 10 cX10_keeps 0 kX10_keeps = true := by decide +kernel
set_option maxRecDepth 100000 in
theorem ckX10_pairs : chkM false 10 cX10_pairs 0 kX10_pairs = true := by decide +kernel
set_option maxRecDepth 100000 in
theorem ckX10_centre : chkM false 10 cX10_centre 0 kX10_centre = true := by decide +kernel
set_option maxRecDepth 100000 in
theorem ckX10_errand : chkM false 10 cX10_errand 0 kX10_errand = true := by decide +kernel
set_option maxRecDepth 100000 in
theorem ckX10_errandAt : chkM false 10 cX10_errandAt 0 kX10_errandAt = true := by decide +kernel
set_option maxRecDepth 100000 in
theorem ckX10_peace : chkM false 10 cX10_peace 0 kX10_peace = true := by decide +kernel
set_option maxRecDepth 100000 in
theorem ckX10_peaceAt : chkM false 10 cX10_peaceAt 0 kX10_peaceAt = true := by decide +kernel
set_option maxRecDepth 100000 in
theorem ckX10_bring : chkM false 10 cX10_bring 0 kX10_bring = true := by decide +kernel
set_option maxRecDepth 100000 in
theorem ckX10_calmest : chkM false 10 cX10_calmest 0 kX10_calmest = true := by decide +kernel
set_option maxRecDepth 100000 in
theorem ckX10_colourings : chkM false 10 cX10_colourings 0 kX10_colourings = true := by decide +kernel
set_option maxRecDepth 100000 in
theorem ckX10_mirrored : chkM false 10 cX10_mirrored 0 kX10_mirrored = true := by decide +kernel
set_option maxRecDepth 100000 in
theorem ckX10_necklaces : chkM false 10 cX10_necklaces 0 kX10_necklaces = true := by decide +kernel
set_option maxRecDepth 100000 in
theorem ckX10_bracelets : chkM false 10 cX10_bracelets 0 kX10_bracelets = true := by decide +kernel
set_option maxRecDepth 100000 in
theorem ckX10_fits : chkM false 10 cX10_fits 0 kX10_fits = true := by decide +kernel
set_option maxRecDepth 100000 in
theorem ckX10_fitAt : chkM false 10 cX10_fitAt 0 kX10_fitAt = true := by decide +kernel
set_option maxRecDepth 100000 in
theorem ckX10_could : chkM false 10 cX10_could 0 kX10_could = true := by decide +kernel
set_option maxRecDepth 100000 in
theorem ckX10_surely : chkM false 10 cX10_surely 0 kX10_surely = true := by decide +kernel
set_option maxRecDepth 100000 in
theorem ckX10_ask : chkM false 10 cX10_ask 0 kX10_ask = true := by decide +kernel
set_option maxRecDepth 100000 in
theorem ckX10_askLeaves : chkM false 10 cX10_askLeaves 0 kX10_askLeaves = true := by decide +kernel
set_option maxRecDepth 100000 in
theorem ckX10_judge : chkM false 10 cX10_judge 0 kX10_judge = true := by decide +kernel
set_option maxRecDepth 100000 in
theorem ckX10_gets : chkM false 10 cX10_gets 0 kX10_gets = true := by decide +kernel
set_option maxRecDepth 100000 in
theorem ckX10_getsBy : chkM false 10 cX10_getsBy 0 kX10_getsBy = true := by decide +kernel
set_option maxRecDepth 100000 in
theorem ckX10_looks : chkM false 10 cX10_looks 0 kX10_looks = true := by decide +kernel
set_option maxRecDepth 100000 in
theorem ckX10_rests : chkM false 10 cX10_rests 0 kX10_rests = true := by decide +kernel
set_option maxRecDepth 100000 in
theorem ckX10_rest : chkM false 10 cX10_rest 0 kX10_rest = true := by decide +kernel
set_option maxRecDepth 100000 in
theorem ckX10_odds : chkM false 10 cX10_odds 0 kX10_odds = true := by decide +kernel
set_option maxRecDepth 100000 in
theorem ckX10_slotOdds : chkM false 10 cX10_slotOdds 0 kX10_slotOdds = true := by decide +kernel
set_option maxRecDepth 100000 in
theorem ckX10_mean : chkM false 10 cX10_mean 0 kX10_mean = true := by decide +kernel
set_option maxRecDepth 100000 in
theorem ckX10_shaken : chkM false 10 cX10_shaken 0 kX10_shaken = true := by decide +kernel
set_option maxRecDepth 100000 in
theorem ckX10_peaceIn : chkM false 10 cX10_peaceIn 0 kX10_peaceIn = true := by decide +kernel
set_option maxRecDepth 100000 in
theorem ckX10_turn : chkM false 10 cX10_turn 0 kX10_turn = true := by decide +kernel
set_option maxRecDepth 100000 in
theorem ckX10_turnBack : chkM false 10 cX10_turnBack 0 kX10_turnBack = true := by decide +kernel
set_option maxRecDepth 100000 in
theorem ckX10_move : chkM false 10 cX10_move 0 kX10_move = true := by decide +kernel
set_option maxRecDepth 100000 in
theorem ckX10_undo : chkM false 10 cX10_undo 0 kX10_undo = true := by decide +kernel
set_option maxRecDepth 100000 in
theorem ckX10_keep : chkM false 10 cX10_keep 0 kX10_keep = true := by decide +kernel
set_option maxRecDepth 100000 in
theorem ckX10_back : chkM false 10 cX10_back 0 kX10_back = true := by decide +kernel
set_option maxRecDepth 100000 in
theorem ckX10_led : chkM false 10 cX10_led 0 kX10_led = true := by decide +kernel
set_option maxRecDepth 100000 in
theorem ckX10_size : chkM false 10 cX10_size 0 kX10_size = true := by decide +kernel
set_option maxRecDepth 100000 in
theorem ckX10_trouble : chkM false 10 cX10_trouble 0 kX10_trouble = true := by decide +kernel
set_option maxRecDepth 100000 in
theorem ckX10_refused : chkM false 10 cX10_refused 0 kX10_refused = true := by decide +kernel
set_option maxRecDepth 100000 in
theorem ckX10_fine : chkM false 10 cX10_fine 0 kX10_fine = true := by decide +kernel
set_option maxRecDepth 100000 in
theorem ckX10_fineLong : chkM false 10 cX10_fineLong 0 kX10_fineLong = true := by decide +kernel
set_option maxRecDepth 100000 in
theorem ckX10_isTube : chkM false 10 cX10_isTube 0 kX10_isTube = true := by decide +kernel
set_option maxRecDepth 100000 in
theorem ckX10_isPerson : chkM false 10 cX10_isPerson 0 kX10_isPerson = true := by decide +kernel
set_option maxRecDepth 100000 in
theorem ckX10_areTwo : chkM false 10 cX10_areTwo 0 kX10_areTwo = true := by decide +kernel
set_option maxRecDepth 100000 in
theorem ckX10_isSlot : chkM false 10 cX10_isSlot 0 kX10_isSlot = true := by decide +kernel
set_option maxRecDepth 100000 in
theorem ckX10_isTurn : chkM false 10 cX10_isTurn 0 kX10_isTurn = true := by decide +kernel
set_option maxRecDepth 100000 in
theorem ckX10_isPlace : chkM false 10 cX10_isPlace 0 kX10_isPlace = true := by decide +kernel
set_option maxRecDepth 100000 in
theorem ckX10_areColours : chkM false 10 cX10_areColours 0 kX10_areColours = true := by decide +kernel
set_option maxRecDepth 100000 in
theorem ckX10_areBeads : chkM false 10 cX10_areBeads 0 kX10_areBeads = true := by decide +kernel
set_option maxRecDepth 100000 in
theorem ckX10_isBlue : chkM false 10 cX10_isBlue 0 kX10_isBlue = true := by decide +kernel
set_option maxRecDepth 100000 in
theorem ckX10_isSeed : chkM false 10 cX10_isSeed 0 kX10_isSeed = true := by decide +kernel
set_option maxRecDepth 100000 in
theorem ckX10_slotOf : chkM false 10 cX10_slotOf 0 kX10_slotOf = true := by decide +kernel
set_option maxRecDepth 100000 in
theorem ckX10_whoIsIn : chkM false 10 cX10_whoIsIn 0 kX10_whoIsIn = true := by decide +kernel
set_option maxRecDepth 100000 in
theorem ckX10_besideBits : chkM false 10 cX10_besideBits 0 kX10_besideBits = true := by decide +kernel
set_option maxRecDepth 100000 in
theorem ckX10_quarrelsBy : chkM false 10 cX10_quarrelsBy 0 kX10_quarrelsBy = true := by decide +kernel
set_option maxRecDepth 100000 in
theorem ckX10_sectors : chkM false 10 cX10_sectors 0 kX10_sectors = true := by decide +kernel
set_option maxRecDepth 100000 in
theorem ckX10_places : chkM false 10 cX10_places 0 kX10_places = true := by decide +kernel
set_option maxRecDepth 100000 in
theorem ckX10_slotAt : chkM false 10 cX10_slotAt 0 kX10_slotAt = true := by decide +kernel
set_option maxRecDepth 100000 in
theorem ckX10_placeIn : chkM false 10 cX10_placeIn 0 kX10_placeIn = true := by decide +kernel
set_option maxRecDepth 100000 in
theorem ckX10_reached : chkM false 10 cX10_reached 0 kX10_reached = true := by decide +kernel
set_option maxRecDepth 100000 in
theorem ckX10_errandChange : chkM false 10 cX10_errandChange 0 kX10_errandChange = true := by decide +kernel
set_option maxRecDepth 100000 in
theorem ckX10_peaceChange : chkM false 10 cX10_peaceChange 0 kX10_peaceChange = true := by decide +kernel
set_option maxRecDepth 100000 in
theorem ckX10_depthOrNot : chkM false 10 cX10_depthOrNot 0 kX10_depthOrNot = true := by decide +kernel
set_option maxRecDepth 100000 in
theorem ckX10_turnOnTheWay : chkM false 10 cX10_turnOnTheWay 0 kX10_turnOnTheWay = true := by decide +kernel
set_option maxRecDepth 100000 in
theorem ckX10_whomToAsk : chkM false 10 cX10_whomToAsk 0 kX10_whomToAsk = true := by decide +kernel
set_option maxRecDepth 100000 in
theorem ckX10_slideAll : chkM false 10 cX10_slideAll 0 kX10_slideAll = true := by decide +kernel
set_option maxRecDepth 100000 in
theorem ckX10_inLowestTerms : chkM false 10 cX10_inLowestTerms 0 kX10_inLowestTerms = true := by decide +kernel
