set_option maxRecDepth 100000 in
theorem ckX11_init : chkM true 11 cX11_init 0 kX11_init = true := by decide +kernel
set_option maxRecDepth 100000 in
theorem ckX11_find : chkM false 11 cX11_find 0 kX11_find = true := by decide +kernel
set_option maxRecDepth 100000 in
theorem ckX11_isTaken : chkM false 11 cX11_isTaken 0 kX11_isTaken = true := by decide +kernel
set_option maxRecDepth 100000 in
theorem ckX11_isUnsure : chkM false 11 cX11_isUnsure 0 kX11_isUnsure = true := by decide +kernel
set_option maxRecDepth 100000 in
theorem ckX12_init : chkM true 12 cX12_init 0 kX12_init = true := by decide +kernel
set_option maxRecDepth 100000 in
theorem ckX12_thrown : chkM false 12 cX12_thrown 0 kX12_thrown = true := by decide +kernel
set_option maxRecDepth 100000 in
theorem ckX12_refused : chkM false 12 cX12_refused 0 kX12_refused = true := by decide +kernel
set_option maxRecDepth 100000 in
theorem ckX12_lost : chkM false 12 cX12_lost 0 kX12_lost = true := by decide +kernel
set_option maxRecDepth 100000 in
theorem ckX12_denied : chkM false 12 cX12_denied 0 kX12_denied = true := by decide +kernel
set_option maxRecDepth 100000 in
theorem ckX12_good : chkM false 12 cX12_good 0 kX12_good = true := by decide +kernel
set_option maxRecDepth 100000 in
theorem ckX12_goodLong : chkM false 12 cX12_goodLong 0 kX12_goodLong = true := by decide +kernel
set_option maxRecDepth 100000 in
theorem ckX12_granted : chkM false 12 cX12_granted 0 kX12_granted = true := by decide +kernel
set_option maxRecDepth 100000 in
theorem ckX12_in : chkM false 12 cX12_in 0 kX12_in = true := by decide +kernel
set_option maxRecDepth 100000 in
theorem ckX12_bit : chkM false 12 cX12_bit 0 kX12_bit = true := by decide +kernel
set_option maxRecDepth 100000 in
theorem ckX12_bits : chkM false 12 cX12_bits 0 kX12_bits = true := by decide +kernel
set_option maxRecDepth 100000 in
theorem ckX12_common : chkM false 12 cX12_common 0 kX12_common = true := by decide +kernel
set_option maxRecDepth 100000 in
theorem ckX12_fraction : chkM false 12 cX12_fraction 0 kX12_fraction = true := by decide +kernel
set_option maxRecDepth 100000 in
theorem ckX12_power : chkM false 12 cX12_power 0 kX12_power = true := by decide +kernel
set_option maxRecDepth 100000 in
theorem ckX12_byteAt : chkM false 12 cX12_byteAt 0 kX12_byteAt = true := by decide +kernel
set_option maxRecDepth 100000 in
theorem ckX12_isLetter : chkM false 12 cX12_isLetter 0 kX12_isLetter = true := by decide +kernel
set_option maxRecDepth 100000 in
theorem ckX12_isDigit : chkM false 12 cX12_isDigit 0 kX12_isDigit = true := by decide +kernel
set_option maxRecDepth 100000 in
theorem ckX12_packed : chkM false 12 cX12_packed 0 kX12_packed = true := by decide +kernel
set_option maxRecDepth 100000 in
theorem ckX12_goesOn : chkM false 12 cX12_goesOn 0 kX12_goesOn = true := by decide +kernel
set_option maxRecDepth 100000 in
theorem ckX12_flaw : chkM false 12 cX12_flaw 0 kX12_flaw = true := by decide +kernel
set_option maxRecDepth 100000 in
theorem ckX12_isWord : chkM false 12 cX12_isWord 0 kX12_isWord = true := by decide +kernel
set_option maxRecDepth 100000 in
theorem ckX12_eatsSemicolon : chkM false 12 cX12_eatsSemicolon 0 kX12_eatsSemicolon = true := by decide +kernel
set_option maxRecDepth 100000 in
theorem ckX12_needs : chkM false 12 cX12_needs 0 kX12_needs = true := by decide +kernel
set_option maxRecDepth 100000 in
theorem ckX12_wholeAt : chkM false 12 cX12_wholeAt 0 kX12_wholeAt = true := by decide +kernel
set_option maxRecDepth 100000 in
theorem ckX12_readPart : chkM false 12 cX12_readPart 0 kX12_readPart = true := by decide +kernel
set_option maxRecDepth 100000 in
theorem ckX12_isName : chkM false 12 cX12_isName 0 kX12_isName = true := by decide +kernel
set_option maxRecDepth 100000 in
theorem ckX12_lineBegins : chkM false 12 cX12_lineBegins 0 kX12_lineBegins = true := by decide +kernel
set_option maxRecDepth 100000 in
theorem ckX12_readFresh : chkM false 12 cX12_readFresh 0 kX12_readFresh = true := by decide +kernel
set_option maxRecDepth 100000 in
theorem ckX12_names : chkM false 12 cX12_names 0 kX12_names = true := by decide +kernel
set_option maxRecDepth 100000 in
theorem ckX12_personAtHand : chkM false 12 cX12_personAtHand 0 kX12_personAtHand = true := by decide +kernel
set_option maxRecDepth 100000 in
theorem ckX12_readTwo : chkM false 12 cX12_readTwo 0 kX12_readTwo = true := by decide +kernel
set_option maxRecDepth 100000 in
theorem ckX12_readAll : chkM false 12 cX12_readAll 0 kX12_readAll = true := by decide +kernel
set_option maxRecDepth 100000 in
theorem ckX12_readLine : chkM false 12 cX12_readLine 0 kX12_readLine = true := by decide +kernel
set_option maxRecDepth 100000 in
theorem ckX12_readTube : chkM false 12 cX12_readTube 0 kX12_readTube = true := by decide +kernel
set_option maxRecDepth 100000 in
theorem ckX12_readPerson : chkM false 12 cX12_readPerson 0 kX12_readPerson = true := by decide +kernel
set_option maxRecDepth 100000 in
theorem ckX12_readTurn : chkM false 12 cX12_readTurn 0 kX12_readTurn = true := by decide +kernel
set_option maxRecDepth 100000 in
theorem ckX12_readQuarrel : chkM false 12 cX12_readQuarrel 0 kX12_readQuarrel = true := by decide +kernel
set_option maxRecDepth 100000 in
theorem ckX12_readWish : chkM false 12 cX12_readWish 0 kX12_readWish = true := by decide +kernel
set_option maxRecDepth 100000 in
theorem ckX12_readUnsure : chkM false 12 cX12_readUnsure 0 kX12_readUnsure = true := by decide +kernel
set_option maxRecDepth 100000 in
theorem ckX12_readSeen : chkM false 12 cX12_readSeen 0 kX12_readSeen = true := by decide +kernel
set_option maxRecDepth 100000 in
theorem ckX12_feed : chkM false 12 cX12_feed 0 kX12_feed = true := by decide +kernel
set_option maxRecDepth 100000 in
theorem ckX12_tube : chkM false 12 cX12_tube 0 kX12_tube = true := by decide +kernel
set_option maxRecDepth 100000 in
theorem ckX12_fault : chkM false 12 cX12_fault 0 kX12_fault = true := by decide +kernel
set_option maxRecDepth 100000 in
theorem ckX12_where : chkM false 12 cX12_where 0 kX12_where = true := by decide +kernel
set_option maxRecDepth 100000 in
theorem ckX12_isPerson : chkM false 12 cX12_isPerson 0 kX12_isPerson = true := by decide +kernel
set_option maxRecDepth 100000 in
theorem ckX12_isSlot : chkM false 12 cX12_isSlot 0 kX12_isSlot = true := by decide +kernel
set_option maxRecDepth 100000 in
theorem ckX12_isTurn : chkM false 12 cX12_isTurn 0 kX12_isTurn = true := by decide +kernel
set_option maxRecDepth 100000 in
theorem ckX12_areTwo : chkM false 12 cX12_areTwo 0 kX12_areTwo = true := by decide +kernel
set_option maxRecDepth 100000 in
theorem ckX12_works : chkM false 12 cX12_works 0 kX12_works = true := by decide +kernel
set_option maxRecDepth 100000 in
theorem ckX12_slid : chkM false 12 cX12_slid 0 kX12_slid = true := by decide +kernel
set_option maxRecDepth 100000 in
theorem ckX12_ranked : chkM false 12 cX12_ranked 0 kX12_ranked = true := by decide +kernel
set_option maxRecDepth 100000 in
theorem ckX12_layWay : chkM false 12 cX12_layWay 0 kX12_layWay = true := by decide +kernel
set_option maxRecDepth 100000 in
theorem ckX12_adds : chkM false 12 cX12_adds 0 kX12_adds = true := by decide +kernel
set_option maxRecDepth 100000 in
theorem ckX12_reaches : chkM false 12 cX12_reaches 0 kX12_reaches = true := by decide +kernel
set_option maxRecDepth 100000 in
theorem ckX12_comes : chkM false 12 cX12_comes 0 kX12_comes = true := by decide +kernel
set_option maxRecDepth 100000 in
theorem ckX12_goesBy : chkM false 12 cX12_goesBy 0 kX12_goesBy = true := by decide +kernel
set_option maxRecDepth 100000 in
theorem ckX12_ringsOf : chkM false 12 cX12_ringsOf 0 kX12_ringsOf = true := by decide +kernel
set_option maxRecDepth 100000 in
theorem ckX12_isEven : chkM false 12 cX12_isEven 0 kX12_isEven = true := by decide +kernel
set_option maxRecDepth 100000 in
theorem ckX12_fixed : chkM false 12 cX12_fixed 0 kX12_fixed = true := by decide +kernel
set_option maxRecDepth 100000 in
theorem ckX12_areBeside : chkM false 12 cX12_areBeside 0 kX12_areBeside = true := by decide +kernel
set_option maxRecDepth 100000 in
theorem ckX12_besideOf : chkM false 12 cX12_besideOf 0 kX12_besideOf = true := by decide +kernel
set_option maxRecDepth 100000 in
theorem ckX12_person : chkM false 12 cX12_person 0 kX12_person = true := by decide +kernel
set_option maxRecDepth 100000 in
theorem ckX12_whoIn : chkM false 12 cX12_whoIn 0 kX12_whoIn = true := by decide +kernel
set_option maxRecDepth 100000 in
theorem ckX12_slot : chkM false 12 cX12_slot 0 kX12_slot = true := by decide +kernel
set_option maxRecDepth 100000 in
theorem ckX12_turned : chkM false 12 cX12_turned 0 kX12_turned = true := by decide +kernel
set_option maxRecDepth 100000 in
theorem ckX12_quarrelsNow : chkM false 12 cX12_quarrelsNow 0 kX12_quarrelsNow = true := by decide +kernel
set_option maxRecDepth 100000 in
theorem ckX12_quarrels : chkM false 12 cX12_quarrels 0 kX12_quarrels = true := by decide +kernel
set_option maxRecDepth 100000 in
theorem ckX12_metNow : chkM false 12 cX12_metNow 0 kX12_metNow = true := by decide +kernel
set_option maxRecDepth 100000 in
theorem ckX12_met : chkM false 12 cX12_met 0 kX12_met = true := by decide +kernel
set_option maxRecDepth 100000 in
theorem ckX12_places : chkM false 12 cX12_places 0 kX12_places = true := by decide +kernel
set_option maxRecDepth 100000 in
theorem ckX12_isPlace : chkM false 12 cX12_isPlace 0 kX12_isPlace = true := by decide +kernel
set_option maxRecDepth 100000 in
theorem ckX12_seenSlot : chkM false 12 cX12_seenSlot 0 kX12_seenSlot = true := by decide +kernel
set_option maxRecDepth 100000 in
theorem ckX12_ring : chkM false 12 cX12_ring 0 kX12_ring = true := by decide +kernel
set_option maxRecDepth 100000 in
theorem ckX12_truth : chkM false 12 cX12_truth 0 kX12_truth = true := by decide +kernel
set_option maxRecDepth 100000 in
theorem ckX12_image : chkM false 12 cX12_image 0 kX12_image = true := by decide +kernel
set_option maxRecDepth 100000 in
theorem ckX12_selves : chkM false 12 cX12_selves 0 kX12_selves = true := by decide +kernel
set_option maxRecDepth 100000 in
theorem ckX12_near : chkM false 12 cX12_near 0 kX12_near = true := by decide +kernel
set_option maxRecDepth 100000 in
theorem ckX12_seenIn : chkM false 12 cX12_seenIn 0 kX12_seenIn = true := by decide +kernel
set_option maxRecDepth 100000 in
theorem ckX12_layRow : chkM false 12 cX12_layRow 0 kX12_layRow = true := by decide +kernel
set_option maxRecDepth 100000 in
theorem ckX12_slides : chkM false 12 cX12_slides 0 kX12_slides = true := by decide +kernel
set_option maxRecDepth 100000 in
theorem ckX12_round : chkM false 12 cX12_round 0 kX12_round = true := by decide +kernel
set_option maxRecDepth 100000 in
theorem ckX12_even : chkM false 12 cX12_even 0 kX12_even = true := by decide +kernel
