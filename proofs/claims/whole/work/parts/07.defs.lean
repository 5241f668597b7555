/-! the methods as pure functions, by wip/whole/gen.py out of the decode rows -/
def mX3_add : MI := (3, yX3_add, cX3_add, 2, (some .boolean), 0, 0)
def mX4_write : MI := (4, yX4_write, cX4_write, 2, (some .int), 1, 21)
def mX5_in : MI := (5, yX5_in, cX5_in, 6, (some .boolean), 0, 0)
def mX5_write : MI := (5, yX5_write, cX5_write, 2, (some .int), 1, 25)
def mX4_wipe : MI := (4, yX4_wipe, cX4_wipe, 2, (some .int), 0, 0)
def mX5_wipe : MI := (5, yX5_wipe, cX5_wipe, 2, (some .int), 0, 0)
def mX1_clear : MI := (1, yX1_clear, cX1_clear, 1, none, 0, 0)
def mX1_isPerson : MI := (1, yX1_isPerson, cX1_isPerson, 2, (some .boolean), 0, 0)
def mX1_isMatter : MI := (1, yX1_isMatter, cX1_isMatter, 2, (some .boolean), 0, 0)
def mX1_canSee : MI := (1, yX1_canSee, cX1_canSee, 3, (some .boolean), 1, 21)
def mX1_canSeeMore : MI := (1, yX1_canSeeMore, cX1_canSeeMore, 3, (some .boolean), 2, 43)
def mX1_canAnybodySee : MI := (1, yX1_canAnybodySee, cX1_canAnybodySee, 2, (some .boolean), 3, 65)
def mX1_canBegin : MI := (1, yX1_canBegin, cX1_canBegin, 2, (some .boolean), 4, 86)
def mX1_isFigure : MI := (1, yX1_isFigure, cX1_isFigure, 1, (some .boolean), 0, 0)
def mX1_canGoOn : MI := (1, yX1_canGoOn, cX1_canGoOn, 3, (some .boolean), 3, 65)
def mX1_setKind : MI := (1, yX1_setKind, cX1_setKind, 3, none, 0, 0)
def mX1_addPerson : MI := (1, yX1_addPerson, cX1_addPerson, 4, (some .boolean), 1, 22)
def mX1_addMatter : MI := (1, yX1_addMatter, cX1_addMatter, 3, (some .boolean), 0, 0)
def mX1_letSee : MI := (1, yX1_letSee, cX1_letSee, 3, none, 1, 21)
def mX1_takesPart : MI := (1, yX1_takesPart, cX1_takesPart, 4, (some .boolean), 2, 45)
def mX3_readInto : MI := (3, yX3_readInto, cX3_readInto, 7, (some .int), 5, 107)
def mX4_fault : MI := (4, yX4_fault, cX4_fault, 1, (some .int), 6, 133)
def mX5_has : MI := (5, yX5_has, cX5_has, 2, (some .boolean), 0, 0)
def mX5_figureOf : MI := (5, yX5_figureOf, cX5_figureOf, 3, (some .int), 1, 25)
def mX5_left : MI := (5, yX5_left, cX5_left, 2, (some .int), 0, 0)
def mX5_firstsLeft : MI := (5, yX5_firstsLeft, cX5_firstsLeft, 3, (some .int), 1, 21)
def mX5_readPart : MI := (5, yX5_readPart, cX5_readPart, 4, none, 2, 47)
def mX5_readText : MI := (5, yX5_readText, cX5_readText, 2, (some .int), 3, 70)
def mX5_fault : MI := (5, yX5_fault, cX5_fault, 1, (some .int), 4, 91)
def mX1_become : MI := (1, yX1_become, cX1_become, 3, none, 0, 0)
def mX4_court : MI := (4, yX4_court, cX4_court, 1, (some .int), 6, 133)
def mX5_court : MI := (5, yX5_court, cX5_court, 2, (some .int), 4, 91)
def mX1_eyeOf : MI := (1, yX1_eyeOf, cX1_eyeOf, 2, (some .int), 0, 0)
def mX1_kindOf : MI := (1, yX1_kindOf, cX1_kindOf, 3, (some .int), 0, 0)
def mX1_witnessesOf : MI := (1, yX1_witnessesOf, cX1_witnessesOf, 2, (some .int), 1, 21)
def mX1_seenBy : MI := (1, yX1_seenBy, cX1_seenBy, 4, (some .int), 2, 42)
def mX1_finesOf : MI := (1, yX1_finesOf, cX1_finesOf, 2, (some .int), 1, 21)
def mX4_person : MI := (4, yX4_person, cX4_person, 3, (some .int), 3, 65)
def mX5_isPerson : MI := (5, yX5_isPerson, cX5_isPerson, 2, (some .boolean), 1, 25)
def mX5_person : MI := (5, yX5_person, cX5_person, 3, (some .int), 2, 46)
def mX1_halfOf : MI := (1, yX1_halfOf, cX1_halfOf, 3, (some .int), 1, 21)
def mX1_knownAs : MI := (1, yX1_knownAs, cX1_knownAs, 2, (some .int), 1, 21)
def mX1_seersOf : MI := (1, yX1_seersOf, cX1_seersOf, 4, (some .int), 1, 21)
def mX4_matter : MI := (4, yX4_matter, cX4_matter, 3, (some .int), 2, 44)
def mX5_isMatter : MI := (5, yX5_isMatter, cX5_isMatter, 2, (some .boolean), 1, 25)
def mX5_sees : MI := (5, yX5_sees, cX5_sees, 8, (some .boolean), 1, 21)
def mX5_seeing : MI := (5, yX5_seeing, cX5_seeing, 6, (some .int), 2, 48)
def mX5_matter : MI := (5, yX5_matter, cX5_matter, 3, (some .int), 3, 73)
def mX4_isHalf : MI := (4, yX4_isHalf, cX4_isHalf, 1, (some .boolean), 0, 0)
def mX1_saidBy : MI := (1, yX1_saidBy, cX1_saidBy, 5, (some .int), 2, 44)
def mX4_says : MI := (4, yX4_says, cX4_says, 4, (some .int), 3, 68)
def mX5_saysOn : MI := (5, yX5_saysOn, cX5_saysOn, 6, (some .int), 0, 0)
def mX5_says : MI := (5, yX5_says, cX5_says, 4, (some .int), 2, 48)
def mX0_forgetFirst : MI := (0, yX0_forgetFirst, cX0_forgetFirst, 2, none, 0, 0)
def mX0_add : MI := (0, yX0_add, cX0_add, 4, none, 1, 21)
def mJ6_bitCount_0f7a4 : MI := (7, yJ6_bitCount_0f7a4, cJ6_bitCount_0f7a4, 1, (some .int), 0, 0)
def mX4_show : MI := (4, yX4_show, cX4_show, 3, (some .int), 2, 44)
def mX5_canShow : MI := (5, yX5_canShow, cX5_canShow, 4, (some .boolean), 2, 46)
def mX5_keepAct : MI := (5, yX5_keepAct, cX5_keepAct, 2, none, 0, 0)
def mX5_show : MI := (5, yX5_show, cX5_show, 5, (some .int), 3, 69)
def mX1_isCouple : MI := (1, yX1_isCouple, cX1_isCouple, 4, (some .boolean), 2, 44)
def mX1_canLearn : MI := (1, yX1_canLearn, cX1_canLearn, 4, (some .boolean), 3, 67)
def mX1_toldBy : MI := (1, yX1_toldBy, cX1_toldBy, 4, (some .int), 3, 68)
def mX1_setKnown : MI := (1, yX1_setKnown, cX1_setKnown, 3, none, 1, 21)
def mX4_swear : MI := (4, yX4_swear, cX4_swear, 4, (some .int), 4, 91)
def mX5_isCouple : MI := (5, yX5_isCouple, cX5_isCouple, 5, (some .boolean), 2, 48)
def mX5_canSwear : MI := (5, yX5_canSwear, cX5_canSwear, 5, (some .boolean), 3, 72)
def mX5_sworn : MI := (5, yX5_sworn, cX5_sworn, 5, (some .int), 1, 25)
def mX5_swear : MI := (5, yX5_swear, cX5_swear, 4, (some .int), 4, 96)
def mX4_deny : MI := (4, yX4_deny, cX4_deny, 3, (some .int), 2, 44)
def mX5_deny : MI := (5, yX5_deny, cX5_deny, 3, (some .int), 2, 46)
def mX1_canLoseGlass : MI := (1, yX1_canLoseGlass, cX1_canLoseGlass, 2, (some .boolean), 1, 22)
def mX1_fine : MI := (1, yX1_fine, cX1_fine, 3, none, 1, 21)
def mX1_loseGlass : MI := (1, yX1_loseGlass, cX1_loseGlass, 3, none, 2, 43)
def mX4_drop : MI := (4, yX4_drop, cX4_drop, 2, (some .int), 3, 65)
def mX5_canDrop : MI := (5, yX5_canDrop, cX5_canDrop, 3, (some .boolean), 2, 46)
def mX5_dropOn : MI := (5, yX5_dropOn, cX5_dropOn, 4, none, 0, 0)
def mX5_drop : MI := (5, yX5_drop, cX5_drop, 2, (some .int), 3, 68)
def mX1_letUnsee : MI := (1, yX1_letUnsee, cX1_letUnsee, 3, none, 1, 21)
def mX1_regainGlass : MI := (1, yX1_regainGlass, cX1_regainGlass, 4, none, 2, 43)
def mX0_takeBackLast : MI := (0, yX0_takeBackLast, cX0_takeBackLast, 4, none, 3, 66)
def mX4_undo : MI := (4, yX4_undo, cX4_undo, 1, (some .int), 4, 89)
def mX5_undo : MI := (5, yX5_undo, cX5_undo, 2, (some .int), 0, 0)
def mX1_asItIs : MI := (1, yX1_asItIs, cX1_asItIs, 2, (some .int), 2, 43)
def mX1_couplesOf : MI := (1, yX1_couplesOf, cX1_couplesOf, 6, (some .int), 4, 91)
def mX1_firstCoupleOf : MI := (1, yX1_firstCoupleOf, cX1_firstCoupleOf, 4, (some .int), 3, 67)
def mX4_couples : MI := (4, yX4_couples, cX4_couples, 3, (some .int), 5, 116)
def mX5_couples : MI := (5, yX5_couples, cX5_couples, 9, (some .int), 3, 72)
def mX1_everybody : MI := (1, yX1_everybody, cX1_everybody, 1, (some .int), 0, 0)
def mX1_hasCoupleAmong : MI := (1, yX1_hasCoupleAmong, cX1_hasCoupleAmong, 5, (some .boolean), 2, 44)
def mX1_knowableAmong : MI := (1, yX1_knowableAmong, cX1_knowableAmong, 4, (some .int), 3, 68)
def mX4_isFewer : MI := (4, yX4_isFewer, cX4_isFewer, 4, (some .boolean), 1, 20)
def mX4_cover : MI := (4, yX4_cover, cX4_cover, 5, (some .int), 4, 91)
def mX5_every : MI := (5, yX5_every, cX5_every, 1, (some .int), 0, 0)
def mX5_ones : MI := (5, yX5_ones, cX5_ones, 3, (some .int), 0, 0)
def mX5_isBy : MI := (5, yX5_isBy, cX5_isBy, 6, (some .boolean), 3, 73)
def mX5_canBe : MI := (5, yX5_canBe, cX5_canBe, 5, (some .int), 4, 98)
def mX5_cover : MI := (5, yX5_cover, cX5_cover, 5, (some .int), 5, 122)
def mX4_silence : MI := (4, yX4_silence, cX4_silence, 5, (some .int), 3, 68)
def mX5_silence : MI := (5, yX5_silence, cX5_silence, 5, (some .int), 4, 98)
def mX4_leastIn : MI := (4, yX4_leastIn, cX4_leastIn, 2, (some .int), 0, 0)
def mX4_standingRow : MI := (4, yX4_standingRow, cX4_standingRow, 2, (some .int), 0, 0)
def mX1_areCoupleForSome : MI := (1, yX1_areCoupleForSome, cX1_areCoupleForSome, 4, (some .boolean), 3, 67)
def mX4_pairsIn : MI := (4, yX4_pairsIn, cX4_pairsIn, 1, (some .int), 0, 0)
def mX4_power : MI := (4, yX4_power, cX4_power, 4, (some .int), 0, 0)
def mX4_betterRow : MI := (4, yX4_betterRow, cX4_betterRow, 4, (some .int), 1, 21)
def mX4_bestRowIn : MI := (4, yX4_bestRowIn, cX4_bestRowIn, 8, (some .int), 4, 90)
def mX4_bestRow : MI := (4, yX4_bestRow, cX4_bestRow, 4, (some .int), 5, 117)
def mX4_match : MI := (4, yX4_match, cX4_match, 3, (some .int), 6, 140)
def mX5_layEdges : MI := (5, yX5_layEdges, cX5_layEdges, 4, (some .int), 5, 122)
def mX5_toldOf : MI := (5, yX5_toldOf, cX5_toldOf, 4, (some .int), 1, 21)
def mX5_rowOf : MI := (5, yX5_rowOf, cX5_rowOf, 8, (some .int), 2, 44)
def mX5_match : MI := (5, yX5_match, cX5_match, 5, (some .int), 6, 145)
def mX4_withoutDoings : MI := (4, yX4_withoutDoings, cX4_withoutDoings, 4, (some .int), 0, 0)
def mX1_seesNow : MI := (1, yX1_seesNow, cX1_seesNow, 4, (some .boolean), 2, 43)
def mX1_isForgotten : MI := (1, yX1_isForgotten, cX1_isForgotten, 3, (some .boolean), 2, 43)
def mX1_losesGlass : MI := (1, yX1_losesGlass, cX1_losesGlass, 3, (some .boolean), 3, 65)
def mX1_isLearnt : MI := (1, yX1_isLearnt, cX1_isLearnt, 5, (some .boolean), 4, 91)
def mX1_doneAsTold : MI := (1, yX1_doneAsTold, cX1_doneAsTold, 5, (some .boolean), 5, 115)
def mX4_judge : MI := (4, yX4_judge, cX4_judge, 4, (some .int), 6, 139)
def mX5_power : MI := (5, yX5_power, cX5_power, 4, (some .int), 0, 0)
def mX5_layTrial : MI := (5, yX5_layTrial, cX5_layTrial, 2, none, 0, 0)
def mX5_tryThing : MI := (5, yX5_tryThing, cX5_tryThing, 5, (some .boolean), 4, 96)
def mX5_judge : MI := (5, yX5_judge, cX5_judge, 5, (some .int), 5, 120)
def mX2_add : MI := (2, yX2_add, cX2_add, 4, (some .boolean), 0, 0)
def mX4_hear : MI := (4, yX4_hear, cX4_hear, 4, (some .int), 1, 23)
def mX5_hear : MI := (5, yX5_hear, cX5_hear, 4, (some .int), 2, 46)
def mX4_unhear : MI := (4, yX4_unhear, cX4_unhear, 2, (some .int), 0, 0)
def mX5_unhear : MI := (5, yX5_unhear, cX5_unhear, 2, (some .int), 0, 0)
def mX2_allows : MI := (2, yX2_allows, cX2_allows, 7, (some .boolean), 0, 0)
def mX4_values : MI := (4, yX4_values, cX4_values, 6, (some .int), 1, 26)
def mX5_mayBe : MI := (5, yX5_mayBe, cX5_mayBe, 8, (some .boolean), 0, 0)
def mX5_values : MI := (5, yX5_values, cX5_values, 6, (some .int), 2, 46)
def mX4_factorial : MI := (4, yX4_factorial, cX4_factorial, 3, (some .int), 0, 0)
def mX4_ordersWithAhead : MI := (4, yX4_ordersWithAhead, cX4_ordersWithAhead, 3, (some .int), 1, 22)
def mX4_inLeastTerms : MI := (4, yX4_inLeastTerms, cX4_inLeastTerms, 7, (some .int), 0, 0)
def mX4_share : MI := (4, yX4_share, cX4_share, 8, (some .int), 4, 91)
def mX5_factorial : MI := (5, yX5_factorial, cX5_factorial, 3, (some .int), 0, 0)
def mX5_common : MI := (5, yX5_common, cX5_common, 5, (some .int), 0, 0)
def mX5_share : MI := (5, yX5_share, cX5_share, 6, (some .int), 5, 122)
def mX1_areCouple : MI := (1, yX1_areCouple, cX1_areCouple, 4, (some .boolean), 3, 67)
def mX4_gainOf : MI := (4, yX4_gainOf, cX4_gainOf, 6, (some .int), 4, 90)
def mX4_isContent : MI := (4, yX4_isContent, cX4_isContent, 6, (some .boolean), 5, 115)
def mX4_rests : MI := (4, yX4_rests, cX4_rests, 10, (some .int), 6, 140)
def mX5_gain : MI := (5, yX5_gain, cX5_gain, 5, (some .int), 0, 0)
def mX5_rests : MI := (5, yX5_rests, cX5_rests, 12, (some .int), 4, 98)
def mX4_come : MI := (4, yX4_come, cX4_come, 8, (some .int), 3, 68)
def mX5_come : MI := (5, yX5_come, cX5_come, 8, (some .int), 4, 98)
def mX4_seed : MI := (4, yX4_seed, cX4_seed, 5, (some .long), 0, 0)
def mX5_seed : MI := (5, yX5_seed, cX5_seed, 5, (some .long), 0, 0)
def mX1_passYear : MI := (1, yX1_passYear, cX1_passYear, 2, none, 4, 87)
def mX4_years : MI := (4, yX4_years, cX4_years, 4, (some .int), 5, 108)
def mX5_years : MI := (5, yX5_years, cX5_years, 5, (some .int), 5, 122)
def mX4_isSlot : MI := (4, yX4_isSlot, cX4_isSlot, 1, (some .boolean), 0, 0)
def mX4_keptIn : MI := (4, yX4_keptIn, cX4_keptIn, 2, (some (.object "HalfTruths$Court")), 0, 0)
def mX1_knownMatters : MI := (1, yX1_knownMatters, cX1_knownMatters, 3, (some .int), 2, 42)
def mX4_keep : MI := (4, yX4_keep, cX4_keep, 2, (some .int), 3, 64)
def mX5_known : MI := (5, yX5_known, cX5_known, 5, (some .int), 0, 0)
def mX5_keep : MI := (5, yX5_keep, cX5_keep, 3, (some .int), 1, 25)
def mX4_again : MI := (4, yX4_again, cX4_again, 2, (some .int), 3, 64)
def mX5_again : MI := (5, yX5_again, cX5_again, 3, (some .int), 1, 25)
def mX1_rightlyKnownMatters : MI := (1, yX1_rightlyKnownMatters, cX1_rightlyKnownMatters, 3, (some .int), 3, 64)
def mX1_allFines : MI := (1, yX1_allFines, cX1_allFines, 3, (some .int), 2, 42)
def mX4_count : MI := (4, yX4_count, cX4_count, 2, (some .int), 4, 91)
def mX5_count : MI := (5, yX5_count, cX5_count, 4, (some .int), 5, 122)
set_option maxRecDepth 20000 in
def f_X3_add (h : HS) (p1 : Int32) : Option (Bool × HS) :=
  if (h.1 1 1) < 0 then (some (false, h)) else (if (h.1 1 1) < 48 then (bd (wr h 2 48 (h.1 1 1) p1) fun h1 => Lt (hset h1 1 1 ((h1.1 1 1) + 1)) fun h2 => some (true, h2)) else (some (false, h)))
set_option maxRecDepth 20000 in
def f_X4_write (h : HS) (p1 : Int32) : Option (Int32 × HS) :=
  if p1 < 0 then (some ((-2), h)) else (if (255 : Int32) < p1 then (some ((-2), h)) else (bd2 (f_X3_add h p1) fun r1 h2 => if r1 = true then (some ((h2.1 1 1), h2)) else (some ((-4), h2))))
set_option maxRecDepth 20000 in
def f_X5_in (h : HS) (p0 : Int64) (p2 : Int64) (p4 : Int64) : Option Bool :=
  if (lg_cmp p0 p2) < 0 then (some false) else (if (0 : Int32) < (lg_cmp p0 p4) then (some false) else (some true))
set_option maxRecDepth 20000 in
def f_X5_write (h : HS) (p1 : Int32) : Option (Int32 × HS) :=
  bd (f_X5_in h (Int32.toInt64 p1) 0 255) fun r1 => if r1 = true then (if (h.1 36 10) = 48 then (some ((-4), h)) else (bd (wr h 42 48 (h.1 36 10) p1) fun h2 => Lt (hset h2 36 10 ((h2.1 36 10) + 1)) fun h3 => some ((h3.1 36 10), h3))) else (some ((-2), h))
set_option maxRecDepth 20000 in
def f_X4_wipe (h : HS) : Option (Int32 × HS) :=
  Lt (h.1 1 1) fun v1 => Lt (hset h 1 1 0) fun h2 => some (v1, h2)
set_option maxRecDepth 20000 in
def f_X5_wipe (h : HS) : Option (Int32 × HS) :=
  Lt (h.1 36 10) fun v1 => Lt (hset h 36 10 0) fun h2 => some (v1, h2)
set_option maxRecDepth 20000 in
def f_X1_clear (h : HS) (a : Nat) : Option HS :=
  Lt (hset h a 0 0) fun h1 => Lt (hset h1 a 1 0) fun h2 => Lt (hset h2 a 2 0) fun h3 => Lt (hset h3 a 3 0) fun h4 => Lt (hset h4 a 4 0) fun h5 => Lt (hset h5 a 5 0) fun h6 => some h6
set_option maxRecDepth 20000 in
def f_X1_isPerson (h : HS) (a : Nat) (p1 : Int32) : Option Bool :=
  if p1 < 0 then (some false) else (if p1 < (h.1 a 0) then (if p1 < 6 then (some true) else (some false)) else (some false))
set_option maxRecDepth 20000 in
def f_X1_isMatter (h : HS) (a : Nat) (p1 : Int32) : Option Bool :=
  if p1 < 0 then (some false) else (if p1 < (h.1 a 1) then (if p1 < 4 then (some true) else (some false)) else (some false))
set_option maxRecDepth 20000 in
def f_X1_canSee (h : HS) (a : Nat) (p1 : Int32) (p2 : Int32) : Option Bool :=
  bd (f_X1_isPerson h a p1) fun r1 => if r1 = true then (bd (f_X1_isMatter h a p2) fun r2 => if r2 = true then (bd (rd h (a + 1) 4 p2) fun r3 => if ((r3 >>> (p1 &&& 31)) &&& 1) = 0 then (some true) else (some false)) else (some false)) else (some false)
set_option maxRecDepth 20000 in
def f_X1_canSeeMore (h : HS) (a : Nat) (p1 : Int32) : Option Bool :=
  loop1 (fun rec2 (i1 : Int32) => if i1 < (h.1 a 1) then (bd (f_X1_canSee h a p1 i1) fun r4 => if r4 = true then (some true) else (rec2 (i1 + 1))) else (some false)) 400 0
set_option maxRecDepth 20000 in
def f_X1_canAnybodySee (h : HS) (a : Nat) : Option Bool :=
  loop1 (fun rec2 (i1 : Int32) => if i1 < (h.1 a 0) then (bd (f_X1_canSeeMore h a i1) fun r4 => if r4 = true then (some true) else (rec2 (i1 + 1))) else (some false)) 400 0
set_option maxRecDepth 20000 in
def f_X1_canBegin (h : HS) (a : Nat) (p1 : Int32) : Option Bool :=
  if p1 = 77 then (if (h.1 a 1) < 4 then (some true) else (some false)) else (if p1 = 80 then (if (h.1 a 0) < 6 then (some true) else (some false)) else (if p1 = 83 then (bd (f_X1_canAnybodySee h a) fun r1 => some r1) else (some false)))
set_option maxRecDepth 20000 in
def f_X1_isFigure (h : HS) (p0 : Int32) : Option Bool :=
  if p0 < 0 then (some false) else (if (9 : Int32) < p0 then (some false) else (some true))
set_option maxRecDepth 20000 in
def f_X1_canGoOn (h : HS) (a : Nat) (p1 : Int32) (p2 : Int32) : Option Bool :=
  if p1 = 77 then (bd (f_X1_isFigure h p2) fun r2 => some r2) else (if p1 = 80 then (if p2 = 0 then (some true) else (if p2 = 1 then (some true) else (some false))) else (if p1 = 83 then (bd (f_X1_canSeeMore h a p2) fun r1 => some r1) else (some false)))
set_option maxRecDepth 20000 in
def f_X1_setKind (h : HS) (a : Nat) (p1 : Int32) (p2 : Int32) : Option HS :=
  jn (fun (t1 : Int32) => Lt (hset h a 3 t1) fun h4 => jn (fun (t5 : Int32) => Lt (hset h4 a 4 t5) fun h8 => jn (fun (t9 : Int32) => Lt (hset h8 a 5 t9) fun h12 => some h12) (fun j10 => if p2 = 3 then (j10 ((h8.1 a 5) ||| p1)) else (j10 ((h8.1 a 5) &&& (p1 ^^^ (-1)))))) (fun j6 => if p2 = 2 then (j6 ((h4.1 a 4) ||| p1)) else (j6 ((h4.1 a 4) &&& (p1 ^^^ (-1)))))) (fun j2 => if p2 = 1 then (j2 ((h.1 a 3) ||| p1)) else (j2 ((h.1 a 3) &&& (p1 ^^^ (-1)))))
set_option maxRecDepth 20000 in
def f_X1_addPerson (h : HS) (a : Nat) (p1 : Int32) (p2 : Int32) : Option (Bool × HS) :=
  if (h.1 a 0) < 0 then (some (false, h)) else (if (h.1 a 0) < 6 then (Lt (1 <<< ((h.1 a 0) &&& 31)) fun v1 => jn (fun (h2 : HS) => bd (f_X1_setKind h2 a v1 p2) fun h6 => bd (wr h6 (a + 5) 6 (h6.1 a 0) 0) fun h7 => Lt (hset h7 a 0 ((h7.1 a 0) + 1)) fun h8 => some (true, h8)) (fun j3 => if p1 = 1 then (Lt (hset h a 2 ((h.1 a 2) ||| v1)) fun h9 => j3 h9) else (j3 h))) else (some (false, h)))
set_option maxRecDepth 20000 in
def f_X1_addMatter (h : HS) (a : Nat) (p1 : Int32) (p2 : Int32) : Option (Bool × HS) :=
  if (h.1 a 1) < 0 then (some (false, h)) else (if (h.1 a 1) < 4 then (bd (wr h (a + 1) 4 (h.1 a 1) 0) fun h1 => bd (wr h1 (a + 2) 4 (h1.1 a 1) p1) fun h2 => bd (wr h2 (a + 3) 4 (h2.1 a 1) p2) fun h3 => bd (wr h3 (a + 4) 4 (h3.1 a 1) (-9)) fun h4 => Lt (hset h4 a 1 ((h4.1 a 1) + 1)) fun h5 => some (true, h5)) else (some (false, h)))
set_option maxRecDepth 20000 in
def f_X1_letSee (h : HS) (a : Nat) (p1 : Int32) (p2 : Int32) : Option HS :=
  bd (f_X1_isMatter h a p2) fun r1 => if r1 = true then (bd (rd h (a + 1) 4 p2) fun r2 => bd (wr h (a + 1) 4 p2 (r2 ||| (1 <<< (p1 &&& 31)))) fun h3 => some h3) else (some h)
set_option maxRecDepth 20000 in
def f_X1_takesPart (h : HS) (a : Nat) (p1 : Int32) (p2 : Int32) (p3 : Int32) : Option (Bool × HS) :=
  if p1 = 77 then (bd (f_X1_isFigure h p3) fun r6 => if r6 = true then (bd2 (f_X1_addMatter h a p2 p3) fun r7 h8 => if r7 = true then (some (true, h8)) else (some (false, h8))) else (some (false, h))) else (if p1 = 80 then (if p3 < 0 then (some (false, h)) else (if (3 : Int32) < p3 then (some (false, h)) else (bd2 (f_X1_addPerson h a p2 p3) fun r4 h5 => if r4 = true then (some (true, h5)) else (some (false, h5))))) else (if p1 = 83 then (bd (f_X1_canSee h a p2 p3) fun r1 => if r1 = true then (bd (f_X1_letSee h a p2 p3) fun h3 => some (true, h3)) else (some (false, h))) else (some (false, h))))
set_option maxRecDepth 20000 in
def f_X3_readInto (h : HS) (p1 : Nat) : Option (Int32 × HS) :=
  bd (f_X1_clear h p1) fun h2 => if (h2.1 1 1) < 1 then (some (0, h2)) else (bd (rd h2 2 48 0) fun r3 => if r3 = 79 then (loop4 (fun rec8 (i4 : Int32) (i5 : Int32) (i6 : Int32) (h7 : HS) => jn (bd (rm (h7.1 1 1) 3) fun r12 => if r12 = 1 then (some ((-9), h7)) else (some ((h7.1 1 1), h7))) (fun j10 => if i6 < (h7.1 1 1) then (if i6 < 48 then (bd (rd h7 2 48 i6) fun r13 => bd (rm (i6 - 1) 3) fun r14 => jn (fun (w15 : Int32) (w16 : Int32) (h17 : HS) => rec8 w15 w16 (i6 + 1) h17) (fun j18 => if r14 = 0 then (bd (f_X1_canBegin h7 p1 r13) fun r24 => if r24 = true then (j18 r13 i5 h7) else (some (i6, h7))) else (if r14 = 1 then (Lt (r13 - 48) fun v22 => bd (f_X1_canGoOn h7 p1 i4 v22) fun r23 => if r23 = true then (j18 i4 v22 h7) else (some (i6, h7))) else (bd2 (f_X1_takesPart h7 p1 i4 i5 (r13 - 48)) fun r20 h21 => if r20 = true then (j18 i4 i5 h21) else (some (i6, h21)))))) else (j10)) else (j10))) 400 0 0 1 h2) else (some (0, h2)))
set_option maxRecDepth 20000 in
def f_X4_fault (h : HS) : Option (Int32 × HS) :=
  bd2 (f_X3_readInto h 9) fun r1 h2 => some (r1, h2)
set_option maxRecDepth 20000 in
def f_X5_has (h : HS) (p0 : Int32) (p1 : Int32) : Option Bool :=
  if ((p0 >>> (p1 &&& 31)) &&& 1) = 1 then (some true) else (some false)
set_option maxRecDepth 20000 in
def f_X5_figureOf (h : HS) (p1 : Int32) : Option (Int32 × HS) :=
  jn (fun (t1 : Int32) => bd (f_X5_in h (Int32.toInt64 t1) 0 9) fun r4 => jn (jn (fun (t7 : Int32) => Lt (hset h 36 12 t7) fun h10 => some (0, h10)) (fun j8 => if (h.1 36 12) = (-9) then (j8 (h.1 36 11)) else (j8 (h.1 36 12)))) (fun j5 => if r4 = true then (bd (f_X5_has h p1 t1) fun r11 => if r11 = true then (Lt (hset h 36 11 ((h.1 36 11) + 1)) fun h12 => some (t1, h12)) else (j5)) else (j5))) (fun j2 => jn (j2 (-9)) (fun j13 => if (h.1 36 12) = (-9) then (if (h.1 36 11) < (h.1 36 10) then (bd (rd h 42 48 (h.1 36 11)) fun r15 => j2 (r15 - 48)) else (j13)) else (j13)))
set_option maxRecDepth 20000 in
def f_X5_left (h : HS) (p1 : Int32) : Option Int32 :=
  bd (rd h 41 6 p1) fun r1 => some (((1 <<< ((h.1 36 8) &&& 31)) - 1) &&& (r1 ^^^ (-1)))
set_option maxRecDepth 20000 in
def f_X5_firstsLeft (h : HS) : Option Int32 :=
  loop2 (fun rec3 (i1 : Int32) (i2 : Int32) => if i2 < (h.1 36 7) then (bd (f_X5_left h i2) fun r5 => jn (fun (t6 : Int32) => Lt (i1 ||| t6) fun v9 => rec3 v9 (i2 + 1)) (fun j7 => if r5 = 0 then (j7 0) else (j7 (1 <<< (i2 &&& 31))))) else (some i1)) 400 0 0
set_option maxRecDepth 20000 in
def f_X5_readPart (h : HS) (p1 : Int32) : Option HS :=
  jn (jn (jn (Lt (hset h 36 12 (h.1 36 11)) fun h7 => some h7) (fun j5 => if p1 = 83 then (bd (f_X5_firstsLeft h) fun r8 => if r8 = 0 then (j5) else (Lt (hset h 36 11 ((h.1 36 11) + 1)) fun h9 => bd (f_X5_firstsLeft h9) fun r10 => bd2 (f_X5_figureOf h9 r10) fun r11 h12 => bd (f_X5_left h12 r11) fun r13 => bd2 (f_X5_figureOf h12 r13) fun r14 h15 => bd (rd h15 41 6 r11) fun r16 => jn (fun (t17 : Int32) => bd (wr h15 41 6 r11 (r16 ||| t17)) fun h20 => some h20) (fun j18 => if (h15.1 36 12) = (-9) then (j18 (1 <<< (r14 &&& 31))) else (j18 0)))) else (j5))) (fun j3 => if p1 = 77 then (if (h.1 36 8) < 4 then (Lt (hset h 36 11 ((h.1 36 11) + 1)) fun h21 => bd2 (f_X5_figureOf h21 1023) fun r22 h23 => bd (wr h23 40 8 (h21.1 36 8) r22) fun h24 => bd2 (f_X5_figureOf h24 1023) fun r25 h26 => bd (wr h26 40 8 (4 + (h24.1 36 8)) r25) fun h27 => Lt (hset h27 36 8 ((h27.1 36 8) + 1)) fun h28 => some h28) else (j3)) else (j3))) (fun j1 => if p1 = 80 then (if (h.1 36 7) < 6 then (Lt (hset h 36 11 ((h.1 36 11) + 1)) fun h29 => bd2 (f_X5_figureOf h29 3) fun r30 h31 => bd (wr h31 39 12 (2 * (h29.1 36 7)) r30) fun h32 => bd2 (f_X5_figureOf h32 15) fun r33 h34 => bd (wr h34 39 12 ((2 * (h32.1 36 7)) + 1) r33) fun h35 => Lt (hset h35 36 7 ((h35.1 36 7) + 1)) fun h36 => some h36) else (j1)) else (j1))
set_option maxRecDepth 20000 in
def f_X5_readText (h : HS) : Option (Int32 × HS) :=
  Lt (hset h 36 11 0) fun h1 => Lt (hset h1 36 12 (-9)) fun h2 => Lt (hset h2 36 7 0) fun h3 => Lt (hset h3 36 8 0) fun h4 => loop2 (fun rec7 (i5 : Int32) (h6 : HS) => if i5 < 6 then (bd (wr h6 41 6 i5 0) fun h17 => rec7 (i5 + 1) h17) else (if (h6.1 36 10) = 0 then (some (0, h6)) else (bd (rd h6 42 48 0) fun r9 => if r9 = 79 then (Lt (hset h6 36 11 1) fun h10 => loop1 (fun rec12 (h11 : HS) => if (h11.1 36 12) = (-9) then (if (h11.1 36 11) < (h11.1 36 10) then (bd (rd h11 42 48 (h11.1 36 11)) fun r14 => bd (f_X5_readPart h11 r14) fun h16 => rec12 h16) else (some ((h11.1 36 12), h11))) else (some ((h11.1 36 12), h11))) 400 h10) else (some (0, h6))))) 400 0 h4
set_option maxRecDepth 20000 in
def f_X5_fault (h : HS) : Option (Int32 × HS) :=
  bd2 (f_X5_readText h) fun r1 h2 => some (r1, h2)
set_option maxRecDepth 20000 in
def f_X1_become (h : HS) (a : Nat) (p1 : Nat) : Option HS :=
  Lt (hset h a 0 (h.1 p1 0)) fun h1 => Lt (hset h1 a 1 (h1.1 p1 1)) fun h2 => Lt (hset h2 a 2 (h2.1 p1 2)) fun h3 => Lt (hset h3 a 3 (h3.1 p1 3)) fun h4 => Lt (hset h4 a 4 (h4.1 p1 4)) fun h5 => Lt (hset h5 a 5 (h5.1 p1 5)) fun h6 => loop2 (fun rec9 (i7 : Int32) (h8 : HS) => if i7 < 4 then (bd (rd h8 (p1 + 1) 4 i7) fun r17 => bd (wr h8 (a + 1) 4 i7 r17) fun h18 => bd (rd h18 (p1 + 2) 4 i7) fun r19 => bd (wr h18 (a + 2) 4 i7 r19) fun h20 => bd (rd h20 (p1 + 3) 4 i7) fun r21 => bd (wr h20 (a + 3) 4 i7 r21) fun h22 => bd (rd h22 (p1 + 4) 4 i7) fun r23 => bd (wr h22 (a + 4) 4 i7 r23) fun h24 => rec9 (i7 + 1) h24) else (loop2 (fun rec13 (i11 : Int32) (h12 : HS) => if i11 < 6 then (bd (rd h12 (p1 + 5) 6 i11) fun r15 => bd (wr h12 (a + 5) 6 i11 r15) fun h16 => rec13 (i11 + 1) h16) else (some h12)) 400 0 h8)) 400 0 h6
set_option maxRecDepth 20000 in
def f_X4_court (h : HS) : Option (Int32 × HS) :=
  bd2 (f_X3_readInto h 9) fun r1 h2 => if r1 = (-9) then (bd (f_X1_become h2 3 9) fun h4 => Lt (hset h4 27 3 0) fun h5 => Lt (hset h5 0 5 0) fun h6 => some (((10 * (h6.1 3 0)) + (h6.1 3 1)), h6)) else (some ((-3), h2))
set_option maxRecDepth 20000 in
def f_X5_court (h : HS) : Option (Int32 × HS) :=
  bd2 (f_X5_readText h) fun r1 h2 => if r1 = (-9) then (Lt (hset h2 36 0 (h2.1 36 7)) fun h3 => Lt (hset h3 36 1 (h3.1 36 8)) fun h4 => loop2 (fun rec7 (i5 : Int32) (h6 : HS) => if i5 < 23 then (bd (f_X5_in h6 (Int32.toInt64 i5) 13 16) fun r29 => jn (fun (t30 : Int32) => bd (wr h6 38 46 i5 t30) fun h33 => rec7 (i5 + 1) h33) (fun j31 => if r29 = true then (j31 (-9)) else (j31 0))) else (loop2 (fun rec11 (i9 : Int32) (h10 : HS) => if i9 < (h10.1 36 0) then (bd (rd h10 38 46 0) fun r22 => bd (rd h10 39 12 (2 * i9)) fun r23 => bd (wr h10 38 46 0 (r22 ||| (r23 <<< (i9 &&& 31)))) fun h24 => bd (rd h24 39 12 ((2 * i9) + 1)) fun r25 => bd (wr h24 38 46 (1 + i9) r25) fun h26 => bd (rd h26 41 6 i9) fun r27 => bd (wr h26 38 46 (7 + i9) r27) fun h28 => rec11 (i9 + 1) h28) else (loop2 (fun rec15 (i13 : Int32) (h14 : HS) => if i13 < 8 then (bd (rd h14 40 8 i13) fun r20 => bd (wr h14 37 8 i13 r20) fun h21 => rec15 (i13 + 1) h21) else (Lt (hset h14 36 13 0) fun h17 => bd (wr h17 48 2 0 0) fun h18 => bd (wr h18 48 2 1 0) fun h19 => some (((10 * (h19.1 36 0)) + (h19.1 36 1)), h19))) 400 0 h10)) 400 0 h6)) 400 0 h4) else (some ((-3), h2))
set_option maxRecDepth 20000 in
def f_X1_eyeOf (h : HS) (a : Nat) (p1 : Int32) : Option Int32 :=
  some (((h.1 a 2) >>> (p1 &&& 31)) &&& 1)
set_option maxRecDepth 20000 in
def f_X1_kindOf (h : HS) (a : Nat) (p1 : Int32) : Option Int32 :=
  Lt (1 <<< (p1 &&& 31)) fun v1 => if ((h.1 a 3) &&& v1) = 0 then (if ((h.1 a 4) &&& v1) = 0 then (if ((h.1 a 5) &&& v1) = 0 then (some 0) else (some 3)) else (some 2)) else (some 1)
set_option maxRecDepth 20000 in
def f_X1_witnessesOf (h : HS) (a : Nat) (p1 : Int32) : Option Int32 :=
  bd (f_X1_isMatter h a p1) fun r1 => if r1 = true then (bd (rd h (a + 1) 4 p1) fun r2 => some r2) else (some 0)
set_option maxRecDepth 20000 in
def f_X1_seenBy (h : HS) (a : Nat) (p1 : Int32) : Option Int32 :=
  loop2 (fun rec3 (i1 : Int32) (i2 : Int32) => if i2 < (h.1 a 1) then (bd (f_X1_witnessesOf h a i2) fun r5 => Lt (i1 ||| (((r5 >>> (p1 &&& 31)) &&& 1) <<< (i2 &&& 31))) fun v6 => rec3 v6 (i2 + 1)) else (some i1)) 400 0 0
set_option maxRecDepth 20000 in
def f_X1_finesOf (h : HS) (a : Nat) (p1 : Int32) : Option Int32 :=
  bd (f_X1_isPerson h a p1) fun r1 => if r1 = true then (bd (rd h (a + 5) 6 p1) fun r2 => some r2) else (some 0)
set_option maxRecDepth 20000 in
def f_X4_person (h : HS) (p1 : Int32) (p2 : Int32) : Option Int32 :=
  bd (f_X1_isPerson h 3 p1) fun r1 => if r1 = true then (if p2 = 0 then (bd (f_X1_eyeOf h 3 p1) fun r6 => some r6) else (if p2 = 1 then (bd (f_X1_kindOf h 3 p1) fun r5 => some r5) else (if p2 = 2 then (bd (f_X1_seenBy h 3 p1) fun r4 => some r4) else (if p2 = 3 then (bd (f_X1_finesOf h 3 p1) fun r3 => some r3) else (some (-2)))))) else (some (-1))
set_option maxRecDepth 20000 in
def f_X5_isPerson (h : HS) (p1 : Int32) : Option Bool :=
  bd (f_X5_in h (Int32.toInt64 p1) 0 (Int32.toInt64 ((h.1 36 0) - 1))) fun r1 => some r1
set_option maxRecDepth 20000 in
def f_X5_person (h : HS) (p1 : Int32) (p2 : Int32) : Option Int32 :=
  bd (f_X5_isPerson h p1) fun r1 => if r1 = true then (if p2 = 0 then (bd (rd h 38 46 0) fun r6 => some ((r6 >>> (p1 &&& 31)) &&& 1)) else (if p2 = 1 then (bd (rd h 38 46 (1 + p1)) fun r5 => some r5) else (if p2 = 2 then (bd (rd h 38 46 (7 + p1)) fun r4 => some r4) else (if p2 = 3 then (bd (rd h 38 46 (17 + p1)) fun r3 => some r3) else (some (-2)))))) else (some (-1))
set_option maxRecDepth 20000 in
def f_X1_halfOf (h : HS) (a : Nat) (p1 : Int32) (p2 : Int32) : Option Int32 :=
  bd (f_X1_isMatter h a p1) fun r1 => if r1 = true then (if p2 = 0 then (bd (rd h (a + 2) 4 p1) fun r3 => some r3) else (bd (rd h (a + 3) 4 p1) fun r2 => some r2)) else (some (-9))
set_option maxRecDepth 20000 in
def f_X1_knownAs (h : HS) (a : Nat) (p1 : Int32) : Option Int32 :=
  bd (f_X1_isMatter h a p1) fun r1 => if r1 = true then (bd (rd h (a + 4) 4 p1) fun r2 => some r2) else (some (-9))
set_option maxRecDepth 20000 in
def f_X1_seersOf (h : HS) (a : Nat) (p1 : Int32) (p2 : Int32) : Option Int32 :=
  bd (f_X1_isMatter h a p1) fun r1 => if r1 = true then (jn (fun (t2 : Int32) => bd (rd h (a + 1) 4 p1) fun r5 => some ((r5 &&& (t2 ||| (h.1 a 4))) &&& ((h.1 a 5) ^^^ (-1)))) (fun j3 => if p2 = 0 then (j3 ((h.1 a 2) ^^^ (-1))) else (j3 (h.1 a 2)))) else (some 0)
set_option maxRecDepth 20000 in
def f_X4_matter (h : HS) (p1 : Int32) (p2 : Int32) : Option Int32 :=
  bd (f_X1_isMatter h 3 p1) fun r1 => if r1 = true then (if p2 = 0 then (bd (f_X1_halfOf h 3 p1 0) fun r7 => some r7) else (if p2 = 1 then (bd (f_X1_halfOf h 3 p1 1) fun r6 => some r6) else (if p2 = 2 then (bd (f_X1_knownAs h 3 p1) fun r5 => some r5) else (if p2 = 3 then (bd (f_X1_seersOf h 3 p1 0) fun r4 => some r4) else (if p2 = 4 then (bd (f_X1_seersOf h 3 p1 1) fun r3 => some r3) else (some (-2))))))) else (some (-1))
set_option maxRecDepth 20000 in
def f_X5_isMatter (h : HS) (p1 : Int32) : Option Bool :=
  bd (f_X5_in h (Int32.toInt64 p1) 0 (Int32.toInt64 ((h.1 36 1) - 1))) fun r1 => some r1
set_option maxRecDepth 20000 in
def f_X5_sees (h : HS) (p1 : Int32) (p2 : Int32) (p3 : Int32) (p4 : Int32) : Option Bool :=
  Lt (23 * p1) fun v1 => bd (rd h 38 46 ((v1 + 1) + p2)) fun r2 => jn (fun (t3 : Int32) => if t3 = 0 then (some false) else (bd (rd h 38 46 ((v1 + 7) + p2)) fun r6 => bd (f_X5_has h r6 p3) fun r7 => if r7 = true then (some true) else (some false))) (fun j4 => jn (j4 1) (fun j8 => if r2 = 2 then (j8) else (jn (j4 0) (fun j10 => if r2 = 3 then (j10) else (bd (rd h 38 46 v1) fun r12 => if ((r12 >>> (p2 &&& 31)) &&& 1) = p4 then (j8) else (j10))))))
set_option maxRecDepth 20000 in
def f_X5_seeing (h : HS) (p1 : Int32) (p2 : Int32) (p3 : Int32) : Option Int32 :=
  loop2 (fun rec3 (i1 : Int32) (i2 : Int32) => if i2 < (h.1 36 0) then (bd (f_X5_sees h p1 i2 p2 p3) fun r5 => jn (fun (t6 : Int32) => Lt (i1 ||| t6) fun v9 => rec3 v9 (i2 + 1)) (fun j7 => if r5 = true then (j7 (1 <<< (i2 &&& 31))) else (j7 0))) else (some i1)) 400 0 0
set_option maxRecDepth 20000 in
def f_X5_matter (h : HS) (p1 : Int32) (p2 : Int32) : Option Int32 :=
  bd (f_X5_isMatter h p1) fun r1 => if r1 = true then (if p2 = 0 then (bd (rd h 37 8 p1) fun r7 => some r7) else (if p2 = 1 then (bd (rd h 37 8 (4 + p1)) fun r6 => some r6) else (if p2 = 2 then (bd (rd h 38 46 (13 + p1)) fun r5 => some r5) else (if p2 = 3 then (bd (f_X5_seeing h 0 p1 0) fun r4 => some r4) else (if p2 = 4 then (bd (f_X5_seeing h 0 p1 1) fun r3 => some r3) else (some (-2))))))) else (some (-1))
set_option maxRecDepth 20000 in
def f_X4_isHalf (h : HS) (p0 : Int32) : Option Bool :=
  if p0 = 0 then (some true) else (if p0 = 1 then (some true) else (some false))
set_option maxRecDepth 20000 in
def f_X1_saidBy (h : HS) (a : Nat) (p1 : Int32) (p2 : Int32) (p3 : Int32) : Option Int32 :=
  bd (f_X1_seersOf h a p2 p3) fun r1 => if ((r1 >>> (p1 &&& 31)) &&& 1) = 0 then (some (-9)) else (bd (f_X1_halfOf h a p2 p3) fun r2 => bd (f_X1_kindOf h a p1) fun r3 => if r3 = 1 then (some (9 - r2)) else (some r2))
set_option maxRecDepth 20000 in
def f_X4_says (h : HS) (p1 : Int32) (p2 : Int32) (p3 : Int32) : Option Int32 :=
  bd (f_X1_isPerson h 3 p1) fun r1 => if r1 = true then (bd (f_X1_isMatter h 3 p2) fun r2 => if r2 = true then (bd (f_X4_isHalf h p3) fun r3 => if r3 = true then (bd (f_X1_saidBy h 3 p1 p2 p3) fun r4 => some r4) else (some (-2))) else (some (-1))) else (some (-1))
set_option maxRecDepth 20000 in
def f_X5_saysOn (h : HS) (p1 : Int32) (p2 : Int32) (p3 : Int32) (p4 : Int32) : Option Int32 :=
  bd (rd h 37 8 ((4 * p4) + p3)) fun r1 => bd (rd h 38 46 (((23 * p1) + 1) + p2)) fun r2 => if r2 = 1 then (some (9 - r1)) else (some r1)
set_option maxRecDepth 20000 in
def f_X5_says (h : HS) (p1 : Int32) (p2 : Int32) (p3 : Int32) : Option Int32 :=
  bd (f_X5_isPerson h p1) fun r1 => if r1 = true then (bd (f_X5_isMatter h p2) fun r2 => if r2 = true then (bd (f_X5_in h (Int32.toInt64 p3) 0 1) fun r3 => if r3 = true then (bd (f_X5_sees h 0 p1 p2 p3) fun r4 => if r4 = true then (bd (f_X5_saysOn h 0 p1 p2 p3) fun r5 => some r5) else (some (-9))) else (some (-2))) else (some (-1))) else (some (-1))
set_option maxRecDepth 20000 in
def f_X0_forgetFirst (h : HS) : Option HS :=
  loop2 (fun rec3 (i1 : Int32) (h2 : HS) => if i1 < 14 then (bd (rd h2 28 14 i1) fun r6 => bd (wr h2 28 14 (i1 - 1) r6) fun h7 => bd (rd h7 29 14 i1) fun r8 => bd (wr h7 29 14 (i1 - 1) r8) fun h9 => bd (rd h9 30 14 i1) fun r10 => bd (wr h9 30 14 (i1 - 1) r10) fun h11 => rec3 (i1 + 1) h11) else (Lt (hset h2 27 3 13) fun h5 => some h5)) 400 1 h
set_option maxRecDepth 20000 in
def f_X0_add (h : HS) (p1 : Int32) (p2 : Int32) (p3 : Int32) : Option HS :=
  jn (fun (h1 : HS) => if (h1.1 27 3) < 0 then (some h1) else (if (h1.1 27 3) < 14 then (bd (wr h1 28 14 (h1.1 27 3) p1) fun h4 => bd (wr h4 29 14 (h4.1 27 3) p2) fun h5 => bd (wr h5 30 14 (h5.1 27 3) p3) fun h6 => Lt (hset h6 27 3 ((h6.1 27 3) + 1)) fun h7 => some h7) else (some h1))) (fun j2 => if (h.1 27 3) < 14 then (j2 h) else (bd (f_X0_forgetFirst h) fun h9 => j2 h9))
set_option maxRecDepth 20000 in
def f_J6_bitCount_0f7a4 (h : HS) (p0 : Int32) : Option Int32 :=
  Lt (p0 - ((((p0).toUInt32 >>> ((1 : Int32).toUInt32 &&& Int32.toUInt32 31)).toInt32) &&& 1431655765)) fun v1 => Lt ((v1 &&& 858993459) + ((((v1).toUInt32 >>> ((2 : Int32).toUInt32 &&& Int32.toUInt32 31)).toInt32) &&& 858993459)) fun v2 => Lt ((v2 + (((v2).toUInt32 >>> ((4 : Int32).toUInt32 &&& Int32.toUInt32 31)).toInt32)) &&& 252645135) fun v3 => Lt (v3 + (((v3).toUInt32 >>> ((8 : Int32).toUInt32 &&& Int32.toUInt32 31)).toInt32)) fun v4 => Lt (v4 + (((v4).toUInt32 >>> ((16 : Int32).toUInt32 &&& Int32.toUInt32 31)).toInt32)) fun v5 => some (v5 &&& 63)
set_option maxRecDepth 20000 in
def f_X4_show (h : HS) (p1 : Int32) (p2 : Int32) : Option (Int32 × HS) :=
  bd (f_X1_isPerson h 3 p1) fun r1 => if r1 = true then (bd (f_X1_isMatter h 3 p2) fun r2 => if r2 = true then (bd (f_X1_canSee h 3 p1 p2) fun r3 => if r3 = true then (bd (f_X1_letSee h 3 p1 p2) fun h5 => bd (f_X0_add h5 1 p1 p2) fun h7 => bd (f_X1_witnessesOf h7 3 p2) fun r8 => bd (f_J6_bitCount_0f7a4 h7 r8) fun r9 => some (r9, h7)) else (some ((-3), h))) else (some ((-1), h))) else (some ((-1), h))
set_option maxRecDepth 20000 in
def f_X5_canShow (h : HS) (p1 : Int32) (p2 : Int32) (p3 : Int32) : Option Bool :=
  bd (f_X5_isPerson h p2) fun r1 => if r1 = true then (bd (f_X5_isMatter h p3) fun r2 => if r2 = true then (bd (rd h 38 46 (((23 * p1) + 7) + p2)) fun r3 => bd (f_X5_has h r3 p3) fun r4 => if r4 = true then (some false) else (some true)) else (some false)) else (some false)
set_option maxRecDepth 20000 in
def f_X5_keepAct (h : HS) : Option HS :=
  loop2 (fun rec3 (i1 : Int32) (h2 : HS) => if i1 < 23 then (bd (rd h2 38 46 i1) fun r11 => bd (wr h2 43 322 ((23 * (h2.1 36 14)) + i1) r11) fun h12 => rec3 (i1 + 1) h12) else (bd (rm ((h2.1 36 14) + 1) 14) fun r5 => Lt (hset h2 36 14 r5) fun h6 => jn (fun (t7 : Int32) => Lt (hset h6 36 13 t7) fun h10 => some h10) (fun j8 => if (h6.1 36 13) < 14 then (j8 ((h6.1 36 13) + 1)) else (j8 14)))) 400 0 h
set_option maxRecDepth 20000 in
def f_X5_show (h : HS) (p1 : Int32) (p2 : Int32) : Option (Int32 × HS) :=
  bd (f_X5_isPerson h p1) fun r1 => if r1 = true then (bd (f_X5_isMatter h p2) fun r2 => if r2 = true then (bd (f_X5_canShow h 0 p1 p2) fun r3 => if r3 = true then (bd (f_X5_keepAct h) fun h5 => bd (rd h5 38 46 (7 + p1)) fun r6 => bd (wr h5 38 46 (7 + p1) (r6 ||| (1 <<< (p2 &&& 31)))) fun h7 => loop2 (fun rec10 (i8 : Int32) (i9 : Int32) => if i9 < (h7.1 36 0) then (bd (rd h7 38 46 (7 + i9)) fun r12 => Lt (i8 + ((r12 >>> (p2 &&& 31)) &&& 1)) fun v13 => rec10 v13 (i9 + 1)) else (some (i8, h7))) 400 0 0) else (some ((-3), h))) else (some ((-1), h))) else (some ((-1), h))
set_option maxRecDepth 20000 in
def f_X1_isCouple (h : HS) (a : Nat) (p1 : Int32) (p2 : Int32) (p3 : Int32) : Option Bool :=
  if p1 = p2 then (some false) else (bd (f_X1_isPerson h a p1) fun r1 => if r1 = true then (bd (f_X1_isPerson h a p2) fun r2 => if r2 = true then (bd (f_X1_seersOf h a p3 0) fun r3 => if ((r3 >>> (p1 &&& 31)) &&& 1) = 1 then (bd (f_X1_seersOf h a p3 1) fun r4 => if ((r4 >>> (p2 &&& 31)) &&& 1) = 1 then (some true) else (some false)) else (some false)) else (some false)) else (some false))
set_option maxRecDepth 20000 in
def f_X1_canLearn (h : HS) (a : Nat) (p1 : Int32) (p2 : Int32) (p3 : Int32) : Option Bool :=
  bd (f_X1_isMatter h a p3) fun r1 => if r1 = true then (bd (f_X1_knownAs h a p3) fun r2 => if r2 = (-9) then (bd (f_X1_isCouple h a p1 p2 p3) fun r3 => if r3 = true then (some true) else (some false)) else (some false)) else (some false)
set_option maxRecDepth 20000 in
def f_X1_toldBy (h : HS) (a : Nat) (p1 : Int32) (p2 : Int32) (p3 : Int32) : Option Int32 :=
  bd (f_X1_saidBy h a p1 p3 0) fun r1 => bd (f_X1_saidBy h a p2 p3 1) fun r2 => some ((10 * r1) + r2)
set_option maxRecDepth 20000 in
def f_X1_setKnown (h : HS) (a : Nat) (p1 : Int32) (p2 : Int32) : Option HS :=
  bd (f_X1_isMatter h a p1) fun r1 => if r1 = true then (bd (wr h (a + 4) 4 p1 p2) fun h2 => some h2) else (some h)
set_option maxRecDepth 20000 in
def f_X4_swear (h : HS) (p1 : Int32) (p2 : Int32) (p3 : Int32) : Option (Int32 × HS) :=
  bd (f_X1_isPerson h 3 p1) fun r1 => if r1 = true then (bd (f_X1_isPerson h 3 p2) fun r2 => if r2 = true then (bd (f_X1_isMatter h 3 p3) fun r3 => if r3 = true then (bd (f_X1_canLearn h 3 p1 p2 p3) fun r4 => if r4 = true then (bd (f_X1_toldBy h 3 p1 p2 p3) fun r5 => bd (f_X1_setKnown h 3 p3 r5) fun h7 => bd (f_X0_add h7 4 p3 (-9)) fun h9 => bd (f_X1_knownAs h9 3 p3) fun r10 => some (r10, h9)) else (some ((-3), h))) else (some ((-1), h))) else (some ((-1), h))) else (some ((-1), h))
set_option maxRecDepth 20000 in
def f_X5_isCouple (h : HS) (p1 : Int32) (p2 : Int32) (p3 : Int32) (p4 : Int32) : Option Bool :=
  if p2 = p3 then (some false) else (bd (f_X5_sees h p1 p2 p4 0) fun r1 => if r1 = true then (bd (f_X5_sees h p1 p3 p4 1) fun r2 => if r2 = true then (some true) else (some false)) else (some false))
set_option maxRecDepth 20000 in
def f_X5_canSwear (h : HS) (p1 : Int32) (p2 : Int32) (p3 : Int32) (p4 : Int32) : Option Bool :=
  bd (f_X5_isPerson h p2) fun r1 => if r1 = true then (bd (f_X5_isPerson h p3) fun r2 => if r2 = true then (bd (f_X5_isMatter h p4) fun r3 => if r3 = true then (bd (rd h 38 46 (((23 * p1) + 13) + p4)) fun r4 => if r4 = (-9) then (bd (f_X5_isCouple h p1 p2 p3 p4) fun r5 => if r5 = true then (some true) else (some false)) else (some false)) else (some false)) else (some false)) else (some false)
set_option maxRecDepth 20000 in
def f_X5_sworn (h : HS) (p1 : Int32) (p2 : Int32) (p3 : Int32) (p4 : Int32) : Option Int32 :=
  bd (f_X5_saysOn h p1 p2 p4 0) fun r1 => bd (f_X5_saysOn h p1 p3 p4 1) fun r2 => some ((10 * r1) + r2)
set_option maxRecDepth 20000 in
def f_X5_swear (h : HS) (p1 : Int32) (p2 : Int32) (p3 : Int32) : Option (Int32 × HS) :=
  bd (f_X5_isPerson h p1) fun r1 => if r1 = true then (bd (f_X5_isPerson h p2) fun r2 => if r2 = true then (bd (f_X5_isMatter h p3) fun r3 => if r3 = true then (bd (f_X5_canSwear h 0 p1 p2 p3) fun r4 => if r4 = true then (bd (f_X5_keepAct h) fun h6 => bd (f_X5_sworn h6 0 p1 p2 p3) fun r7 => bd (wr h6 38 46 (13 + p3) r7) fun h8 => bd (rd h8 38 46 (13 + p3)) fun r9 => some (r9, h8)) else (some ((-3), h))) else (some ((-1), h))) else (some ((-1), h))) else (some ((-1), h))
set_option maxRecDepth 20000 in
def f_X4_deny (h : HS) (p1 : Int32) : Option (Int32 × HS) :=
  bd (f_X1_isMatter h 3 p1) fun r1 => if r1 = true then (bd (f_X1_knownAs h 3 p1) fun r2 => if r2 = (-9) then (some ((-3), h)) else (bd (f_X1_setKnown h 3 p1 (-9)) fun h4 => bd (f_X0_add h4 2 p1 r2) fun h6 => some (r2, h6))) else (some ((-1), h))
set_option maxRecDepth 20000 in
def f_X5_deny (h : HS) (p1 : Int32) : Option (Int32 × HS) :=
  bd (f_X5_isMatter h p1) fun r1 => if r1 = true then (bd (rd h 38 46 (13 + p1)) fun r2 => if r2 = (-9) then (some ((-3), h)) else (bd (f_X5_keepAct h) fun h4 => bd (wr h4 38 46 (13 + p1) (-9)) fun h5 => some (r2, h5))) else (some ((-1), h))
set_option maxRecDepth 20000 in
def f_X1_canLoseGlass (h : HS) (a : Nat) (p1 : Int32) : Option Bool :=
  bd (f_X1_isPerson h a p1) fun r1 => if r1 = true then (bd (f_X1_kindOf h a p1) fun r2 => if r2 = 3 then (some false) else (some true)) else (some false)
set_option maxRecDepth 20000 in
def f_X1_fine (h : HS) (a : Nat) (p1 : Int32) (p2 : Int32) : Option HS :=
  bd (f_X1_isPerson h a p1) fun r1 => if r1 = true then (bd (rd h (a + 5) 6 p1) fun r2 => bd (wr h (a + 5) 6 p1 (r2 + p2)) fun h3 => some h3) else (some h)
set_option maxRecDepth 20000 in
def f_X1_loseGlass (h : HS) (a : Nat) (p1 : Int32) : Option HS :=
  Lt (1 <<< (p1 &&& 31)) fun v1 => bd (f_X1_kindOf h a p1) fun r2 => jn (fun (h3 : HS) => bd (f_X1_fine h3 a p1 1) fun h7 => some h7) (fun j4 => if r2 = 2 then (bd (f_X1_setKind h a v1 0) fun h10 => j4 h10) else (Lt (hset h a 2 ((h.1 a 2) ^^^ v1)) fun h8 => j4 h8))
set_option maxRecDepth 20000 in
def f_X4_drop (h : HS) (p1 : Int32) : Option (Int32 × HS) :=
  bd (f_X1_isPerson h 3 p1) fun r1 => if r1 = true then (bd (f_X1_canLoseGlass h 3 p1) fun r2 => if r2 = true then (bd (f_X1_kindOf h 3 p1) fun r3 => bd (f_X0_add h 3 p1 r3) fun h5 => bd (f_X1_loseGlass h5 3 p1) fun h7 => bd (f_X1_eyeOf h7 3 p1) fun r8 => some (r8, h7)) else (some ((-3), h))) else (some ((-1), h))
set_option maxRecDepth 20000 in
def f_X5_canDrop (h : HS) (p1 : Int32) (p2 : Int32) : Option Bool :=
  bd (f_X5_isPerson h p2) fun r1 => if r1 = true then (bd (rd h 38 46 (((23 * p1) + 1) + p2)) fun r2 => if r2 = 3 then (some false) else (some true)) else (some false)
set_option maxRecDepth 20000 in
def f_X5_dropOn (h : HS) (p1 : Int32) (p2 : Int32) : Option HS :=
  Lt (23 * p1) fun v1 => bd (rd h 38 46 ((v1 + 1) + p2)) fun r2 => jn (fun (h3 : HS) => bd (rd h3 38 46 ((v1 + 17) + p2)) fun r6 => bd (wr h3 38 46 ((v1 + 17) + p2) (r6 + 1)) fun h7 => some h7) (fun j4 => if r2 = 2 then (bd (wr h 38 46 ((v1 + 1) + p2) 0) fun h10 => j4 h10) else (bd (rd h 38 46 v1) fun r8 => bd (wr h 38 46 v1 (r8 ^^^ (1 <<< (p2 &&& 31)))) fun h9 => j4 h9))
set_option maxRecDepth 20000 in
def f_X5_drop (h : HS) (p1 : Int32) : Option (Int32 × HS) :=
  bd (f_X5_isPerson h p1) fun r1 => if r1 = true then (bd (f_X5_canDrop h 0 p1) fun r2 => if r2 = true then (bd (f_X5_keepAct h) fun h4 => bd (f_X5_dropOn h4 0 p1) fun h6 => bd (rd h6 38 46 0) fun r7 => some (((r7 >>> (p1 &&& 31)) &&& 1), h6)) else (some ((-3), h))) else (some ((-1), h))
set_option maxRecDepth 20000 in
def f_X1_letUnsee (h : HS) (a : Nat) (p1 : Int32) (p2 : Int32) : Option HS :=
  bd (f_X1_isMatter h a p2) fun r1 => if r1 = true then (bd (rd h (a + 1) 4 p2) fun r2 => bd (wr h (a + 1) 4 p2 (r2 &&& ((1 <<< (p1 &&& 31)) ^^^ (-1)))) fun h3 => some h3) else (some h)
set_option maxRecDepth 20000 in
def f_X1_regainGlass (h : HS) (a : Nat) (p1 : Int32) (p2 : Int32) : Option HS :=
  Lt (1 <<< (p1 &&& 31)) fun v1 => jn (fun (h2 : HS) => bd (f_X1_fine h2 a p1 (-1)) fun h6 => some h6) (fun j3 => if p2 = 2 then (bd (f_X1_setKind h a v1 2) fun h9 => j3 h9) else (Lt (hset h a 2 ((h.1 a 2) ^^^ v1)) fun h7 => j3 h7))
set_option maxRecDepth 20000 in
def f_X0_takeBackLast (h : HS) (p1 : Nat) : Option HS :=
  if (h.1 27 3) < 1 then (some h) else (if (14 : Int32) < (h.1 27 3) then (some h) else (Lt (hset h 27 3 ((h.1 27 3) - 1)) fun h1 => bd (rd h1 29 14 (h1.1 27 3)) fun r2 => bd (rd h1 30 14 (h1.1 27 3)) fun r3 => bd (rd h1 28 14 (h1.1 27 3)) fun r4 => if r4 = 1 then (bd (f_X1_letUnsee h1 p1 r2 r3) fun h11 => some h11) else (bd (rd h1 28 14 (h1.1 27 3)) fun r5 => if r5 = 3 then (bd (f_X1_regainGlass h1 p1 r2 r3) fun h9 => some h9) else (bd (f_X1_setKnown h1 p1 r2 r3) fun h7 => some h7))))
set_option maxRecDepth 20000 in
def f_X4_undo (h : HS) : Option (Int32 × HS) :=
  if (h.1 27 3) = 0 then (some ((-3), h)) else (bd (f_X0_takeBackLast h 3) fun h2 => some ((h2.1 27 3), h2))
set_option maxRecDepth 20000 in
def f_X5_undo (h : HS) : Option (Int32 × HS) :=
  if (h.1 36 13) = 0 then (some ((-3), h)) else (Lt (hset h 36 13 ((h.1 36 13) - 1)) fun h1 => bd (rm ((h1.1 36 14) + 13) 14) fun r2 => Lt (hset h1 36 14 r2) fun h3 => loop2 (fun rec6 (i4 : Int32) (h5 : HS) => if i4 < 23 then (bd (rd h5 43 322 ((23 * (h5.1 36 14)) + i4)) fun r8 => bd (wr h5 38 46 i4 r8) fun h9 => rec6 (i4 + 1) h9) else (some ((h5.1 36 13), h5))) 400 0 h3)
set_option maxRecDepth 20000 in
def f_X1_asItIs (h : HS) (a : Nat) (p1 : Int32) : Option Int32 :=
  bd (f_X1_halfOf h a p1 0) fun r1 => bd (f_X1_halfOf h a p1 1) fun r2 => some ((10 * r1) + r2)
set_option maxRecDepth 20000 in
def f_X1_couplesOf (h : HS) (a : Nat) (p1 : Int32) (p2 : Int32) : Option Int32 :=
  loop2 (fun rec3 (i1 : Int32) (i2 : Int32) => if i2 < (h.1 a 0) then (loop2 (fun rec7 (i5 : Int32) (i6 : Int32) => if i6 < (h.1 a 0) then (bd (f_X1_isCouple h a i2 i6 p1) fun r9 => jn (fun (w10 : Int32) => rec7 w10 (i6 + 1)) (fun j11 => if r9 = true then (jn (j11 (i5 + 1)) (fun j13 => if p2 = 0 then (j13) else (bd (f_X1_toldBy h a i2 i6 p1) fun r15 => bd (f_X1_asItIs h a p1) fun r16 => if r15 = r16 then (j13) else (j11 i5)))) else (j11 i5))) else (rec3 i5 (i2 + 1))) 400 i1 0) else (some i1)) 400 0 0
set_option maxRecDepth 20000 in
def f_X1_firstCoupleOf (h : HS) (a : Nat) (p1 : Int32) : Option Int32 :=
  loop1 (fun rec2 (i1 : Int32) => if i1 < (h.1 a 0) then (loop1 (fun rec5 (i4 : Int32) => if i4 < (h.1 a 0) then (bd (f_X1_isCouple h a i1 i4 p1) fun r7 => if r7 = true then (some ((10 * i1) + i4)) else (rec5 (i4 + 1))) else (rec2 (i1 + 1))) 400 0) else (some (-9))) 400 0
set_option maxRecDepth 20000 in
def f_X4_couples (h : HS) (p1 : Int32) (p2 : Int32) : Option Int32 :=
  bd (f_X1_isMatter h 3 p1) fun r1 => if r1 = true then (if p2 = 0 then (bd (f_X1_couplesOf h 3 p1 0) fun r5 => some r5) else (if p2 = 1 then (bd (f_X1_couplesOf h 3 p1 1) fun r4 => some r4) else (if p2 = 2 then (bd (f_X1_firstCoupleOf h 3 p1) fun r3 => some r3) else (some (-2))))) else (some (-1))
set_option maxRecDepth 20000 in
def f_X5_couples (h : HS) (p1 : Int32) (p2 : Int32) : Option Int32 :=
  bd (f_X5_isMatter h p1) fun r1 => if r1 = true then (bd (f_X5_in h (Int32.toInt64 p2) 0 2) fun r2 => if r2 = true then (loop4 (fun rec7 (i3 : Int32) (i4 : Int32) (i5 : Int32) (i6 : Int32) => if i6 < ((h.1 36 0) * (h.1 36 0)) then (bd (dv i6 (h.1 36 0)) fun r9 => bd (rm i6 (h.1 36 0)) fun r10 => bd (f_X5_isCouple h 0 r9 r10 p1) fun r11 => jn (fun (w12 : Int32) (w13 : Int32) (w14 : Int32) => rec7 w12 w13 w14 (i6 + 1)) (fun j15 => if r11 = true then (jn (fun (t17 : Int32) => bd (f_X5_sworn h 0 r9 r10 p1) fun r20 => bd (rd h 37 8 p1) fun r21 => bd (rd h 37 8 (4 + p1)) fun r22 => jn (fun (t23 : Int32) => Lt (i4 + t23) fun v26 => j15 (i3 + 1) v26 t17) (fun j24 => if r20 = ((10 * r21) + r22) then (j24 1) else (j24 0))) (fun j18 => if i3 = 0 then (j18 ((10 * r9) + r10)) else (j18 i5))) else (j15 i3 i4 i5))) else (if p2 = 0 then (some i3) else (if p2 = 1 then (some i4) else (some i5)))) 400 0 0 (-9) 0) else (some (-2))) else (some (-1))
set_option maxRecDepth 20000 in
def f_X1_everybody (h : HS) (a : Nat) : Option Int32 :=
  some ((1 <<< ((h.1 a 0) &&& 31)) - 1)
set_option maxRecDepth 20000 in
def f_X1_hasCoupleAmong (h : HS) (a : Nat) (p1 : Int32) (p2 : Int32) : Option Bool :=
  bd (f_X1_seersOf h a p1 0) fun r1 => Lt (r1 &&& p2) fun v2 => bd (f_X1_seersOf h a p1 1) fun r3 => Lt (r3 &&& p2) fun v4 => if v2 = 0 then (some false) else (if v4 = 0 then (some false) else (bd (f_J6_bitCount_0f7a4 h (v2 ||| v4)) fun r5 => if (1 : Int32) < r5 then (some true) else (some false)))
set_option maxRecDepth 20000 in
def f_X1_knowableAmong (h : HS) (a : Nat) (p1 : Int32) : Option Int32 :=
  loop2 (fun rec3 (i1 : Int32) (i2 : Int32) => if i2 < (h.1 a 1) then (bd (f_X1_hasCoupleAmong h a i2 p1) fun r5 => jn (fun (w6 : Int32) => rec3 w6 (i2 + 1)) (fun j7 => if r5 = true then (Lt (i1 ||| (1 <<< (i2 &&& 31))) fun v9 => j7 v9) else (j7 i1))) else (some i1)) 400 0 0
set_option maxRecDepth 20000 in
def f_X4_isFewer (h : HS) (p0 : Int32) (p1 : Int32) : Option Bool :=
  bd (f_J6_bitCount_0f7a4 h p0) fun r1 => bd (f_J6_bitCount_0f7a4 h p1) fun r2 => if r1 < r2 then (some true) else (if r1 = r2 then (if p0 < p1 then (some true) else (some false)) else (some false))
set_option maxRecDepth 20000 in
def f_X4_cover (h : HS) : Option Int32 :=
  bd (f_X1_everybody h 3) fun r1 => bd (f_X1_knowableAmong h 3 r1) fun r2 => loop2 (fun rec5 (i3 : Int32) (i4 : Int32) => if r1 < i4 then (some i3) else (bd (f_X1_knowableAmong h 3 i4) fun r7 => jn (fun (w8 : Int32) => rec5 w8 (i4 + 1)) (fun j9 => if r7 = r2 then (bd (f_X4_isFewer h i4 i3) fun r11 => if r11 = true then (j9 i4) else (j9 i3)) else (j9 i3)))) 400 r1 0
set_option maxRecDepth 20000 in
def f_X5_every (h : HS) : Option Int32 :=
  some ((1 <<< ((h.1 36 0) &&& 31)) - 1)
set_option maxRecDepth 20000 in
def f_X5_ones (h : HS) (p0 : Int32) : Option Int32 :=
  loop2 (fun rec3 (i1 : Int32) (i2 : Int32) => if i2 < 6 then (Lt (i1 + ((p0 >>> (i2 &&& 31)) &&& 1)) fun v5 => rec3 v5 (i2 + 1)) else (some i1)) 400 0 0
set_option maxRecDepth 20000 in
def f_X5_isBy (h : HS) (p1 : Int32) (p2 : Int32) (p3 : Int32) : Option Bool :=
  bd (f_X5_seeing h p1 p2 0) fun r1 => Lt (r1 &&& p3) fun v2 => bd (f_X5_seeing h p1 p2 1) fun r3 => Lt (r3 &&& p3) fun v4 => if v2 = 0 then (some false) else (if v4 = 0 then (some false) else (bd (f_X5_ones h (v2 ||| v4)) fun r5 => if (1 : Int32) < r5 then (some true) else (some false)))
set_option maxRecDepth 20000 in
def f_X5_canBe (h : HS) (p1 : Int32) (p2 : Int32) : Option Int32 :=
  loop2 (fun rec3 (i1 : Int32) (i2 : Int32) => if i2 < (h.1 36 1) then (bd (f_X5_isBy h p1 i2 p2) fun r5 => jn (fun (t6 : Int32) => Lt (i1 ||| t6) fun v9 => rec3 v9 (i2 + 1)) (fun j7 => if r5 = true then (j7 (1 <<< (i2 &&& 31))) else (j7 0))) else (some i1)) 400 0 0
set_option maxRecDepth 20000 in
def f_X5_cover (h : HS) : Option Int32 :=
  bd (f_X5_every h) fun r1 => bd (f_X5_canBe h 0 r1) fun r2 => loop2 (fun rec5 (i3 : Int32) (i4 : Int32) => bd (f_X5_every h) fun r7 => if r7 < i4 then (some i3) else (jn (fun (t8 : Int32) => jn (fun (t11 : Int32) => rec5 t11 (i4 + 1)) (fun j12 => jn (j12 i3) (fun j14 => if t8 = 0 then (j14) else (bd (f_X5_canBe h 0 i4) fun r16 => if r16 = r2 then (j12 i4) else (j14))))) (fun j9 => jn (j9 1) (fun j17 => if i3 = (-9) then (j17) else (bd (f_X5_ones h i4) fun r19 => bd (f_X5_ones h i3) fun r20 => if r19 < r20 then (j17) else (j9 0)))))) 400 (-9) 0
set_option maxRecDepth 20000 in
def f_X4_silence (h : HS) (p1 : Int32) : Option Int32 :=
  bd (f_X1_isMatter h 3 p1) fun r1 => if r1 = true then (bd (f_X1_everybody h 3) fun r2 => loop2 (fun rec5 (i3 : Int32) (i4 : Int32) => if r2 < i4 then (some i3) else (bd (f_X1_hasCoupleAmong h 3 p1 (r2 &&& (i4 ^^^ (-1)))) fun r7 => jn (fun (w8 : Int32) => rec5 w8 (i4 + 1)) (fun j9 => if r7 = true then (j9 i3) else (bd (f_X4_isFewer h i4 i3) fun r11 => if r11 = true then (j9 i4) else (j9 i3))))) 400 r2 0) else (some (-1))
set_option maxRecDepth 20000 in
def f_X5_silence (h : HS) (p1 : Int32) : Option Int32 :=
  bd (f_X5_isMatter h p1) fun r1 => if r1 = true then (loop2 (fun rec4 (i2 : Int32) (i3 : Int32) => bd (f_X5_every h) fun r6 => if r6 < i3 then (some i2) else (jn (fun (t7 : Int32) => jn (fun (t10 : Int32) => rec4 t10 (i3 + 1)) (fun j11 => jn (j11 i2) (fun j13 => if t7 = 0 then (j13) else (bd (f_X5_every h) fun r15 => bd (f_X5_isBy h 0 p1 (r15 &&& (i3 ^^^ (-1)))) fun r16 => if r16 = true then (j13) else (j11 i3))))) (fun j8 => jn (j8 1) (fun j17 => if i2 = (-9) then (j17) else (bd (f_X5_ones h i3) fun r19 => bd (f_X5_ones h i2) fun r20 => if r19 < r20 then (j17) else (j8 0)))))) 400 (-9) 0) else (some (-1))
set_option maxRecDepth 20000 in
def f_X4_leastIn (h : HS) (p0 : Int32) : Option Int32 :=
  loop1 (fun rec2 (i1 : Int32) => if i1 < 6 then (if ((p0 >>> (i1 &&& 31)) &&& 1) = 1 then (some i1) else (rec2 (i1 + 1))) else (some (-9))) 400 0
set_option maxRecDepth 20000 in
def f_X4_standingRow (h : HS) (p1 : Int32) : Option Int32 :=
  if p1 < 0 then (some 0) else (if p1 < 64 then (bd (rd h 35 64 p1) fun r1 => some r1) else (some 0))
set_option maxRecDepth 20000 in
def f_X1_areCoupleForSome (h : HS) (a : Nat) (p1 : Int32) (p2 : Int32) : Option Bool :=
  loop1 (fun rec2 (i1 : Int32) => if i1 < (h.1 a 1) then (bd (f_X1_isCouple h a p1 p2 i1) fun r4 => if r4 = true then (some true) else (bd (f_X1_isCouple h a p2 p1 i1) fun r5 => if r5 = true then (some true) else (rec2 (i1 + 1)))) else (some false)) 400 0
set_option maxRecDepth 20000 in
def f_X4_pairsIn (h : HS) (p0 : Int32) : Option Int32 :=
  if p0 = 0 then (some 0) else (if p0 < 100 then (some 1) else (if p0 < 10000 then (some 2) else (some 3)))
set_option maxRecDepth 20000 in
def f_X4_power (h : HS) (p0 : Int32) (p1 : Int32) : Option Int32 :=
  loop2 (fun rec3 (i1 : Int32) (i2 : Int32) => if i2 < p1 then (Lt (i1 * p0) fun v5 => rec3 v5 (i2 + 1)) else (some i1)) 400 1 0
set_option maxRecDepth 20000 in
def f_X4_betterRow (h : HS) (p0 : Int32) (p1 : Int32) : Option Int32 :=
  bd (f_X4_pairsIn h p0) fun r1 => bd (f_X4_pairsIn h p1) fun r2 => if r1 = r2 then (some (if p1 < p0 then p1 else p0)) else (if r2 < r1 then (some p0) else (some p1))
set_option maxRecDepth 20000 in
def f_X4_bestRowIn (h : HS) (p1 : Int32) : Option Int32 :=
  bd (f_X4_leastIn h p1) fun r1 => if r1 = (-9) then (some 0) else (Lt (p1 &&& ((1 <<< (r1 &&& 31)) ^^^ (-1))) fun v2 => bd (f_X4_standingRow h v2) fun r3 => Lt (r1 + 1) fun v4 => loop2 (fun rec7 (i5 : Int32) (i6 : Int32) => if i6 < 6 then (jn (fun (w9 : Int32) => rec7 w9 (i6 + 1)) (fun j10 => if ((v2 >>> (i6 &&& 31)) &&& 1) = 1 then (bd (f_X1_areCoupleForSome h 3 r1 i6) fun r12 => if r12 = true then (bd (f_X4_standingRow h (v2 &&& ((1 <<< (i6 &&& 31)) ^^^ (-1)))) fun r13 => Lt (((10 * (r1 + 1)) + i6) + 1) fun v14 => bd (f_X4_pairsIn h r13) fun r15 => bd (f_X4_power h 100 r15) fun r16 => bd (f_X4_betterRow h i5 ((v14 * r16) + r13)) fun r17 => j10 r17) else (j10 i5)) else (j10 i5))) else (some i5)) 400 r3 v4)
set_option maxRecDepth 20000 in
def f_X4_bestRow (h : HS) : Option (Int32 × HS) :=
  bd (f_X1_everybody h 3) fun r1 => loop3 (fun rec5 (i2 : Int32) (i3 : Int32) (h4 : HS) => if r1 < i3 then (some (i2, h4)) else (if i3 < 64 then (bd (f_X4_bestRowIn h4 i3) fun r7 => bd (wr h4 35 64 i3 r7) fun h8 => rec5 r7 (i3 + 1) h8) else (some (i2, h4)))) 400 0 0 h
set_option maxRecDepth 20000 in
def f_X4_match (h : HS) (p1 : Int32) : Option (Int32 × HS) :=
  bd2 (f_X4_bestRow h) fun r1 h2 => if p1 = 0 then (bd (f_X4_pairsIn h2 r1) fun r3 => some (r3, h2)) else (some (r1, h2))
set_option maxRecDepth 20000 in
def f_X5_layEdges (h : HS) : Option (Int32 × HS) :=
  loop3 (fun rec4 (i1 : Int32) (i2 : Int32) (h3 : HS) => if i2 < (h3.1 36 0) then (Lt (i2 + 1) fun v6 => loop3 (fun rec10 (i7 : Int32) (i8 : Int32) (h9 : HS) => if i8 < (h9.1 36 0) then (bd (f_X5_canBe h9 0 ((1 <<< (i2 &&& 31)) ||| (1 <<< (i8 &&& 31)))) fun r12 => jn (fun (w13 : Int32) (h14 : HS) => rec10 w13 (i8 + 1) h14) (fun j15 => if r12 = 0 then (j15 i7 h9) else (bd (wr h9 44 15 i7 ((1 <<< (i2 &&& 31)) ||| (1 <<< (i8 &&& 31)))) fun h17 => j15 (i7 + 1) h17))) else (rec4 i7 (i2 + 1) h9)) 400 i1 v6 h3) else (some (i1, h3))) 400 0 0 h
set_option maxRecDepth 20000 in
def f_X5_toldOf (h : HS) (p1 : Int32) : Option Int32 :=
  loop2 (fun rec3 (i1 : Int32) (i2 : Int32) => if i2 < (h.1 36 0) then (bd (f_X5_has h p1 i2) fun r5 => jn (fun (t6 : Int32) => rec3 t6 (i2 + 1)) (fun j7 => if r5 = true then (j7 (((10 * i1) + i2) + 1)) else (j7 i1))) else (some i1)) 400 0 0
set_option maxRecDepth 20000 in
def f_X5_rowOf (h : HS) (p1 : Int32) (p2 : Int32) : Option Int32 :=
  loop1 (fun rec2 (i1 : Int32) => if i1 < p2 then (jn (fun (t4 : Int32) => loop1 (fun rec8 (i7 : Int32) => jn (fun (t10 : Int32) => if i7 < t10 then (jn (fun (t13 : Int32) => jn (fun (t16 : Int32) => loop1 (fun rec20 (i19 : Int32) => jn (rec8 (i7 + 1)) (fun j22 => if t13 = 0 then (j22) else (jn (fun (t24 : Int32) => if i19 < t24 then (jn (fun (t27 : Int32) => if t27 = 0 then (rec20 (i19 + 1)) else (if p1 = 1 then (bd (rd h 44 15 i1) fun r40 => bd (f_X5_toldOf h r40) fun r41 => some r41) else (if p1 = 2 then (bd (rd h 44 15 i1) fun r36 => bd (f_X5_toldOf h r36) fun r37 => bd (rd h 44 15 i7) fun r38 => bd (f_X5_toldOf h r38) fun r39 => some ((100 * r37) + r39)) else (bd (rd h 44 15 i1) fun r30 => bd (f_X5_toldOf h r30) fun r31 => bd (rd h 44 15 i7) fun r32 => bd (f_X5_toldOf h r32) fun r33 => bd (rd h 44 15 i19) fun r34 => bd (f_X5_toldOf h r34) fun r35 => some (((10000 * r31) + (100 * r33)) + r35))))) (fun j28 => jn (j28 1) (fun j42 => if p1 < 3 then (j42) else (bd (rd h 44 15 i1) fun r44 => bd (rd h 44 15 i7) fun r45 => bd (rd h 44 15 i19) fun r46 => if ((r44 ||| r45) &&& r46) = 0 then (j42) else (j28 0))))) else (j22)) (fun j25 => if (2 : Int32) < p1 then (j25 p2) else (j25 (i7 + 1)))))) 400 t16) (fun j17 => if (2 : Int32) < p1 then (j17 (i7 + 1)) else (j17 i7))) (fun j14 => jn (j14 1) (fun j47 => if p1 < 2 then (j47) else (bd (rd h 44 15 i1) fun r49 => bd (rd h 44 15 i7) fun r50 => if (r49 &&& r50) = 0 then (j47) else (j14 0))))) else (rec2 (i1 + 1))) (fun j11 => if (1 : Int32) < p1 then (j11 p2) else (j11 (i1 + 1)))) 400 t4) (fun j5 => if (1 : Int32) < p1 then (j5 (i1 + 1)) else (j5 i1))) else (some (-9))) 400 0
set_option maxRecDepth 20000 in
def f_X5_match (h : HS) (p1 : Int32) : Option (Int32 × HS) :=
  bd2 (f_X5_layEdges h) fun r1 h2 => loop1 (fun rec4 (i3 : Int32) => if (0 : Int32) < i3 then (bd (f_X5_rowOf h2 i3 r1) fun r6 => if r6 = (-9) then (rec4 (i3 + (-1))) else (if p1 = 0 then (some (i3, h2)) else (some (r6, h2)))) else (some (0, h2))) 400 3
set_option maxRecDepth 20000 in
def f_X4_withoutDoings (h : HS) (p0 : Int32) (p1 : Int32) : Option Int32 :=
  loop2 (fun rec3 (i1 : Int32) (i2 : Int32) => if i2 < p1 then (bd (dv i1 1000) fun r5 => rec3 r5 (i2 + 1)) else (some i1)) 400 p0 0
set_option maxRecDepth 20000 in
def f_X1_seesNow (h : HS) (a : Nat) (p1 : Int32) (p2 : Int32) : Option (Bool × HS) :=
  bd (f_X1_canSee h a p1 p2) fun r1 => if r1 = true then (bd (f_X1_letSee h a p1 p2) fun h3 => some (r1, h3)) else (some (r1, h))
set_option maxRecDepth 20000 in
def f_X1_isForgotten (h : HS) (a : Nat) (p1 : Int32) : Option (Bool × HS) :=
  bd (f_X1_knownAs h a p1) fun r1 => jn (fun (t2 : Int32) => if t2 = 0 then (retBH t2 h) else (bd (f_X1_setKnown h a p1 (-9)) fun h6 => retBH t2 h6)) (fun j3 => if r1 = (-9) then (j3 0) else (j3 1))
set_option maxRecDepth 20000 in
def f_X1_losesGlass (h : HS) (a : Nat) (p1 : Int32) : Option (Bool × HS) :=
  bd (f_X1_canLoseGlass h a p1) fun r1 => if r1 = true then (bd (f_X1_loseGlass h a p1) fun h3 => some (r1, h3)) else (some (r1, h))
set_option maxRecDepth 20000 in
def f_X1_isLearnt (h : HS) (a : Nat) (p1 : Int32) (p2 : Int32) (p3 : Int32) : Option (Bool × HS) :=
  bd (f_X1_canLearn h a p1 p2 p3) fun r1 => if r1 = true then (bd (f_X1_toldBy h a p1 p2 p3) fun r2 => bd (f_X1_setKnown h a p3 r2) fun h4 => some (r1, h4)) else (some (r1, h))
set_option maxRecDepth 20000 in
def f_X1_doneAsTold (h : HS) (a : Nat) (p1 : Int32) : Option (Bool × HS) :=
  bd (dv p1 100) fun r1 => bd (dv p1 10) fun r2 => bd (rm r2 10) fun r3 => bd (rm p1 10) fun r4 => if r1 = 1 then (bd2 (f_X1_seesNow h a r3 r4) fun r11 h12 => some (r11, h12)) else (if r1 = 2 then (if r3 = 0 then (bd2 (f_X1_isForgotten h a r4) fun r9 h10 => if r9 = true then (some (true, h10)) else (some (false, h10))) else (some (false, h))) else (if r1 = 3 then (if r3 = 0 then (bd2 (f_X1_losesGlass h a r4) fun r7 h8 => if r7 = true then (some (true, h8)) else (some (false, h8))) else (some (false, h))) else (bd2 (f_X1_isLearnt h a r3 r4 (r1 - 4)) fun r5 h6 => some (r5, h6))))
set_option maxRecDepth 20000 in
def f_X4_judge (h : HS) (p1 : Int32) (p2 : Int32) : Option (Int32 × HS) :=
  if p1 < 1 then (some ((-2), h)) else (if (3 : Int32) < p1 then (some ((-2), h)) else (if p2 < 0 then (some ((-2), h)) else (bd (f_X4_withoutDoings h p2 p1) fun r1 => if r1 = 0 then (bd (f_X1_become h 9 3) fun h3 => loop2 (fun rec6 (i4 : Int32) (h5 : HS) => if i4 < p1 then (bd (f_X4_withoutDoings h5 p2 ((p1 - 1) - i4)) fun r8 => bd (rm r8 1000) fun r9 => bd2 (f_X1_doneAsTold h5 9 r9) fun r10 h11 => if r10 = true then (rec6 (i4 + 1) h11) else (some (i4, h11))) else (some ((-9), h5))) 400 0 h3) else (some ((-2), h)))))
set_option maxRecDepth 20000 in
def f_X5_power (h : HS) (p0 : Int32) (p1 : Int32) : Option Int32 :=
  loop2 (fun rec3 (i1 : Int32) (i2 : Int32) => if i2 < p1 then (Lt (i1 * p0) fun v5 => rec3 v5 (i2 + 1)) else (some i1)) 400 1 0
set_option maxRecDepth 20000 in
def f_X5_layTrial (h : HS) : Option HS :=
  loop2 (fun rec3 (i1 : Int32) (h2 : HS) => if i1 < 23 then (bd (rd h2 38 46 i1) fun r5 => bd (wr h2 38 46 (23 + i1) r5) fun h6 => rec3 (i1 + 1) h6) else (some h2)) 400 0 h
set_option maxRecDepth 20000 in
def f_X5_tryThing (h : HS) (p1 : Int32) (p2 : Int32) (p3 : Int32) : Option (Bool × HS) :=
  jn (fun (t1 : Int32) => jn (jn (jn (if t1 = 0 then (retBH t1 h) else (bd (f_X5_sworn h 1 p2 p3 (p1 - 4)) fun r10 => bd (wr h 38 46 ((36 + p1) - 4) r10) fun h11 => retBH t1 h11)) (fun j8 => if t1 = 0 then (j8) else (if p1 = 3 then (bd (f_X5_dropOn h 1 p3) fun h13 => retBH t1 h13) else (j8)))) (fun j6 => if t1 = 0 then (j6) else (if p1 = 2 then (bd (wr h 38 46 (36 + p3) (-9)) fun h14 => retBH t1 h14) else (j6)))) (fun j4 => if t1 = 0 then (j4) else (if p1 = 1 then (bd (rd h 38 46 (30 + p2)) fun r15 => bd (wr h 38 46 (30 + p2) (r15 ||| (1 <<< (p3 &&& 31)))) fun h16 => retBH t1 h16) else (j4)))) (fun j2 => if p1 = 1 then (bd (f_X5_canShow h 1 p2 p3) fun r28 => j2 (b2i r28)) else (if p1 = 2 then (jn (j2 0) (fun j24 => if p2 = 0 then (bd (f_X5_isMatter h p3) fun r26 => if r26 = true then (bd (rd h 38 46 (36 + p3)) fun r27 => if r27 = (-9) then (j24) else (j2 1)) else (j24)) else (j24))) else (if p1 = 3 then (jn (j2 0) (fun j21 => if p2 = 0 then (bd (f_X5_canDrop h 1 p3) fun r23 => if r23 = true then (j2 1) else (j21)) else (j21))) else (bd (f_X5_in h (Int32.toInt64 p1) 4 7) fun r17 => jn (j2 0) (fun j18 => if r17 = true then (bd (f_X5_canSwear h 1 p2 p3 (p1 - 4)) fun r20 => if r20 = true then (j2 1) else (j18)) else (j18))))))
set_option maxRecDepth 20000 in
def f_X5_judge (h : HS) (p1 : Int32) (p2 : Int32) : Option (Int32 × HS) :=
  bd (f_X5_in h (Int32.toInt64 p1) 1 3) fun r1 => if r1 = true then (bd (f_X5_power h 1000 p1) fun r2 => bd (f_X5_in h (Int32.toInt64 p2) 0 (Int32.toInt64 (r2 - 1))) fun r3 => if r3 = true then (bd (f_X5_layTrial h) fun h5 => loop2 (fun rec8 (i6 : Int32) (h7 : HS) => if i6 < p1 then (bd (f_X5_power h7 1000 ((p1 - 1) - i6)) fun r10 => bd (dv p2 r10) fun r11 => bd (rm r11 1000) fun r12 => bd (dv r12 100) fun r13 => bd (dv r12 10) fun r14 => bd (rm r14 10) fun r15 => bd (rm r12 10) fun r16 => bd2 (f_X5_tryThing h7 r13 r15 r16) fun r17 h18 => if r17 = true then (rec8 (i6 + 1) h18) else (some (i6, h18))) else (some ((-9), h7))) 400 0 h5) else (some ((-2), h))) else (some ((-2), h))
set_option maxRecDepth 20000 in
def f_X2_add (h : HS) (p1 : Int32) (p2 : Int32) (p3 : Int32) : Option (Bool × HS) :=
  if (h.1 31 3) < 0 then (some (false, h)) else (if (h.1 31 3) < 6 then (bd (wr h 32 6 (h.1 31 3) p1) fun h1 => bd (wr h1 33 6 (h1.1 31 3) p2) fun h2 => bd (wr h2 34 6 (h2.1 31 3) p3) fun h3 => Lt (hset h3 31 3 ((h3.1 31 3) + 1)) fun h4 => some (true, h4)) else (some (false, h)))
set_option maxRecDepth 20000 in
def f_X4_hear (h : HS) (p1 : Int32) (p2 : Int32) (p3 : Int32) : Option (Int32 × HS) :=
  bd (f_X1_isMatter h 3 p1) fun r1 => if r1 = true then (bd (f_X4_isHalf h p2) fun r2 => if r2 = true then (if p3 < 0 then (some ((-2), h)) else (if (9 : Int32) < p3 then (some ((-2), h)) else (bd2 (f_X2_add h p1 p2 p3) fun r3 h4 => if r3 = true then (some ((h4.1 31 3), h4)) else (some ((-4), h4))))) else (some ((-2), h))) else (some ((-1), h))
set_option maxRecDepth 20000 in
def f_X5_hear (h : HS) (p1 : Int32) (p2 : Int32) (p3 : Int32) : Option (Int32 × HS) :=
  bd (f_X5_isMatter h p1) fun r1 => if r1 = true then (bd (f_X5_in h (Int32.toInt64 p2) 0 1) fun r2 => if r2 = true then (bd (f_X5_in h (Int32.toInt64 p3) 0 9) fun r3 => if r3 = true then (if (h.1 36 17) = 6 then (some ((-4), h)) else (bd (wr h 45 6 (h.1 36 17) p1) fun h4 => bd (wr h4 46 6 (h4.1 36 17) p2) fun h5 => bd (wr h5 47 6 (h5.1 36 17) p3) fun h6 => Lt (hset h6 36 17 ((h6.1 36 17) + 1)) fun h7 => some ((h7.1 36 17), h7))) else (some ((-2), h))) else (some ((-2), h))) else (some ((-1), h))
set_option maxRecDepth 20000 in
def f_X4_unhear (h : HS) : Option (Int32 × HS) :=
  Lt (h.1 31 3) fun v1 => Lt (hset h 31 3 0) fun h2 => some (v1, h2)
set_option maxRecDepth 20000 in
def f_X5_unhear (h : HS) : Option (Int32 × HS) :=
  Lt (h.1 36 17) fun v1 => Lt (hset h 36 17 0) fun h2 => some (v1, h2)
set_option maxRecDepth 20000 in
def f_X2_allows (h : HS) (p1 : Int32) (p2 : Int32) (p3 : Int32) (p4 : Int32) : Option Bool :=
  loop2 (fun rec3 (i1 : Int32) (i2 : Int32) => jn (if p4 < i1 then (some false) else (some true)) (fun j5 => if i2 < (h.1 31 3) then (if i2 < 6 then (bd (rd h 32 6 i2) fun r7 => jn (fun (w8 : Int32) => rec3 w8 (i2 + 1)) (fun j9 => if r7 = p1 then (bd (rd h 33 6 i2) fun r11 => if r11 = p2 then (bd (rd h 34 6 i2) fun r12 => if r12 = p3 then (j9 i1) else (bd (rd h 34 6 i2) fun r13 => if r13 = (9 - p3) then (j9 (i1 + 1)) else (some false))) else (j9 i1)) else (j9 i1))) else (j5)) else (j5))) 400 0 0
set_option maxRecDepth 20000 in
def f_X4_values (h : HS) (p1 : Int32) (p2 : Int32) (p3 : Int32) : Option Int32 :=
  bd (f_X1_isMatter h 3 p1) fun r1 => if r1 = true then (bd (f_X4_isHalf h p2) fun r2 => if r2 = true then (if p3 < 0 then (some (-2)) else (if (6 : Int32) < p3 then (some (-2)) else (loop2 (fun rec5 (i3 : Int32) (i4 : Int32) => if (9 : Int32) < i4 then (some i3) else (bd (f_X2_allows h p1 p2 i4 p3) fun r7 => jn (fun (w8 : Int32) => rec5 w8 (i4 + 1)) (fun j9 => if r7 = true then (Lt (i3 ||| (1 <<< (i4 &&& 31))) fun v11 => j9 v11) else (j9 i3)))) 400 0 0))) else (some (-2))) else (some (-1))
set_option maxRecDepth 20000 in
def f_X5_mayBe (h : HS) (p1 : Int32) (p2 : Int32) (p3 : Int32) (p4 : Int32) : Option Bool :=
  loop3 (fun rec4 (i1 : Int32) (i2 : Int32) (i3 : Int32) => if i3 < (h.1 36 17) then (bd (rd h 45 6 i3) fun r6 => jn (fun (w7 : Int32) (w8 : Int32) => rec4 w7 w8 (i3 + 1)) (fun j9 => if r6 = p1 then (bd (rd h 46 6 i3) fun r11 => if r11 = p2 then (bd (rd h 47 6 i3) fun r12 => jn (fun (t13 : Int32) => Lt (i1 + t13) fun v16 => jn (fun (t17 : Int32) => j9 v16 t17) (fun j18 => jn (j18 0) (fun j20 => if i2 = 0 then (j20) else (bd (rd h 47 6 i3) fun r22 => jn (j18 1) (fun j23 => if r22 = p3 then (j23) else (bd (rd h 47 6 i3) fun r25 => if r25 = (9 - p3) then (j23) else (j20))))))) (fun j14 => if r12 = (9 - p3) then (j14 1) else (j14 0))) else (j9 i1 i2)) else (j9 i1 i2))) else (if i2 = 0 then (some false) else (if p4 < i1 then (some false) else (some true)))) 400 0 1 0
set_option maxRecDepth 20000 in
def f_X5_values (h : HS) (p1 : Int32) (p2 : Int32) (p3 : Int32) : Option Int32 :=
  bd (f_X5_isMatter h p1) fun r1 => if r1 = true then (bd (f_X5_in h (Int32.toInt64 p2) 0 1) fun r2 => if r2 = true then (bd (f_X5_in h (Int32.toInt64 p3) 0 6) fun r3 => if r3 = true then (loop2 (fun rec6 (i4 : Int32) (i5 : Int32) => if i5 < 10 then (bd (f_X5_mayBe h p1 p2 i5 p3) fun r8 => jn (fun (t9 : Int32) => Lt (i4 ||| t9) fun v12 => rec6 v12 (i5 + 1)) (fun j10 => if r8 = true then (j10 (1 <<< (i5 &&& 31))) else (j10 0))) else (some i4)) 400 0 0) else (some (-2))) else (some (-2))) else (some (-1))
set_option maxRecDepth 20000 in
def f_X4_factorial (h : HS) (p0 : Int32) : Option Int32 :=
  loop2 (fun rec3 (i1 : Int32) (i2 : Int32) => if p0 < i2 then (some i1) else (Lt (i1 * i2) fun v5 => rec3 v5 (i2 + 1))) 400 1 2
set_option maxRecDepth 20000 in
def f_X4_ordersWithAhead (h : HS) (p1 : Int32) : Option Int32 :=
  bd (f_J6_bitCount_0f7a4 h p1) fun r1 => bd (f_X4_factorial h r1) fun r2 => bd (f_X4_factorial h (((h.1 3 0) - 1) - r1)) fun r3 => some (r2 * r3)
set_option maxRecDepth 20000 in
def f_X4_inLeastTerms (h : HS) (p0 : Int32) (p1 : Int32) (p2 : Int32) : Option Int32 :=
  loop3 (fun rec4 (i1 : Int32) (i2 : Int32) (i3 : Int32) => jn (jn (fun (t8 : Int32) => if i1 = 0 then (some t8) else (bd (dv t8 i1) fun r11 => some r11)) (fun j9 => if p2 = 0 then (j9 p1) else (j9 p0))) (fun j6 => if i3 < 100 then (if i2 = 0 then (j6) else (bd (rm i1 i2) fun r12 => rec4 i2 r12 (i3 + 1))) else (j6))) 400 p1 p0 0
set_option maxRecDepth 20000 in
def f_X4_share (h : HS) (p1 : Int32) (p2 : Int32) : Option Int32 :=
  bd (f_X1_isPerson h 3 p1) fun r1 => if r1 = true then (bd (f_X1_everybody h 3) fun r2 => Lt (1 <<< (p1 &&& 31)) fun v3 => loop2 (fun rec6 (i4 : Int32) (i5 : Int32) => if r2 < i5 then (bd (f_X4_factorial h (h.1 3 0)) fun r8 => bd (f_X4_inLeastTerms h i4 r8 p2) fun r9 => some r9) else (jn (fun (w10 : Int32) => rec6 w10 (i5 + 1)) (fun j11 => if (i5 &&& v3) = 0 then (bd (f_X1_knowableAmong h 3 (i5 ||| v3)) fun r13 => bd (f_J6_bitCount_0f7a4 h r13) fun r14 => bd (f_X1_knowableAmong h 3 i5) fun r15 => bd (f_J6_bitCount_0f7a4 h r15) fun r16 => Lt (r14 - r16) fun v17 => bd (f_X4_ordersWithAhead h i5) fun r18 => Lt (i4 + (v17 * r18)) fun v19 => j11 v19) else (j11 i4)))) 400 0 0) else (some (-1))
set_option maxRecDepth 20000 in
def f_X5_factorial (h : HS) (p0 : Int32) : Option Int32 :=
  loop2 (fun rec3 (i1 : Int32) (i2 : Int32) => if p0 < i2 then (some i1) else (Lt (i1 * i2) fun v5 => rec3 v5 (i2 + 1))) 400 1 2
set_option maxRecDepth 20000 in
def f_X5_common (h : HS) (p0 : Int32) (p1 : Int32) : Option Int32 :=
  jn (fun (t1 : Int32) => loop2 (fun rec6 (i4 : Int32) (i5 : Int32) => if i5 = 0 then (some i4) else (bd (rm i4 i5) fun r8 => rec6 i5 r8)) 400 t1 p1) (fun j2 => if p0 < 0 then (j2 (-p0)) else (j2 p0))
set_option maxRecDepth 20000 in
def f_X5_share (h : HS) (p1 : Int32) (p2 : Int32) : Option Int32 :=
  bd (f_X5_isPerson h p1) fun r1 => if r1 = true then (loop2 (fun rec4 (i2 : Int32) (i3 : Int32) => bd (f_X5_every h) fun r6 => if r6 < i3 then (bd (f_X5_factorial h (h.1 36 0)) fun r7 => bd (f_X5_common h i2 r7) fun r8 => if p2 = 0 then (bd (f_X5_factorial h (h.1 36 0)) fun r9 => bd (dv r9 r8) fun r10 => some r10) else (bd (dv i2 r8) fun r11 => some r11)) else (bd (f_X5_has h i3 p1) fun r12 => jn (fun (w13 : Int32) => rec4 w13 (i3 + 1)) (fun j14 => if r12 = true then (j14 i2) else (bd (f_X5_ones h i3) fun r16 => bd (f_X5_factorial h r16) fun r17 => bd (f_X5_ones h i3) fun r18 => bd (f_X5_factorial h (((h.1 36 0) - 1) - r18)) fun r19 => Lt (r17 * r19) fun v20 => bd (f_X5_canBe h 0 (i3 ||| (1 <<< (p1 &&& 31)))) fun r21 => bd (f_X5_ones h r21) fun r22 => bd (f_X5_canBe h 0 i3) fun r23 => bd (f_X5_ones h r23) fun r24 => Lt (i2 + (v20 * (r22 - r24))) fun v25 => j14 v25)))) 400 0 0) else (some (-1))
set_option maxRecDepth 20000 in
def f_X1_areCouple (h : HS) (a : Nat) (p1 : Int32) (p2 : Int32) (p3 : Int32) : Option Bool :=
  bd (f_X1_isCouple h a p1 p2 p3) fun r1 => if r1 = true then (some true) else (bd (f_X1_isCouple h a p2 p1 p3) fun r2 => if r2 = true then (some true) else (some false))
set_option maxRecDepth 20000 in
def f_X4_gainOf (h : HS) (p1 : Int32) (p2 : Int32) (p3 : Int32) (p4 : Int32) (p5 : Int32) : Option Int32 :=
  if p4 = 0 then (some 0) else (if p5 = 0 then (some (-1)) else (bd (f_X1_areCouple h 3 p1 p2 p3) fun r1 => if r1 = true then (bd (f_X1_kindOf h 3 p1) fun r2 => if r2 = 1 then (some 4) else (some 3)) else (some (-2))))
set_option maxRecDepth 20000 in
def f_X4_isContent (h : HS) (p1 : Int32) (p2 : Int32) (p3 : Int32) (p4 : Int32) (p5 : Int32) : Option Bool :=
  bd (f_X4_gainOf h p1 p2 p3 p4 p5) fun r1 => bd (f_X4_gainOf h p1 p2 p3 (1 - p4) p5) fun r2 => if r1 < r2 then (some false) else (some true)
set_option maxRecDepth 20000 in
def f_X4_rests (h : HS) (p1 : Int32) (p2 : Int32) (p3 : Int32) (p4 : Int32) : Option Int32 :=
  bd (f_X1_isPerson h 3 p1) fun r1 => if r1 = true then (bd (f_X1_isPerson h 3 p2) fun r2 => if r2 = true then (bd (f_X1_isMatter h 3 p3) fun r3 => if r3 = true then (if p1 = p2 then (some (-2)) else (if p4 < 0 then (some (-2)) else (if (1 : Int32) < p4 then (some (-2)) else (loop3 (fun rec7 (i4 : Int32) (i5 : Int32) (i6 : Int32) => if i6 < 4 then (bd (dv i6 2) fun r9 => bd (rm i6 2) fun r10 => bd (f_X4_isContent h p1 p2 p3 r9 r10) fun r11 => jn (fun (w12 : Int32) (w13 : Int32) => rec7 w12 w13 (i6 + 1)) (fun j14 => if r11 = true then (bd (f_X4_isContent h p2 p1 p3 r10 r9) fun r16 => if r16 = true then (jn (fun (t17 : Int32) => j14 (i4 + 1) t17) (fun j18 => if i4 = 0 then (j18 ((10 * r9) + r10)) else (j18 i5))) else (j14 i4 i5)) else (j14 i4 i5))) else (if p4 = 0 then (some i4) else (some i5))) 400 0 (-9) 0)))) else (some (-1))) else (some (-1))) else (some (-1))
set_option maxRecDepth 20000 in
def f_X5_gain (h : HS) (p1 : Int32) (p2 : Int32) (p3 : Int32) (p4 : Int32) : Option Int32 :=
  if p3 = 0 then (some 0) else (if p4 = 0 then (some (-1)) else (if p2 = 0 then (some (-2)) else (bd (rd h 38 46 (1 + p1)) fun r1 => if r1 = 1 then (some 4) else (some 3))))
set_option maxRecDepth 20000 in
def f_X5_rests (h : HS) (p1 : Int32) (p2 : Int32) (p3 : Int32) (p4 : Int32) : Option Int32 :=
  bd (f_X5_isPerson h p1) fun r1 => if r1 = true then (bd (f_X5_isPerson h p2) fun r2 => if r2 = true then (bd (f_X5_isMatter h p3) fun r3 => if r3 = true then (if p1 = p2 then (some (-2)) else (bd (f_X5_in h (Int32.toInt64 p4) 0 1) fun r4 => if r4 = true then (bd (f_X5_isBy h 0 p3 ((1 <<< (p1 &&& 31)) ||| (1 <<< (p2 &&& 31)))) fun r5 => loop3 (fun rec9 (i6 : Int32) (i7 : Int32) (i8 : Int32) => if i8 < 4 then (bd (dv i8 2) fun r11 => bd (rm i8 2) fun r12 => bd (f_X5_gain h p1 (b2i r5) (1 - r11) r12) fun r13 => bd (f_X5_gain h p1 (b2i r5) r11 r12) fun r14 => jn (fun (t15 : Int32) => jn (fun (t18 : Int32) => jn (fun (t21 : Int32) => Lt (i6 + t21) fun v24 => rec9 v24 t18 (i8 + 1)) (fun j22 => if t15 = 0 then (j22 0) else (j22 1))) (fun j19 => jn (j19 i7) (fun j25 => if t15 = 0 then (j25) else (if i6 = 0 then (j19 ((10 * r11) + r12)) else (j25))))) (fun j16 => jn (j16 0) (fun j27 => if r14 < r13 then (j27) else (bd (f_X5_gain h p2 (b2i r5) (1 - r12) r11) fun r29 => bd (f_X5_gain h p2 (b2i r5) r12 r11) fun r30 => if r30 < r29 then (j27) else (j16 1))))) else (if p4 = 0 then (some i6) else (some i7))) 400 0 (-9) 0) else (some (-2)))) else (some (-1))) else (some (-1))) else (some (-1))
set_option maxRecDepth 20000 in
def f_X4_come (h : HS) (p1 : Int32) (p2 : Int32) (p3 : Int32) : Option Int32 :=
  bd (f_X1_isMatter h 3 p1) fun r1 => if r1 = true then (if p2 < 0 then (some (-2)) else (if (10 : Int32) < p2 then (some (-2)) else (bd (f_X1_everybody h 3) fun r2 => loop2 (fun rec5 (i3 : Int32) (i4 : Int32) => if r2 < i4 then (bd (f_X4_power h 10 (h.1 3 0)) fun r7 => bd (f_X4_inLeastTerms h i3 r7 p3) fun r8 => some r8) else (bd (f_X1_hasCoupleAmong h 3 p1 i4) fun r9 => jn (fun (w10 : Int32) => rec5 w10 (i4 + 1)) (fun j11 => if r9 = true then (bd (f_J6_bitCount_0f7a4 h i4) fun r13 => bd (f_X4_power h p2 r13) fun r14 => bd (f_X4_power h (10 - p2) ((h.1 3 0) - r13)) fun r15 => Lt (i3 + (r14 * r15)) fun v16 => j11 v16) else (j11 i3)))) 400 0 0))) else (some (-1))
set_option maxRecDepth 20000 in
def f_X5_come (h : HS) (p1 : Int32) (p2 : Int32) (p3 : Int32) : Option Int32 :=
  bd (f_X5_isMatter h p1) fun r1 => if r1 = true then (bd (f_X5_in h (Int32.toInt64 p2) 0 10) fun r2 => if r2 = true then (loop3 (fun rec6 (i3 : Int32) (i4 : Int32) (i5 : Int32) => bd (f_X5_every h) fun r8 => if r8 < i5 then (bd (f_X5_common h i3 i4) fun r9 => if p3 = 0 then (bd (dv i4 r9) fun r10 => some r10) else (bd (dv i3 r9) fun r11 => some r11)) else (bd (f_X5_ones h i5) fun r12 => bd (f_X5_power h p2 r12) fun r13 => bd (f_X5_ones h i5) fun r14 => bd (f_X5_power h (10 - p2) ((h.1 36 0) - r14)) fun r15 => Lt (r13 * r15) fun v16 => Lt (i4 + v16) fun v17 => bd (f_X5_isBy h 0 p1 i5) fun r18 => jn (fun (t19 : Int32) => Lt (i3 + t19) fun v22 => rec6 v22 v17 (i5 + 1)) (fun j20 => if r18 = true then (j20 v16) else (j20 0)))) 400 0 0 0) else (some (-2))) else (some (-1))
set_option maxRecDepth 20000 in
def f_X4_seed (h : HS) (p1 : Int64) : Option (Int64 × HS) :=
  Lt (h.2 0) fun v1 => Lt (hlng h 0 p1) fun h2 => some (v1, h2)
set_option maxRecDepth 20000 in
def f_X5_seed (h : HS) (p1 : Int64) : Option (Int64 × HS) :=
  Lt (h.2 36) fun v1 => Lt (hlng h 36 p1) fun h2 => some (v1, h2)
set_option maxRecDepth 20000 in
def f_X1_passYear (h : HS) (a : Nat) (p1 : Int32) : Option HS :=
  if p1 < 24 then (bd (dv p1 4) fun r3 => bd (rm p1 4) fun r4 => bd2 (f_X1_seesNow h a r3 r4) fun r5 h6 => some h6) else (bd2 (f_X1_losesGlass h a (p1 - 24)) fun r1 h2 => some h2)
set_option maxRecDepth 20000 in
def f_X4_years (h : HS) (p1 : Int32) : Option (Int32 × HS) :=
  if p1 < 1 then (some ((-2), h)) else (if (30 : Int32) < p1 then (some ((-2), h)) else (bd (f_X1_become h 9 3) fun h2 => loop3 (fun rec6 (i3 : Int32) (i4 : Int32) (h5 : HS) => if i4 < p1 then (Lt (hlng h5 0 (((h5.2 0) * 6364136223846793005) + 1442695040888963407)) fun h8 => bd (lrm ((((h8.2 0)).toUInt64 >>> ((33 : Int32).toInt64.toUInt64 &&& Int64.toUInt64 63)).toInt64) 30) fun r9 => bd (f_X1_passYear h8 9 (Int64.toInt32 r9)) fun h11 => bd (f_X1_everybody h11 9) fun r12 => bd (f_X1_knowableAmong h11 9 r12) fun r13 => bd (f_J6_bitCount_0f7a4 h11 r13) fun r14 => Lt (i3 + r14) fun v15 => rec6 v15 (i4 + 1) h11) else (some (i3, h5))) 400 0 0 h2))
set_option maxRecDepth 20000 in
def f_X5_years (h : HS) (p1 : Int32) : Option (Int32 × HS) :=
  bd (f_X5_in h (Int32.toInt64 p1) 1 30) fun r1 => if r1 = true then (bd (f_X5_layTrial h) fun h3 => loop3 (fun rec7 (i4 : Int32) (i5 : Int32) (h6 : HS) => if i5 < p1 then (Lt (hlng h6 36 (((h6.2 36) * 6364136223846793005) + 1442695040888963407)) fun h9 => bd (lrm ((((h9.2 36)).toUInt64 >>> ((33 : Int32).toInt64.toUInt64 &&& Int64.toUInt64 63)).toInt64) 30) fun r10 => Lt (Int64.toInt32 r10) fun v11 => jn (fun (h12 : HS) => bd (f_X5_every h12) fun r15 => bd (f_X5_canBe h12 1 r15) fun r16 => bd (f_X5_ones h12 r16) fun r17 => Lt (i4 + r17) fun v18 => rec7 v18 (i5 + 1) h12) (fun j13 => jn (if v11 < 24 then (j13 h9) else (bd (f_X5_canDrop h9 1 (v11 - 24)) fun r21 => if r21 = true then (bd (f_X5_dropOn h9 1 (v11 - 24)) fun h23 => j13 h23) else (j13 h9))) (fun j19 => if v11 < 24 then (bd (dv v11 4) fun r24 => bd (rm v11 4) fun r25 => bd (f_X5_canShow h9 1 r24 r25) fun r26 => if r26 = true then (bd (dv v11 4) fun r27 => bd (rd h9 38 46 (30 + r27)) fun r28 => bd (rm v11 4) fun r29 => bd (wr h9 38 46 (30 + r27) (r28 ||| (1 <<< (r29 &&& 31)))) fun h30 => j13 h30) else (j19)) else (j19)))) else (some (i4, h6))) 400 0 0 h3) else (some ((-2), h))
set_option maxRecDepth 20000 in
def f_X4_isSlot (h : HS) (p0 : Int32) : Option Bool :=
  if p0 < 0 then (some false) else (if p0 < 2 then (some true) else (some false))
set_option maxRecDepth 20000 in
def f_X4_keptIn (h : HS) (p1 : Int32) : Option Nat :=
  if p1 = 0 then (some 15) else (some 21)
set_option maxRecDepth 20000 in
def f_X1_knownMatters (h : HS) (a : Nat) : Option Int32 :=
  loop2 (fun rec3 (i1 : Int32) (i2 : Int32) => if i2 < (h.1 a 1) then (bd (f_X1_knownAs h a i2) fun r5 => jn (fun (w6 : Int32) => rec3 w6 (i2 + 1)) (fun j7 => if r5 = (-9) then (j7 i1) else (Lt (i1 ||| (1 <<< (i2 &&& 31))) fun v9 => j7 v9))) else (some i1)) 400 0 0
set_option maxRecDepth 20000 in
def f_X4_keep (h : HS) (p1 : Int32) : Option (Int32 × HS) :=
  bd (f_X4_isSlot h p1) fun r1 => if r1 = true then (bd (f_X4_keptIn h p1) fun r2 => if r2 = 15 then (bd (f_X1_become h 15 3) fun h4 => Lt (hset h4 0 5 ((h4.1 0 5) ||| (1 <<< (p1 &&& 31)))) fun h5 => bd (f_X1_knownMatters h5 3) fun r6 => bd (f_J6_bitCount_0f7a4 h5 r6) fun r7 => some (r7, h5)) else if r2 = 21 then (bd (f_X1_become h 21 3) fun h9 => Lt (hset h9 0 5 ((h9.1 0 5) ||| (1 <<< (p1 &&& 31)))) fun h10 => bd (f_X1_knownMatters h10 3) fun r11 => bd (f_J6_bitCount_0f7a4 h10 r11) fun r12 => some (r12, h10)) else none) else (some ((-1), h))
set_option maxRecDepth 20000 in
def f_X5_known (h : HS) (p1 : Int32) : Option Int32 :=
  loop2 (fun rec3 (i1 : Int32) (i2 : Int32) => if i2 < (h.1 36 1) then (jn (fun (t5 : Int32) => jn (fun (t8 : Int32) => Lt (i1 ||| t8) fun v11 => rec3 v11 (i2 + 1)) (fun j9 => if t5 = 0 then (j9 0) else (j9 (1 <<< (i2 &&& 31))))) (fun j6 => if p1 = 0 then (bd (rd h 38 46 (13 + i2)) fun r12 => if r12 = (-9) then (j6 0) else (j6 1)) else (bd (rd h 38 46 (13 + i2)) fun r13 => bd (rd h 37 8 i2) fun r14 => bd (rd h 37 8 (4 + i2)) fun r15 => if r13 = ((10 * r14) + r15) then (j6 1) else (j6 0)))) else (some i1)) 400 0 0
set_option maxRecDepth 20000 in
def f_X5_keep (h : HS) (p1 : Int32) : Option (Int32 × HS) :=
  bd (f_X5_in h (Int32.toInt64 p1) 0 1) fun r1 => if r1 = true then (bd (wr h 48 2 p1 1) fun h2 => loop2 (fun rec5 (i3 : Int32) (h4 : HS) => if i3 < 23 then (bd (rd h4 38 46 i3) fun r9 => bd (wr h4 49 46 ((23 * p1) + i3) r9) fun h10 => rec5 (i3 + 1) h10) else (bd (f_X5_known h4 0) fun r7 => bd (f_X5_ones h4 r7) fun r8 => some (r8, h4))) 400 0 h2) else (some ((-1), h))
set_option maxRecDepth 20000 in
def f_X4_again (h : HS) (p1 : Int32) : Option (Int32 × HS) :=
  bd (f_X4_isSlot h p1) fun r1 => if r1 = true then (if (((h.1 0 5) >>> (p1 &&& 31)) &&& 1) = 0 then (some ((-3), h)) else (bd (f_X4_keptIn h p1) fun r2 => if r2 = 15 then (bd (f_X1_become h 3 15) fun h4 => Lt (hset h4 27 3 0) fun h5 => bd (f_X1_knownMatters h5 3) fun r6 => bd (f_J6_bitCount_0f7a4 h5 r6) fun r7 => some (r7, h5)) else if r2 = 21 then (bd (f_X1_become h 3 21) fun h9 => Lt (hset h9 27 3 0) fun h10 => bd (f_X1_knownMatters h10 3) fun r11 => bd (f_J6_bitCount_0f7a4 h10 r11) fun r12 => some (r12, h10)) else none)) else (some ((-1), h))
set_option maxRecDepth 20000 in
def f_X5_again (h : HS) (p1 : Int32) : Option (Int32 × HS) :=
  bd (f_X5_in h (Int32.toInt64 p1) 0 1) fun r1 => if r1 = true then (bd (rd h 48 2 p1) fun r2 => if r2 = 0 then (some ((-3), h)) else (loop2 (fun rec5 (i3 : Int32) (h4 : HS) => if i3 < 23 then (bd (rd h4 49 46 ((23 * p1) + i3)) fun r10 => bd (wr h4 38 46 i3 r10) fun h11 => rec5 (i3 + 1) h11) else (Lt (hset h4 36 13 0) fun h7 => bd (f_X5_known h7 0) fun r8 => bd (f_X5_ones h7 r8) fun r9 => some (r9, h7))) 400 0 h)) else (some ((-1), h))
set_option maxRecDepth 20000 in
def f_X1_rightlyKnownMatters (h : HS) (a : Nat) : Option Int32 :=
  loop2 (fun rec3 (i1 : Int32) (i2 : Int32) => if i2 < (h.1 a 1) then (bd (f_X1_knownAs h a i2) fun r5 => bd (f_X1_asItIs h a i2) fun r6 => jn (fun (w7 : Int32) => rec3 w7 (i2 + 1)) (fun j8 => if r5 = r6 then (Lt (i1 ||| (1 <<< (i2 &&& 31))) fun v10 => j8 v10) else (j8 i1))) else (some i1)) 400 0 0
set_option maxRecDepth 20000 in
def f_X1_allFines (h : HS) (a : Nat) : Option Int32 :=
  loop2 (fun rec3 (i1 : Int32) (i2 : Int32) => if i2 < (h.1 a 0) then (bd (f_X1_finesOf h a i2) fun r5 => Lt (i1 + r5) fun v6 => rec3 v6 (i2 + 1)) else (some i1)) 400 0 0
set_option maxRecDepth 20000 in
def f_X4_count (h : HS) (p1 : Int32) : Option Int32 :=
  if p1 = 0 then (some (h.1 1 1)) else (if p1 = 1 then (some (h.1 3 0)) else (if p1 = 2 then (some (h.1 3 1)) else (if p1 = 3 then (bd (f_X1_everybody h 3) fun r5 => bd (f_X1_knowableAmong h 3 r5) fun r6 => some r6) else (if p1 = 4 then (bd (f_X1_knownMatters h 3) fun r4 => some r4) else (if p1 = 5 then (bd (f_X1_rightlyKnownMatters h 3) fun r3 => some r3) else (if p1 = 6 then (bd (f_X1_allFines h 3) fun r2 => some r2) else (if p1 = 7 then (some (h.1 27 3)) else (if p1 = 8 then (some (h.1 31 3)) else (some (-2))))))))))
set_option maxRecDepth 20000 in
def f_X5_count (h : HS) (p1 : Int32) : Option Int32 :=
  loop2 (fun rec3 (i1 : Int32) (i2 : Int32) => if i2 < (h.1 36 0) then (bd (rd h 38 46 (17 + i2)) fun r10 => Lt (i1 + r10) fun v11 => rec3 v11 (i2 + 1)) else (if p1 = 0 then (some (h.1 36 10)) else (if p1 = 1 then (some (h.1 36 0)) else (if p1 = 2 then (some (h.1 36 1)) else (if p1 = 3 then (bd (f_X5_every h) fun r8 => bd (f_X5_canBe h 0 r8) fun r9 => some r9) else (if p1 = 4 then (bd (f_X5_known h 0) fun r7 => some r7) else (if p1 = 5 then (bd (f_X5_known h 1) fun r6 => some r6) else (if p1 = 6 then (some i1) else (if p1 = 7 then (some (h.1 36 13)) else (if p1 = 8 then (some (h.1 36 17)) else (some (-2)))))))))))) 400 0 0
