set_option maxRecDepth 100000 in
theorem tk_X0_playAll : ∀ q ∈ tab_X0_playAll, decode cX0_playAll q.1 = .ok q.2 := by decide +kernel
set_option maxRecDepth 100000 in
theorem mk_X0_playAll : bmok TW cls_ MT M_X0_playAll := ⟨(TW_mk (tl_6 _ (List.mem_of_getElem? (i := 54) rfl)) rfl), (TW_mk (tl_1 _ (List.mem_of_getElem? (i := 15) rfl)) rfl), by decide +kernel, ⟨by decide +kernel, by decide +kernel, by decide +kernel⟩, fun h => absurd h (by decide), fun _ => ⟨(TW_mk (tl_6 _ (List.mem_of_getElem? (i := 52) rfl)) rfl), (TW_mk (tl_6 _ (List.mem_of_getElem? (i := 53) rfl)) rfl), TX0, 6, rfl⟩, tk_X0_playAll, pk_X0, by decide⟩
set_option maxRecDepth 100000 in
theorem tk_X0_isChoice : ∀ q ∈ tab_X0_isChoice, decode cX0_isChoice q.1 = .ok q.2 := by decide +kernel
set_option maxRecDepth 100000 in
theorem mk_X0_isChoice : bmok TW cls_ MT M_X0_isChoice := ⟨(TW_mk (tl_6 _ (List.mem_of_getElem? (i := 58) rfl)) rfl), (TW_mk (tl_1 _ (List.mem_of_getElem? (i := 15) rfl)) rfl), by decide +kernel, ⟨by decide +kernel, by decide +kernel, by decide +kernel⟩, fun h => absurd h (by decide), fun _ => ⟨(TW_mk (tl_6 _ (List.mem_of_getElem? (i := 57) rfl)) rfl), (TW_mk (tp_5 (n := 6) (List.mem_of_getElem? (i := 4) rfl)) rfl), TX0, 6, rfl⟩, tk_X0_isChoice, pk_X0, by decide⟩
set_option maxRecDepth 100000 in
theorem tk_X0_takesPart : ∀ q ∈ tab_X0_takesPart, decode cX0_takesPart q.1 = .ok q.2 := by decide +kernel
set_option maxRecDepth 100000 in
theorem mk_X0_takesPart : bmok TW cls_ MT M_X0_takesPart := ⟨(TW_mk (tl_6 _ (List.mem_of_getElem? (i := 29) rfl)) rfl), (TW_mk (tl_1 _ (List.mem_of_getElem? (i := 15) rfl)) rfl), by decide +kernel, ⟨by decide +kernel, by decide +kernel, by decide +kernel⟩, fun h => absurd h (by decide), fun _ => ⟨(TW_mk (tl_6 _ (List.mem_of_getElem? (i := 28) rfl)) rfl), (TW_mk (tp_5 (n := 6) (List.mem_of_getElem? (i := 3) rfl)) rfl), TX0, 6, rfl⟩, tk_X0_takesPart, pk_X0, by decide⟩
set_option maxRecDepth 100000 in
theorem tk_X0_play : ∀ q ∈ tab_X0_play, decode cX0_play q.1 = .ok q.2 := by decide +kernel
set_option maxRecDepth 100000 in
theorem mk_X0_play : bmok TW cls_ MT M_X0_play := ⟨(TW_mk (tl_6 _ (List.mem_of_getElem? (i := 14) rfl)) rfl), (TW_mk (tl_1 _ (List.mem_of_getElem? (i := 15) rfl)) rfl), by decide +kernel, ⟨by decide +kernel, by decide +kernel, by decide +kernel⟩, fun h => absurd h (by decide), fun _ => ⟨(TW_mk (tl_6 _ (List.mem_of_getElem? (i := 12) rfl)) rfl), (TW_mk (tl_6 _ (List.mem_of_getElem? (i := 13) rfl)) rfl), TX0, 6, rfl⟩, tk_X0_play, pk_X0, by decide⟩
set_option maxRecDepth 100000 in
theorem tk_X0_crossAll : ∀ q ∈ tab_X0_crossAll, decode cX0_crossAll q.1 = .ok q.2 := by decide +kernel
set_option maxRecDepth 100000 in
theorem mk_X0_crossAll : bmok TW cls_ MT M_X0_crossAll := ⟨(TW_mk (tl_6 _ (List.mem_of_getElem? (i := 18) rfl)) rfl), (TW_mk (tl_1 _ (List.mem_of_getElem? (i := 15) rfl)) rfl), by decide +kernel, ⟨by decide +kernel, by decide +kernel, by decide +kernel⟩, fun h => absurd h (by decide), fun _ => ⟨(TW_mk (tl_6 _ (List.mem_of_getElem? (i := 17) rfl)) rfl), (TW_mk (tp_5 (n := 6) (List.mem_of_getElem? (i := 1) rfl)) rfl), TX0, 6, rfl⟩, tk_X0_crossAll, pk_X0, by decide⟩
set_option maxRecDepth 100000 in
theorem tk_X0_landAllAt : ∀ q ∈ tab_X0_landAllAt, decode cX0_landAllAt q.1 = .ok q.2 := by decide +kernel
set_option maxRecDepth 100000 in
theorem mk_X0_landAllAt : bmok TW cls_ MT M_X0_landAllAt := ⟨(TW_mk (tl_6 _ (List.mem_of_getElem? (i := 23) rfl)) rfl), (TW_mk (tl_1 _ (List.mem_of_getElem? (i := 15) rfl)) rfl), by decide +kernel, ⟨by decide +kernel, by decide +kernel, by decide +kernel⟩, fun h => absurd h (by decide), fun _ => ⟨(TW_mk (tl_6 _ (List.mem_of_getElem? (i := 22) rfl)) rfl), (TW_mk (tp_5 (n := 6) (List.mem_of_getElem? (i := 2) rfl)) rfl), TX0, 6, rfl⟩, tk_X0_landAllAt, pk_X0, by decide⟩
set_option maxRecDepth 100000 in
theorem tk_X0_gainOf : ∀ q ∈ tab_X0_gainOf, decode cX0_gainOf q.1 = .ok q.2 := by decide +kernel
set_option maxRecDepth 100000 in
theorem mk_X0_gainOf : bmok TW cls_ MT M_X0_gainOf := ⟨(TW_mk (tl_6 _ (List.mem_of_getElem? (i := 37) rfl)) rfl), (TW_mk (tl_1 _ (List.mem_of_getElem? (i := 15) rfl)) rfl), by decide +kernel, ⟨by decide +kernel, by decide +kernel, by decide +kernel⟩, fun h => absurd h (by decide), fun _ => ⟨(TW_mk (tl_6 _ (List.mem_of_getElem? (i := 35) rfl)) rfl), (TW_mk (tl_6 _ (List.mem_of_getElem? (i := 36) rfl)) rfl), TX0, 6, rfl⟩, tk_X0_gainOf, pk_X0, by decide⟩
set_option maxRecDepth 100000 in
theorem tk_X0_worthOf : ∀ q ∈ tab_X0_worthOf, decode cX0_worthOf q.1 = .ok q.2 := by decide +kernel
set_option maxRecDepth 100000 in
theorem mk_X0_worthOf : bmok TW cls_ MT M_X0_worthOf := ⟨(TW_mk (tl_6 _ (List.mem_of_getElem? (i := 45) rfl)) rfl), (TW_mk (tl_1 _ (List.mem_of_getElem? (i := 15) rfl)) rfl), by decide +kernel, ⟨by decide +kernel, by decide +kernel, by decide +kernel⟩, fun h => absurd h (by decide), fun _ => ⟨(TW_mk (tl_6 _ (List.mem_of_getElem? (i := 43) rfl)) rfl), (TW_mk (tl_6 _ (List.mem_of_getElem? (i := 44) rfl)) rfl), TX0, 6, rfl⟩, tk_X0_worthOf, pk_X0, by decide⟩
set_option maxRecDepth 100000 in
theorem tk_X0_isRest : ∀ q ∈ tab_X0_isRest, decode cX0_isRest q.1 = .ok q.2 := by decide +kernel
set_option maxRecDepth 100000 in
theorem mk_X0_isRest : bmok TW cls_ MT M_X0_isRest := ⟨(TW_mk (tl_6 _ (List.mem_of_getElem? (i := 67) rfl)) rfl), (TW_mk (tl_1 _ (List.mem_of_getElem? (i := 15) rfl)) rfl), by decide +kernel, ⟨by decide +kernel, by decide +kernel, by decide +kernel⟩, fun h => absurd h (by decide), fun _ => ⟨(TW_mk (tl_6 _ (List.mem_of_getElem? (i := 66) rfl)) rfl), (TW_mk (tp_5 (n := 6) (List.mem_of_getElem? (i := 5) rfl)) rfl), TX0, 6, rfl⟩, tk_X0_isRest, pk_X0, by decide⟩
set_option maxRecDepth 100000 in
theorem tk_X0_countRests : ∀ q ∈ tab_X0_countRests, decode cX0_countRests q.1 = .ok q.2 := by decide +kernel
set_option maxRecDepth 100000 in
theorem mk_X0_countRests : bmok TW cls_ MT M_X0_countRests := ⟨(TW_mk (tl_6 _ (List.mem_of_getElem? (i := 63) rfl)) rfl), (TW_mk (tl_1 _ (List.mem_of_getElem? (i := 15) rfl)) rfl), by decide +kernel, ⟨by decide +kernel, by decide +kernel, by decide +kernel⟩, fun h => absurd h (by decide), fun _ => ⟨(TW_mk (tl_6 _ (List.mem_of_getElem? (i := 61) rfl)) rfl), (TW_mk (tl_6 _ (List.mem_of_getElem? (i := 62) rfl)) rfl), TX0, 6, rfl⟩, tk_X0_countRests, pk_X0, by decide⟩
set_option maxRecDepth 100000 in
theorem tk_X0_restAt : ∀ q ∈ tab_X0_restAt, decode cX0_restAt q.1 = .ok q.2 := by decide +kernel
set_option maxRecDepth 100000 in
theorem mk_X0_restAt : bmok TW cls_ MT M_X0_restAt := ⟨(TW_mk (tl_6 _ (List.mem_of_getElem? (i := 71) rfl)) rfl), (TW_mk (tl_1 _ (List.mem_of_getElem? (i := 15) rfl)) rfl), by decide +kernel, ⟨by decide +kernel, by decide +kernel, by decide +kernel⟩, fun h => absurd h (by decide), fun _ => ⟨(TW_mk (tl_6 _ (List.mem_of_getElem? (i := 69) rfl)) rfl), (TW_mk (tl_6 _ (List.mem_of_getElem? (i := 70) rfl)) rfl), TX0, 6, rfl⟩, tk_X0_restAt, pk_X0, by decide⟩
set_option maxRecDepth 100000 in
theorem tk_X0_mostWorth : ∀ q ∈ tab_X0_mostWorth, decode cX0_mostWorth q.1 = .ok q.2 := by decide +kernel
set_option maxRecDepth 100000 in
theorem mk_X0_mostWorth : bmok TW cls_ MT M_X0_mostWorth := ⟨(TW_mk (tl_6 _ (List.mem_of_getElem? (i := 79) rfl)) rfl), (TW_mk (tl_1 _ (List.mem_of_getElem? (i := 15) rfl)) rfl), by decide +kernel, ⟨by decide +kernel, by decide +kernel, by decide +kernel⟩, fun h => absurd h (by decide), fun _ => ⟨(TW_mk (tl_6 _ (List.mem_of_getElem? (i := 77) rfl)) rfl), (TW_mk (tl_6 _ (List.mem_of_getElem? (i := 78) rfl)) rfl), TX0, 6, rfl⟩, tk_X0_mostWorth, pk_X0, by decide⟩
set_option maxRecDepth 100000 in
theorem tk_X0_leastRestingWorth : ∀ q ∈ tab_X0_leastRestingWorth, decode cX0_leastRestingWorth q.1 = .ok q.2 := by decide +kernel
set_option maxRecDepth 100000 in
theorem mk_X0_leastRestingWorth : bmok TW cls_ MT M_X0_leastRestingWorth := ⟨(TW_mk (tl_6 _ (List.mem_of_getElem? (i := 85) rfl)) rfl), (TW_mk (tl_1 _ (List.mem_of_getElem? (i := 15) rfl)) rfl), by decide +kernel, ⟨by decide +kernel, by decide +kernel, by decide +kernel⟩, fun h => absurd h (by decide), fun _ => ⟨(TW_mk (tl_6 _ (List.mem_of_getElem? (i := 83) rfl)) rfl), (TW_mk (tl_6 _ (List.mem_of_getElem? (i := 84) rfl)) rfl), TX0, 6, rfl⟩, tk_X0_leastRestingWorth, pk_X0, by decide⟩
set_option maxRecDepth 100000 in
theorem tk_X1_begin : ∀ q ∈ tab_X1_begin, decode cX1_begin q.1 = .ok q.2 := by decide +kernel
set_option maxRecDepth 100000 in
theorem mk_X1_begin : bmok TW cls_ MT M_X1_begin := ⟨(TW_mk (tl_4 _ (List.mem_of_getElem? (i := 53) rfl)) rfl), (TW_mk (tl_1 _ (List.mem_of_getElem? (i := 11) rfl)) rfl), by decide +kernel, ⟨by decide +kernel, by decide +kernel, by decide +kernel⟩, fun h => absurd h (by decide), fun _ => ⟨(TW_mk (tl_4 _ (List.mem_of_getElem? (i := 51) rfl)) rfl), (TW_mk (tl_4 _ (List.mem_of_getElem? (i := 52) rfl)) rfl), TX1, 12, rfl⟩, tk_X1_begin, pk_X1, by decide⟩
set_option maxRecDepth 100000 in
theorem tk_X1_copyFrom : ∀ q ∈ tab_X1_copyFrom, decode cX1_copyFrom q.1 = .ok q.2 := by decide +kernel
set_option maxRecDepth 100000 in
theorem mk_X1_copyFrom : bmok TW cls_ MT M_X1_copyFrom := ⟨(TW_mk (tl_4 _ (List.mem_of_getElem? (i := 185) rfl)) rfl), (TW_mk (tl_1 _ (List.mem_of_getElem? (i := 11) rfl)) rfl), by decide +kernel, ⟨by decide +kernel, by decide +kernel, by decide +kernel⟩, fun h => absurd h (by decide), fun _ => ⟨(TW_mk (tl_4 _ (List.mem_of_getElem? (i := 183) rfl)) rfl), (TW_mk (tl_4 _ (List.mem_of_getElem? (i := 184) rfl)) rfl), TX1, 12, rfl⟩, tk_X1_copyFrom, pk_X1, by decide⟩
set_option maxRecDepth 100000 in
theorem tk_X1_putInto : ∀ q ∈ tab_X1_putInto, decode cX1_putInto q.1 = .ok q.2 := by decide +kernel
set_option maxRecDepth 100000 in
theorem mk_X1_putInto : bmok TW cls_ MT M_X1_putInto := ⟨(TW_mk (tl_4 _ (List.mem_of_getElem? (i := 155) rfl)) rfl), (TW_mk (tl_1 _ (List.mem_of_getElem? (i := 11) rfl)) rfl), by decide +kernel, ⟨by decide +kernel, by decide +kernel, by decide +kernel⟩, fun h => absurd h (by decide), fun _ => ⟨(TW_mk (tl_4 _ (List.mem_of_getElem? (i := 153) rfl)) rfl), (TW_mk (tl_4 _ (List.mem_of_getElem? (i := 154) rfl)) rfl), TX1, 12, rfl⟩, tk_X1_putInto, pk_X1, by decide⟩
set_option maxRecDepth 100000 in
theorem tk_X1_takeOutOf : ∀ q ∈ tab_X1_takeOutOf, decode cX1_takeOutOf q.1 = .ok q.2 := by decide +kernel
set_option maxRecDepth 100000 in
theorem mk_X1_takeOutOf : bmok TW cls_ MT M_X1_takeOutOf := ⟨(TW_mk (tl_4 _ (List.mem_of_getElem? (i := 233) rfl)) rfl), (TW_mk (tl_1 _ (List.mem_of_getElem? (i := 11) rfl)) rfl), by decide +kernel, ⟨by decide +kernel, by decide +kernel, by decide +kernel⟩, fun h => absurd h (by decide), fun _ => ⟨(TW_mk (tl_4 _ (List.mem_of_getElem? (i := 231) rfl)) rfl), (TW_mk (tl_4 _ (List.mem_of_getElem? (i := 232) rfl)) rfl), TX1, 12, rfl⟩, tk_X1_takeOutOf, pk_X1, by decide⟩
set_option maxRecDepth 100000 in
theorem tk_X1_menAt : ∀ q ∈ tab_X1_menAt, decode cX1_menAt q.1 = .ok q.2 := by decide +kernel
set_option maxRecDepth 100000 in
theorem mk_X1_menAt : bmok TW cls_ MT M_X1_menAt := ⟨(TW_mk (tl_4 _ (List.mem_of_getElem? (i := 78) rfl)) rfl), (TW_mk (tl_1 _ (List.mem_of_getElem? (i := 11) rfl)) rfl), by decide +kernel, ⟨by decide +kernel, by decide +kernel, by decide +kernel⟩, fun h => absurd h (by decide), fun _ => ⟨(TW_mk (tl_4 _ (List.mem_of_getElem? (i := 76) rfl)) rfl), (TW_mk (tl_4 _ (List.mem_of_getElem? (i := 77) rfl)) rfl), TX1, 12, rfl⟩, tk_X1_menAt, pk_X1, by decide⟩
set_option maxRecDepth 100000 in
theorem tk_X1_menOn : ∀ q ∈ tab_X1_menOn, decode cX1_menOn q.1 = .ok q.2 := by decide +kernel
set_option maxRecDepth 100000 in
theorem mk_X1_menOn : bmok TW cls_ MT M_X1_menOn := ⟨(TW_mk (tl_4 _ (List.mem_of_getElem? (i := 93) rfl)) rfl), (TW_mk (tl_1 _ (List.mem_of_getElem? (i := 11) rfl)) rfl), by decide +kernel, ⟨by decide +kernel, by decide +kernel, by decide +kernel⟩, fun h => absurd h (by decide), fun _ => ⟨(TW_mk (tl_4 _ (List.mem_of_getElem? (i := 91) rfl)) rfl), (TW_mk (tl_4 _ (List.mem_of_getElem? (i := 92) rfl)) rfl), TX1, 12, rfl⟩, tk_X1_menOn, pk_X1, by decide⟩
set_option maxRecDepth 100000 in
theorem tk_X1_isHome : ∀ q ∈ tab_X1_isHome, decode cX1_isHome q.1 = .ok q.2 := by decide +kernel
set_option maxRecDepth 100000 in
theorem mk_X1_isHome : bmok TW cls_ MT M_X1_isHome := ⟨(TW_mk (tl_4 _ (List.mem_of_getElem? (i := 210) rfl)) rfl), (TW_mk (tl_1 _ (List.mem_of_getElem? (i := 11) rfl)) rfl), by decide +kernel, ⟨by decide +kernel, by decide +kernel, by decide +kernel⟩, fun h => absurd h (by decide), fun _ => ⟨(TW_mk (tl_4 _ (List.mem_of_getElem? (i := 208) rfl)) rfl), (TW_mk (tl_4 _ (List.mem_of_getElem? (i := 209) rfl)) rfl), TX1, 12, rfl⟩, tk_X1_isHome, pk_X1, by decide⟩
set_option maxRecDepth 100000 in
theorem tk_X1_homeBits : ∀ q ∈ tab_X1_homeBits, decode cX1_homeBits q.1 = .ok q.2 := by decide +kernel
set_option maxRecDepth 100000 in
theorem mk_X1_homeBits : bmok TW cls_ MT M_X1_homeBits := ⟨(TW_mk (tl_5 _ (List.mem_of_getElem? (i := 1) rfl)) rfl), (TW_mk (tl_1 _ (List.mem_of_getElem? (i := 11) rfl)) rfl), by decide +kernel, ⟨by decide +kernel, by decide +kernel, by decide +kernel⟩, fun h => absurd h (by decide), fun _ => ⟨(TW_mk (tl_4 _ (List.mem_of_getElem? (i := 239) rfl)) rfl), (TW_mk (tl_5 _ (List.mem_of_getElem? (i := 0) rfl)) rfl), TX1, 12, rfl⟩, tk_X1_homeBits, pk_X1, by decide⟩
set_option maxRecDepth 100000 in
theorem tk_X1_allCoins : ∀ q ∈ tab_X1_allCoins, decode cX1_allCoins q.1 = .ok q.2 := by decide +kernel
set_option maxRecDepth 100000 in
theorem mk_X1_allCoins : bmok TW cls_ MT M_X1_allCoins := ⟨(TW_mk (tl_5 _ (List.mem_of_getElem? (i := 24) rfl)) rfl), (TW_mk (tl_1 _ (List.mem_of_getElem? (i := 11) rfl)) rfl), by decide +kernel, ⟨by decide +kernel, by decide +kernel, by decide +kernel⟩, fun h => absurd h (by decide), fun _ => ⟨(TW_mk (tl_5 _ (List.mem_of_getElem? (i := 22) rfl)) rfl), (TW_mk (tl_5 _ (List.mem_of_getElem? (i := 23) rfl)) rfl), TX1, 12, rfl⟩, tk_X1_allCoins, pk_X1, by decide⟩
set_option maxRecDepth 100000 in
theorem tk_X1_held : ∀ q ∈ tab_X1_held, decode cX1_held q.1 = .ok q.2 := by decide +kernel
set_option maxRecDepth 100000 in
theorem mk_X1_held : bmok TW cls_ MT M_X1_held := ⟨(TW_mk (tl_4 _ (List.mem_of_getElem? (i := 136) rfl)) rfl), (TW_mk (tl_1 _ (List.mem_of_getElem? (i := 11) rfl)) rfl), by decide +kernel, ⟨by decide +kernel, by decide +kernel, by decide +kernel⟩, fun _ => (TW_mk (tl_4 _ (List.mem_of_getElem? (i := 135) rfl)) rfl), fun h => absurd h (by decide), tk_X1_held, pk_X1, by decide⟩
set_option maxRecDepth 100000 in
theorem tk_X1_look : ∀ q ∈ tab_X1_look, decode cX1_look q.1 = .ok q.2 := by decide +kernel
set_option maxRecDepth 100000 in
theorem mk_X1_look : bmok TW cls_ MT M_X1_look := ⟨(TW_mk (tl_4 _ (List.mem_of_getElem? (i := 117) rfl)) rfl), (TW_mk (tl_1 _ (List.mem_of_getElem? (i := 11) rfl)) rfl), by decide +kernel, ⟨by decide +kernel, by decide +kernel, by decide +kernel⟩, fun h => absurd h (by decide), fun _ => ⟨(TW_mk (tl_4 _ (List.mem_of_getElem? (i := 116) rfl)) rfl), (TW_mk (tp_3 (n := 12) (List.mem_of_getElem? (i := 0) rfl)) rfl), TX1, 12, rfl⟩, tk_X1_look, pk_X1, by decide⟩
set_option maxRecDepth 100000 in
theorem tk_X1_wishAs : ∀ q ∈ tab_X1_wishAs, decode cX1_wishAs q.1 = .ok q.2 := by decide +kernel
set_option maxRecDepth 100000 in
theorem mk_X1_wishAs : bmok TW cls_ MT M_X1_wishAs := ⟨(TW_mk (tl_4 _ (List.mem_of_getElem? (i := 113) rfl)) rfl), (TW_mk (tl_1 _ (List.mem_of_getElem? (i := 11) rfl)) rfl), by decide +kernel, ⟨by decide +kernel, by decide +kernel, by decide +kernel⟩, fun h => absurd h (by decide), fun _ => ⟨(TW_mk (tl_4 _ (List.mem_of_getElem? (i := 111) rfl)) rfl), (TW_mk (tl_4 _ (List.mem_of_getElem? (i := 112) rfl)) rfl), TX1, 12, rfl⟩, tk_X1_wishAs, pk_X1, by decide⟩
set_option maxRecDepth 100000 in
theorem tk_X1_wishNow : ∀ q ∈ tab_X1_wishNow, decode cX1_wishNow q.1 = .ok q.2 := by decide +kernel
set_option maxRecDepth 100000 in
theorem mk_X1_wishNow : bmok TW cls_ MT M_X1_wishNow := ⟨(TW_mk (tl_4 _ (List.mem_of_getElem? (i := 109) rfl)) rfl), (TW_mk (tl_1 _ (List.mem_of_getElem? (i := 11) rfl)) rfl), by decide +kernel, ⟨by decide +kernel, by decide +kernel, by decide +kernel⟩, fun h => absurd h (by decide), fun _ => ⟨(TW_mk (tl_4 _ (List.mem_of_getElem? (i := 107) rfl)) rfl), (TW_mk (tl_4 _ (List.mem_of_getElem? (i := 108) rfl)) rfl), TX1, 12, rfl⟩, tk_X1_wishNow, pk_X1, by decide⟩
set_option maxRecDepth 100000 in
theorem tk_X1_tollNow : ∀ q ∈ tab_X1_tollNow, decode cX1_tollNow q.1 = .ok q.2 := by decide +kernel
set_option maxRecDepth 100000 in
theorem mk_X1_tollNow : bmok TW cls_ MT M_X1_tollNow := ⟨(TW_mk (tl_4 _ (List.mem_of_getElem? (i := 133) rfl)) rfl), (TW_mk (tl_1 _ (List.mem_of_getElem? (i := 11) rfl)) rfl), by decide +kernel, ⟨by decide +kernel, by decide +kernel, by decide +kernel⟩, fun h => absurd h (by decide), fun _ => ⟨(TW_mk (tl_4 _ (List.mem_of_getElem? (i := 131) rfl)) rfl), (TW_mk (tl_4 _ (List.mem_of_getElem? (i := 132) rfl)) rfl), TX1, 12, rfl⟩, tk_X1_tollNow, pk_X1, by decide⟩
set_option maxRecDepth 100000 in
theorem tk_X1_wouldGo : ∀ q ∈ tab_X1_wouldGo, decode cX1_wouldGo q.1 = .ok q.2 := by decide +kernel
set_option maxRecDepth 100000 in
theorem mk_X1_wouldGo : bmok TW cls_ MT M_X1_wouldGo := ⟨(TW_mk (tl_4 _ (List.mem_of_getElem? (i := 219) rfl)) rfl), (TW_mk (tl_1 _ (List.mem_of_getElem? (i := 11) rfl)) rfl), by decide +kernel, ⟨by decide +kernel, by decide +kernel, by decide +kernel⟩, fun h => absurd h (by decide), fun _ => ⟨(TW_mk (tl_4 _ (List.mem_of_getElem? (i := 218) rfl)) rfl), (TW_mk (tp_3 (n := 12) (List.mem_of_getElem? (i := 4) rfl)) rfl), TX1, 12, rfl⟩, tk_X1_wouldGo, pk_X1, by decide⟩
set_option maxRecDepth 100000 in
theorem tk_X1_gainAs : ∀ q ∈ tab_X1_gainAs, decode cX1_gainAs q.1 = .ok q.2 := by decide +kernel
set_option maxRecDepth 100000 in
theorem mk_X1_gainAs : bmok TW cls_ MT M_X1_gainAs := ⟨(TW_mk (tl_6 _ (List.mem_of_getElem? (i := 33) rfl)) rfl), (TW_mk (tl_1 _ (List.mem_of_getElem? (i := 11) rfl)) rfl), by decide +kernel, ⟨by decide +kernel, by decide +kernel, by decide +kernel⟩, fun h => absurd h (by decide), fun _ => ⟨(TW_mk (tl_6 _ (List.mem_of_getElem? (i := 31) rfl)) rfl), (TW_mk (tl_6 _ (List.mem_of_getElem? (i := 32) rfl)) rfl), TX1, 12, rfl⟩, tk_X1_gainAs, pk_X1, by decide⟩
set_option maxRecDepth 100000 in
theorem tk_X1_fancyAs : ∀ q ∈ tab_X1_fancyAs, decode cX1_fancyAs q.1 = .ok q.2 := by decide +kernel
set_option maxRecDepth 100000 in
theorem mk_X1_fancyAs : bmok TW cls_ MT M_X1_fancyAs := ⟨(TW_mk (tl_6 _ (List.mem_of_getElem? (i := 111) rfl)) rfl), (TW_mk (tl_1 _ (List.mem_of_getElem? (i := 11) rfl)) rfl), by decide +kernel, ⟨by decide +kernel, by decide +kernel, by decide +kernel⟩, fun h => absurd h (by decide), fun _ => ⟨(TW_mk (tl_6 _ (List.mem_of_getElem? (i := 109) rfl)) rfl), (TW_mk (tl_6 _ (List.mem_of_getElem? (i := 110) rfl)) rfl), TX1, 12, rfl⟩, tk_X1_fancyAs, pk_X1, by decide⟩
set_option maxRecDepth 100000 in
theorem tk_X1_couldCross : ∀ q ∈ tab_X1_couldCross, decode cX1_couldCross q.1 = .ok q.2 := by decide +kernel
set_option maxRecDepth 100000 in
theorem mk_X1_couldCross : bmok TW cls_ MT M_X1_couldCross := ⟨(TW_mk (tl_4 _ (List.mem_of_getElem? (i := 146) rfl)) rfl), (TW_mk (tl_1 _ (List.mem_of_getElem? (i := 11) rfl)) rfl), by decide +kernel, ⟨by decide +kernel, by decide +kernel, by decide +kernel⟩, fun h => absurd h (by decide), fun _ => ⟨(TW_mk (tl_4 _ (List.mem_of_getElem? (i := 144) rfl)) rfl), (TW_mk (tl_4 _ (List.mem_of_getElem? (i := 145) rfl)) rfl), TX1, 12, rfl⟩, tk_X1_couldCross, pk_X1, by decide⟩
set_option maxRecDepth 100000 in
theorem tk_X1_crossOver : ∀ q ∈ tab_X1_crossOver, decode cX1_crossOver q.1 = .ok q.2 := by decide +kernel
set_option maxRecDepth 100000 in
theorem mk_X1_crossOver : bmok TW cls_ MT M_X1_crossOver := ⟨(TW_mk (tl_4 _ (List.mem_of_getElem? (i := 160) rfl)) rfl), (TW_mk (tl_1 _ (List.mem_of_getElem? (i := 11) rfl)) rfl), by decide +kernel, ⟨by decide +kernel, by decide +kernel, by decide +kernel⟩, fun h => absurd h (by decide), fun _ => ⟨(TW_mk (tl_4 _ (List.mem_of_getElem? (i := 158) rfl)) rfl), (TW_mk (tl_4 _ (List.mem_of_getElem? (i := 159) rfl)) rfl), TX1, 12, rfl⟩, tk_X1_crossOver, pk_X1, by decide⟩
set_option maxRecDepth 100000 in
theorem tk_X1_landAll : ∀ q ∈ tab_X1_landAll, decode cX1_landAll q.1 = .ok q.2 := by decide +kernel
set_option maxRecDepth 100000 in
theorem mk_X1_landAll : bmok TW cls_ MT M_X1_landAll := ⟨(TW_mk (tl_4 _ (List.mem_of_getElem? (i := 165) rfl)) rfl), (TW_mk (tl_1 _ (List.mem_of_getElem? (i := 11) rfl)) rfl), by decide +kernel, ⟨by decide +kernel, by decide +kernel, by decide +kernel⟩, fun h => absurd h (by decide), fun _ => ⟨(TW_mk (tl_4 _ (List.mem_of_getElem? (i := 164) rfl)) rfl), (TW_mk (tp_3 (n := 12) (List.mem_of_getElem? (i := 1) rfl)) rfl), TX1, 12, rfl⟩, tk_X1_landAll, pk_X1, by decide⟩
set_option maxRecDepth 100000 in
theorem tk_X1_stirred : ∀ q ∈ tab_X1_stirred, decode cX1_stirred q.1 = .ok q.2 := by decide +kernel
set_option maxRecDepth 100000 in
theorem mk_X1_stirred : bmok TW cls_ MT M_X1_stirred := ⟨(TW_mk (tl_4 _ (List.mem_of_getElem? (i := 176) rfl)) rfl), (TW_mk (tl_1 _ (List.mem_of_getElem? (i := 11) rfl)) rfl), by decide +kernel, ⟨by decide +kernel, by decide +kernel, by decide +kernel⟩, fun _ => (TW_mk (tl_4 _ (List.mem_of_getElem? (i := 175) rfl)) rfl), fun h => absurd h (by decide), tk_X1_stirred, pk_X1, by decide⟩
set_option maxRecDepth 100000 in
theorem tk_X1_lot : ∀ q ∈ tab_X1_lot, decode cX1_lot q.1 = .ok q.2 := by decide +kernel
set_option maxRecDepth 100000 in
theorem mk_X1_lot : bmok TW cls_ MT M_X1_lot := ⟨(TW_mk (tl_4 _ (List.mem_of_getElem? (i := 173) rfl)) rfl), (TW_mk (tl_1 _ (List.mem_of_getElem? (i := 11) rfl)) rfl), by decide +kernel, ⟨by decide +kernel, by decide +kernel, by decide +kernel⟩, fun h => absurd h (by decide), fun _ => ⟨(TW_mk (tl_4 _ (List.mem_of_getElem? (i := 172) rfl)) rfl), (TW_mk (tp_3 (n := 12) (List.mem_of_getElem? (i := 2) rfl)) rfl), TX1, 12, rfl⟩, tk_X1_lot, pk_X1, by decide⟩
set_option maxRecDepth 100000 in
theorem tk_X1_hourPasses : ∀ q ∈ tab_X1_hourPasses, decode cX1_hourPasses q.1 = .ok q.2 := by decide +kernel
set_option maxRecDepth 100000 in
theorem mk_X1_hourPasses : bmok TW cls_ MT M_X1_hourPasses := ⟨(TW_mk (tl_4 _ (List.mem_of_getElem? (i := 169) rfl)) rfl), (TW_mk (tl_1 _ (List.mem_of_getElem? (i := 11) rfl)) rfl), by decide +kernel, ⟨by decide +kernel, by decide +kernel, by decide +kernel⟩, fun h => absurd h (by decide), fun _ => ⟨(TW_mk (tl_4 _ (List.mem_of_getElem? (i := 167) rfl)) rfl), (TW_mk (tl_4 _ (List.mem_of_getElem? (i := 168) rfl)) rfl), TX1, 12, rfl⟩, tk_X1_hourPasses, pk_X1, by decide⟩
set_option maxRecDepth 100000 in
theorem tk_X1_ruleHour : ∀ q ∈ tab_X1_ruleHour, decode cX1_ruleHour q.1 = .ok q.2 := by decide +kernel
set_option maxRecDepth 100000 in
theorem mk_X1_ruleHour : bmok TW cls_ MT M_X1_ruleHour := ⟨(TW_mk (tl_4 _ (List.mem_of_getElem? (i := 206) rfl)) rfl), (TW_mk (tl_1 _ (List.mem_of_getElem? (i := 11) rfl)) rfl), by decide +kernel, ⟨by decide +kernel, by decide +kernel, by decide +kernel⟩, fun h => absurd h (by decide), fun _ => ⟨(TW_mk (tl_4 _ (List.mem_of_getElem? (i := 204) rfl)) rfl), (TW_mk (tl_4 _ (List.mem_of_getElem? (i := 205) rfl)) rfl), TX1, 12, rfl⟩, tk_X1_ruleHour, pk_X1, by decide⟩
set_option maxRecDepth 100000 in
theorem tk_X1_bridgeByRule : ∀ q ∈ tab_X1_bridgeByRule, decode cX1_bridgeByRule q.1 = .ok q.2 := by decide +kernel
set_option maxRecDepth 100000 in
theorem mk_X1_bridgeByRule : bmok TW cls_ MT M_X1_bridgeByRule := ⟨(TW_mk (tl_4 _ (List.mem_of_getElem? (i := 214) rfl)) rfl), (TW_mk (tl_1 _ (List.mem_of_getElem? (i := 11) rfl)) rfl), by decide +kernel, ⟨by decide +kernel, by decide +kernel, by decide +kernel⟩, fun h => absurd h (by decide), fun _ => ⟨(TW_mk (tl_4 _ (List.mem_of_getElem? (i := 213) rfl)) rfl), (TW_mk (tp_3 (n := 12) (List.mem_of_getElem? (i := 3) rfl)) rfl), TX1, 12, rfl⟩, tk_X1_bridgeByRule, pk_X1, by decide⟩
set_option maxRecDepth 100000 in
theorem tk_X2_add : ∀ q ∈ tab_X2_add, decode cX2_add q.1 = .ok q.2 := by decide +kernel
set_option maxRecDepth 100000 in
theorem mk_X2_add : bmok TW cls_ MT M_X2_add := ⟨(TW_mk (tl_4 _ (List.mem_of_getElem? (i := 23) rfl)) rfl), (TW_mk (tl_1 _ (List.mem_of_getElem? (i := 3) rfl)) rfl), by decide +kernel, ⟨by decide +kernel, by decide +kernel, by decide +kernel⟩, fun h => absurd h (by decide), fun _ => ⟨(TW_mk (tl_4 _ (List.mem_of_getElem? (i := 21) rfl)) rfl), (TW_mk (tl_4 _ (List.mem_of_getElem? (i := 22) rfl)) rfl), TX2, 4, rfl⟩, tk_X2_add, pk_X2, by decide⟩
set_option maxRecDepth 100000 in
theorem tk_X2_aim : ∀ q ∈ tab_X2_aim, decode cX2_aim q.1 = .ok q.2 := by decide +kernel
set_option maxRecDepth 100000 in
theorem mk_X2_aim : bmok TW cls_ MT M_X2_aim := ⟨(TW_mk (tl_4 _ (List.mem_of_getElem? (i := 41) rfl)) rfl), (TW_mk (tl_1 _ (List.mem_of_getElem? (i := 3) rfl)) rfl), by decide +kernel, ⟨by decide +kernel, by decide +kernel, by decide +kernel⟩, fun h => absurd h (by decide), fun _ => ⟨(TW_mk (tl_4 _ (List.mem_of_getElem? (i := 39) rfl)) rfl), (TW_mk (tl_4 _ (List.mem_of_getElem? (i := 40) rfl)) rfl), TX2, 4, rfl⟩, tk_X2_aim, pk_X2, by decide⟩
set_option maxRecDepth 100000 in
theorem tk_X2_valueOf : ∀ q ∈ tab_X2_valueOf, decode cX2_valueOf q.1 = .ok q.2 := by decide +kernel
set_option maxRecDepth 100000 in
theorem mk_X2_valueOf : bmok TW cls_ MT M_X2_valueOf := ⟨(TW_mk (tl_4 _ (List.mem_of_getElem? (i := 124) rfl)) rfl), (TW_mk (tl_1 _ (List.mem_of_getElem? (i := 3) rfl)) rfl), by decide +kernel, ⟨by decide +kernel, by decide +kernel, by decide +kernel⟩, fun h => absurd h (by decide), fun _ => ⟨(TW_mk (tl_4 _ (List.mem_of_getElem? (i := 122) rfl)) rfl), (TW_mk (tl_4 _ (List.mem_of_getElem? (i := 123) rfl)) rfl), TX2, 4, rfl⟩, tk_X2_valueOf, pk_X2, by decide⟩
set_option maxRecDepth 100000 in
theorem tk_X3_search : ∀ q ∈ tab_X3_search, decode cX3_search q.1 = .ok q.2 := by decide +kernel
set_option maxRecDepth 100000 in
theorem mk_X3_search : bmok TW cls_ MT M_X3_search := ⟨(TW_mk (tl_6 _ (List.mem_of_getElem? (i := 95) rfl)) rfl), (TW_mk (tl_1 _ (List.mem_of_getElem? (i := 16) rfl)) rfl), by decide +kernel, ⟨by decide +kernel, by decide +kernel, by decide +kernel⟩, fun h => absurd h (by decide), fun _ => ⟨(TW_mk (tl_6 _ (List.mem_of_getElem? (i := 93) rfl)) rfl), (TW_mk (tl_6 _ (List.mem_of_getElem? (i := 94) rfl)) rfl), TX3, 9, rfl⟩, tk_X3_search, pk_X3, by decide⟩
set_option maxRecDepth 100000 in
theorem tk_X3_lineUp : ∀ q ∈ tab_X3_lineUp, decode cX3_lineUp q.1 = .ok q.2 := by decide +kernel
set_option maxRecDepth 100000 in
theorem mk_X3_lineUp : bmok TW cls_ MT M_X3_lineUp := ⟨(TW_mk (tl_6 _ (List.mem_of_getElem? (i := 99) rfl)) rfl), (TW_mk (tl_1 _ (List.mem_of_getElem? (i := 16) rfl)) rfl), by decide +kernel, ⟨by decide +kernel, by decide +kernel, by decide +kernel⟩, fun h => absurd h (by decide), fun _ => ⟨(TW_mk (tl_6 _ (List.mem_of_getElem? (i := 98) rfl)) rfl), (TW_mk (tp_5 (n := 9) (List.mem_of_getElem? (i := 6) rfl)) rfl), TX3, 9, rfl⟩, tk_X3_lineUp, pk_X3, by decide⟩
set_option maxRecDepth 100000 in
theorem tk_X3_findNeeds : ∀ q ∈ tab_X3_findNeeds, decode cX3_findNeeds q.1 = .ok q.2 := by decide +kernel
set_option maxRecDepth 100000 in
theorem mk_X3_findNeeds : bmok TW cls_ MT M_X3_findNeeds := ⟨(TW_mk (tl_6 _ (List.mem_of_getElem? (i := 103) rfl)) rfl), (TW_mk (tl_1 _ (List.mem_of_getElem? (i := 16) rfl)) rfl), by decide +kernel, ⟨by decide +kernel, by decide +kernel, by decide +kernel⟩, fun h => absurd h (by decide), fun _ => ⟨(TW_mk (tl_6 _ (List.mem_of_getElem? (i := 102) rfl)) rfl), (TW_mk (tp_5 (n := 9) (List.mem_of_getElem? (i := 7) rfl)) rfl), TX3, 9, rfl⟩, tk_X3_findNeeds, pk_X3, by decide⟩
set_option maxRecDepth 100000 in
theorem tk_X3_askFancies : ∀ q ∈ tab_X3_askFancies, decode cX3_askFancies q.1 = .ok q.2 := by decide +kernel
set_option maxRecDepth 100000 in
theorem mk_X3_askFancies : bmok TW cls_ MT M_X3_askFancies := ⟨(TW_mk (tl_6 _ (List.mem_of_getElem? (i := 107) rfl)) rfl), (TW_mk (tl_1 _ (List.mem_of_getElem? (i := 16) rfl)) rfl), by decide +kernel, ⟨by decide +kernel, by decide +kernel, by decide +kernel⟩, fun h => absurd h (by decide), fun _ => ⟨(TW_mk (tl_6 _ (List.mem_of_getElem? (i := 106) rfl)) rfl), (TW_mk (tp_5 (n := 9) (List.mem_of_getElem? (i := 8) rfl)) rfl), TX3, 9, rfl⟩, tk_X3_askFancies, pk_X3, by decide⟩
set_option maxRecDepth 100000 in
theorem tk_X3_tryPrices : ∀ q ∈ tab_X3_tryPrices, decode cX3_tryPrices q.1 = .ok q.2 := by decide +kernel
set_option maxRecDepth 100000 in
theorem mk_X3_tryPrices : bmok TW cls_ MT M_X3_tryPrices := ⟨(TW_mk (tl_6 _ (List.mem_of_getElem? (i := 117) rfl)) rfl), (TW_mk (tl_1 _ (List.mem_of_getElem? (i := 16) rfl)) rfl), by decide +kernel, ⟨by decide +kernel, by decide +kernel, by decide +kernel⟩, fun h => absurd h (by decide), fun _ => ⟨(TW_mk (tl_6 _ (List.mem_of_getElem? (i := 116) rfl)) rfl), (TW_mk (tp_5 (n := 9) (List.mem_of_getElem? (i := 9) rfl)) rfl), TX3, 9, rfl⟩, tk_X3_tryPrices, pk_X3, by decide⟩
set_option maxRecDepth 100000 in
theorem tk_X3_nextPrices : ∀ q ∈ tab_X3_nextPrices, decode cX3_nextPrices q.1 = .ok q.2 := by decide +kernel
set_option maxRecDepth 100000 in
theorem mk_X3_nextPrices : bmok TW cls_ MT M_X3_nextPrices := ⟨(TW_mk (tl_6 _ (List.mem_of_getElem? (i := 134) rfl)) rfl), (TW_mk (tl_1 _ (List.mem_of_getElem? (i := 16) rfl)) rfl), by decide +kernel, ⟨by decide +kernel, by decide +kernel, by decide +kernel⟩, fun h => absurd h (by decide), fun _ => ⟨(TW_mk (tl_6 _ (List.mem_of_getElem? (i := 133) rfl)) rfl), (TW_mk (tp_5 (n := 9) (List.mem_of_getElem? (i := 13) rfl)) rfl), TX3, 9, rfl⟩, tk_X3_nextPrices, pk_X3, by decide⟩
set_option maxRecDepth 100000 in
theorem tk_X3_allLeaveWhatIsNeeded : ∀ q ∈ tab_X3_allLeaveWhatIsNeeded, decode cX3_allLeaveWhatIsNeeded q.1 = .ok q.2 := by decide +kernel
set_option maxRecDepth 100000 in
theorem mk_X3_allLeaveWhatIsNeeded : bmok TW cls_ MT M_X3_allLeaveWhatIsNeeded := ⟨(TW_mk (tl_6 _ (List.mem_of_getElem? (i := 121) rfl)) rfl), (TW_mk (tl_1 _ (List.mem_of_getElem? (i := 16) rfl)) rfl), by decide +kernel, ⟨by decide +kernel, by decide +kernel, by decide +kernel⟩, fun h => absurd h (by decide), fun _ => ⟨(TW_mk (tl_6 _ (List.mem_of_getElem? (i := 120) rfl)) rfl), (TW_mk (tp_5 (n := 9) (List.mem_of_getElem? (i := 10) rfl)) rfl), TX3, 9, rfl⟩, tk_X3_allLeaveWhatIsNeeded, pk_X3, by decide⟩
set_option maxRecDepth 100000 in
theorem tk_X3_favourite : ∀ q ∈ tab_X3_favourite, decode cX3_favourite q.1 = .ok q.2 := by decide +kernel
set_option maxRecDepth 100000 in
theorem mk_X3_favourite : bmok TW cls_ MT M_X3_favourite := ⟨(TW_mk (tl_6 _ (List.mem_of_getElem? (i := 125) rfl)) rfl), (TW_mk (tl_1 _ (List.mem_of_getElem? (i := 16) rfl)) rfl), by decide +kernel, ⟨by decide +kernel, by decide +kernel, by decide +kernel⟩, fun h => absurd h (by decide), fun _ => ⟨(TW_mk (tl_6 _ (List.mem_of_getElem? (i := 124) rfl)) rfl), (TW_mk (tp_5 (n := 9) (List.mem_of_getElem? (i := 11) rfl)) rfl), TX3, 9, rfl⟩, tk_X3_favourite, pk_X3, by decide⟩
set_option maxRecDepth 100000 in
theorem tk_X3_liking : ∀ q ∈ tab_X3_liking, decode cX3_liking q.1 = .ok q.2 := by decide +kernel
set_option maxRecDepth 100000 in
theorem mk_X3_liking : bmok TW cls_ MT M_X3_liking := ⟨(TW_mk (tl_6 _ (List.mem_of_getElem? (i := 129) rfl)) rfl), (TW_mk (tl_1 _ (List.mem_of_getElem? (i := 16) rfl)) rfl), by decide +kernel, ⟨by decide +kernel, by decide +kernel, by decide +kernel⟩, fun h => absurd h (by decide), fun _ => ⟨(TW_mk (tl_6 _ (List.mem_of_getElem? (i := 128) rfl)) rfl), (TW_mk (tp_5 (n := 9) (List.mem_of_getElem? (i := 12) rfl)) rfl), TX3, 9, rfl⟩, tk_X3_liking, pk_X3, by decide⟩
set_option maxRecDepth 100000 in
theorem tk_X4_readInto : ∀ q ∈ tab_X4_readInto, decode cX4_readInto q.1 = .ok q.2 := by decide +kernel
set_option maxRecDepth 100000 in
theorem mk_X4_readInto : bmok TW cls_ MT M_X4_readInto := ⟨(TW_mk (tl_3 _ (List.mem_of_getElem? (i := 127) rfl)) rfl), (TW_mk (tl_1 _ (List.mem_of_getElem? (i := 5) rfl)) rfl), by decide +kernel, ⟨by decide +kernel, by decide +kernel, by decide +kernel⟩, fun h => absurd h (by decide), fun _ => ⟨(TW_mk (tl_3 _ (List.mem_of_getElem? (i := 125) rfl)) rfl), (TW_mk (tl_3 _ (List.mem_of_getElem? (i := 126) rfl)) rfl), TX4, 14, rfl⟩, tk_X4_readInto, pk_X4, by decide⟩
set_option maxRecDepth 100000 in
theorem tk_X4_begin : ∀ q ∈ tab_X4_begin, decode cX4_begin q.1 = .ok q.2 := by decide +kernel
set_option maxRecDepth 100000 in
theorem mk_X4_begin : bmok TW cls_ MT M_X4_begin := ⟨(TW_mk (tl_3 _ (List.mem_of_getElem? (i := 131) rfl)) rfl), (TW_mk (tl_1 _ (List.mem_of_getElem? (i := 5) rfl)) rfl), by decide +kernel, ⟨by decide +kernel, by decide +kernel, by decide +kernel⟩, fun h => absurd h (by decide), fun _ => ⟨(TW_mk (tl_3 _ (List.mem_of_getElem? (i := 130) rfl)) rfl), (TW_mk (tp_1 (n := 14) (List.mem_of_getElem? (i := 1) rfl)) rfl), TX4, 14, rfl⟩, tk_X4_begin, pk_X4, by decide⟩
set_option maxRecDepth 100000 in
theorem tk_X4_kind : ∀ q ∈ tab_X4_kind, decode cX4_kind q.1 = .ok q.2 := by decide +kernel
set_option maxRecDepth 100000 in
theorem mk_X4_kind : bmok TW cls_ MT M_X4_kind := ⟨(TW_mk (tl_3 _ (List.mem_of_getElem? (i := 179) rfl)) rfl), (TW_mk (tl_1 _ (List.mem_of_getElem? (i := 5) rfl)) rfl), by decide +kernel, ⟨by decide +kernel, by decide +kernel, by decide +kernel⟩, fun h => absurd h (by decide), fun _ => ⟨(TW_mk (tl_3 _ (List.mem_of_getElem? (i := 178) rfl)) rfl), (TW_mk (tp_1 (n := 14) (List.mem_of_getElem? (i := 8) rfl)) rfl), TX4, 14, rfl⟩, tk_X4_kind, pk_X4, by decide⟩
set_option maxRecDepth 100000 in
theorem tk_X4_fail : ∀ q ∈ tab_X4_fail, decode cX4_fail q.1 = .ok q.2 := by decide +kernel
set_option maxRecDepth 100000 in
theorem mk_X4_fail : bmok TW cls_ MT M_X4_fail := ⟨(TW_mk (tl_3 _ (List.mem_of_getElem? (i := 191) rfl)) rfl), (TW_mk (tl_1 _ (List.mem_of_getElem? (i := 5) rfl)) rfl), by decide +kernel, ⟨by decide +kernel, by decide +kernel, by decide +kernel⟩, fun h => absurd h (by decide), fun _ => ⟨(TW_mk (tl_3 _ (List.mem_of_getElem? (i := 190) rfl)) rfl), (TW_mk (tp_1 (n := 14) (List.mem_of_getElem? (i := 11) rfl)) rfl), TX4, 14, rfl⟩, tk_X4_fail, pk_X4, by decide⟩
set_option maxRecDepth 100000 in
theorem tk_X4_note : ∀ q ∈ tab_X4_note, decode cX4_note q.1 = .ok q.2 := by decide +kernel
set_option maxRecDepth 100000 in
theorem mk_X4_note : bmok TW cls_ MT M_X4_note := ⟨(TW_mk (tl_3 _ (List.mem_of_getElem? (i := 203) rfl)) rfl), (TW_mk (tl_1 _ (List.mem_of_getElem? (i := 5) rfl)) rfl), by decide +kernel, ⟨by decide +kernel, by decide +kernel, by decide +kernel⟩, fun h => absurd h (by decide), fun _ => ⟨(TW_mk (tl_3 _ (List.mem_of_getElem? (i := 202) rfl)) rfl), (TW_mk (tp_1 (n := 14) (List.mem_of_getElem? (i := 14) rfl)) rfl), TX4, 14, rfl⟩, tk_X4_note, pk_X4, by decide⟩
set_option maxRecDepth 100000 in
theorem tk_X4_take : ∀ q ∈ tab_X4_take, decode cX4_take q.1 = .ok q.2 := by decide +kernel
set_option maxRecDepth 100000 in
theorem mk_X4_take : bmok TW cls_ MT M_X4_take := ⟨(TW_mk (tl_3 _ (List.mem_of_getElem? (i := 195) rfl)) rfl), (TW_mk (tl_1 _ (List.mem_of_getElem? (i := 5) rfl)) rfl), by decide +kernel, ⟨by decide +kernel, by decide +kernel, by decide +kernel⟩, fun h => absurd h (by decide), fun _ => ⟨(TW_mk (tl_3 _ (List.mem_of_getElem? (i := 194) rfl)) rfl), (TW_mk (tp_1 (n := 14) (List.mem_of_getElem? (i := 12) rfl)) rfl), TX4, 14, rfl⟩, tk_X4_take, pk_X4, by decide⟩
set_option maxRecDepth 100000 in
theorem tk_X4_takeFirst : ∀ q ∈ tab_X4_takeFirst, decode cX4_takeFirst q.1 = .ok q.2 := by decide +kernel
set_option maxRecDepth 100000 in
theorem mk_X4_takeFirst : bmok TW cls_ MT M_X4_takeFirst := ⟨(TW_mk (tl_3 _ (List.mem_of_getElem? (i := 187) rfl)) rfl), (TW_mk (tl_1 _ (List.mem_of_getElem? (i := 5) rfl)) rfl), by decide +kernel, ⟨by decide +kernel, by decide +kernel, by decide +kernel⟩, fun h => absurd h (by decide), fun _ => ⟨(TW_mk (tl_3 _ (List.mem_of_getElem? (i := 186) rfl)) rfl), (TW_mk (tp_1 (n := 14) (List.mem_of_getElem? (i := 10) rfl)) rfl), TX4, 14, rfl⟩, tk_X4_takeFirst, pk_X4, by decide⟩
set_option maxRecDepth 100000 in
theorem tk_X4_takeNewName : ∀ q ∈ tab_X4_takeNewName, decode cX4_takeNewName q.1 = .ok q.2 := by decide +kernel
set_option maxRecDepth 100000 in
theorem mk_X4_takeNewName : bmok TW cls_ MT M_X4_takeNewName := ⟨(TW_mk (tl_3 _ (List.mem_of_getElem? (i := 199) rfl)) rfl), (TW_mk (tl_1 _ (List.mem_of_getElem? (i := 5) rfl)) rfl), by decide +kernel, ⟨by decide +kernel, by decide +kernel, by decide +kernel⟩, fun h => absurd h (by decide), fun _ => ⟨(TW_mk (tl_3 _ (List.mem_of_getElem? (i := 198) rfl)) rfl), (TW_mk (tp_1 (n := 14) (List.mem_of_getElem? (i := 13) rfl)) rfl), TX4, 14, rfl⟩, tk_X4_takeNewName, pk_X4, by decide⟩
set_option maxRecDepth 100000 in
theorem tk_X4_takeName : ∀ q ∈ tab_X4_takeName, decode cX4_takeName q.1 = .ok q.2 := by decide +kernel
set_option maxRecDepth 100000 in
theorem mk_X4_takeName : bmok TW cls_ MT M_X4_takeName := ⟨(TW_mk (tl_3 _ (List.mem_of_getElem? (i := 211) rfl)) rfl), (TW_mk (tl_1 _ (List.mem_of_getElem? (i := 5) rfl)) rfl), by decide +kernel, ⟨by decide +kernel, by decide +kernel, by decide +kernel⟩, fun h => absurd h (by decide), fun _ => ⟨(TW_mk (tl_3 _ (List.mem_of_getElem? (i := 210) rfl)) rfl), (TW_mk (tp_2 (n := 14) (List.mem_of_getElem? (i := 0) rfl)) rfl), TX4, 14, rfl⟩, tk_X4_takeName, pk_X4, by decide⟩
set_option maxRecDepth 100000 in
theorem tk_X4_takeInt : ∀ q ∈ tab_X4_takeInt, decode cX4_takeInt q.1 = .ok q.2 := by decide +kernel
set_option maxRecDepth 100000 in
theorem mk_X4_takeInt : bmok TW cls_ MT M_X4_takeInt := ⟨(TW_mk (tl_3 _ (List.mem_of_getElem? (i := 215) rfl)) rfl), (TW_mk (tl_1 _ (List.mem_of_getElem? (i := 5) rfl)) rfl), by decide +kernel, ⟨by decide +kernel, by decide +kernel, by decide +kernel⟩, fun h => absurd h (by decide), fun _ => ⟨(TW_mk (tl_3 _ (List.mem_of_getElem? (i := 214) rfl)) rfl), (TW_mk (tp_2 (n := 14) (List.mem_of_getElem? (i := 1) rfl)) rfl), TX4, 14, rfl⟩, tk_X4_takeInt, pk_X4, by decide⟩
set_option maxRecDepth 100000 in
theorem tk_X4_takeSetting : ∀ q ∈ tab_X4_takeSetting, decode cX4_takeSetting q.1 = .ok q.2 := by decide +kernel
set_option maxRecDepth 100000 in
theorem mk_X4_takeSetting : bmok TW cls_ MT M_X4_takeSetting := ⟨(TW_mk (tl_4 _ (List.mem_of_getElem? (i := 49) rfl)) rfl), (TW_mk (tl_1 _ (List.mem_of_getElem? (i := 5) rfl)) rfl), by decide +kernel, ⟨by decide +kernel, by decide +kernel, by decide +kernel⟩, fun h => absurd h (by decide), fun _ => ⟨(TW_mk (tl_4 _ (List.mem_of_getElem? (i := 48) rfl)) rfl), (TW_mk (tp_2 (n := 14) (List.mem_of_getElem? (i := 12) rfl)) rfl), TX4, 14, rfl⟩, tk_X4_takeSetting, pk_X4, by decide⟩
set_option maxRecDepth 100000 in
theorem tk_X4_takePlainLaw : ∀ q ∈ tab_X4_takePlainLaw, decode cX4_takePlainLaw q.1 = .ok q.2 := by decide +kernel
set_option maxRecDepth 100000 in
theorem mk_X4_takePlainLaw : bmok TW cls_ MT M_X4_takePlainLaw := ⟨(TW_mk (tl_4 _ (List.mem_of_getElem? (i := 45) rfl)) rfl), (TW_mk (tl_1 _ (List.mem_of_getElem? (i := 5) rfl)) rfl), by decide +kernel, ⟨by decide +kernel, by decide +kernel, by decide +kernel⟩, fun h => absurd h (by decide), fun _ => ⟨(TW_mk (tl_4 _ (List.mem_of_getElem? (i := 44) rfl)) rfl), (TW_mk (tp_2 (n := 14) (List.mem_of_getElem? (i := 11) rfl)) rfl), TX4, 14, rfl⟩, tk_X4_takePlainLaw, pk_X4, by decide⟩
set_option maxRecDepth 100000 in
theorem tk_X4_readBank : ∀ q ∈ tab_X4_readBank, decode cX4_readBank q.1 = .ok q.2 := by decide +kernel
set_option maxRecDepth 100000 in
theorem mk_X4_readBank : bmok TW cls_ MT M_X4_readBank := ⟨(TW_mk (tl_3 _ (List.mem_of_getElem? (i := 183) rfl)) rfl), (TW_mk (tl_1 _ (List.mem_of_getElem? (i := 5) rfl)) rfl), by decide +kernel, ⟨by decide +kernel, by decide +kernel, by decide +kernel⟩, fun h => absurd h (by decide), fun _ => ⟨(TW_mk (tl_3 _ (List.mem_of_getElem? (i := 182) rfl)) rfl), (TW_mk (tp_1 (n := 14) (List.mem_of_getElem? (i := 9) rfl)) rfl), TX4, 14, rfl⟩, tk_X4_readBank, pk_X4, by decide⟩
set_option maxRecDepth 100000 in
theorem tk_X4_readPath : ∀ q ∈ tab_X4_readPath, decode cX4_readPath q.1 = .ok q.2 := by decide +kernel
set_option maxRecDepth 100000 in
theorem mk_X4_readPath : bmok TW cls_ MT M_X4_readPath := ⟨(TW_mk (tl_3 _ (List.mem_of_getElem? (i := 207) rfl)) rfl), (TW_mk (tl_1 _ (List.mem_of_getElem? (i := 5) rfl)) rfl), by decide +kernel, ⟨by decide +kernel, by decide +kernel, by decide +kernel⟩, fun h => absurd h (by decide), fun _ => ⟨(TW_mk (tl_3 _ (List.mem_of_getElem? (i := 206) rfl)) rfl), (TW_mk (tp_1 (n := 14) (List.mem_of_getElem? (i := 15) rfl)) rfl), TX4, 14, rfl⟩, tk_X4_readPath, pk_X4, by decide⟩
set_option maxRecDepth 100000 in
theorem tk_X4_readBridge : ∀ q ∈ tab_X4_readBridge, decode cX4_readBridge q.1 = .ok q.2 := by decide +kernel
set_option maxRecDepth 100000 in
theorem mk_X4_readBridge : bmok TW cls_ MT M_X4_readBridge := ⟨(TW_mk (tl_3 _ (List.mem_of_getElem? (i := 227) rfl)) rfl), (TW_mk (tl_1 _ (List.mem_of_getElem? (i := 5) rfl)) rfl), by decide +kernel, ⟨by decide +kernel, by decide +kernel, by decide +kernel⟩, fun h => absurd h (by decide), fun _ => ⟨(TW_mk (tl_3 _ (List.mem_of_getElem? (i := 226) rfl)) rfl), (TW_mk (tp_2 (n := 14) (List.mem_of_getElem? (i := 2) rfl)) rfl), TX4, 14, rfl⟩, tk_X4_readBridge, pk_X4, by decide⟩
set_option maxRecDepth 100000 in
theorem tk_X4_readMan : ∀ q ∈ tab_X4_readMan, decode cX4_readMan q.1 = .ok q.2 := by decide +kernel
set_option maxRecDepth 100000 in
theorem mk_X4_readMan : bmok TW cls_ MT M_X4_readMan := ⟨(TW_mk (tl_3 _ (List.mem_of_getElem? (i := 235) rfl)) rfl), (TW_mk (tl_1 _ (List.mem_of_getElem? (i := 5) rfl)) rfl), by decide +kernel, ⟨by decide +kernel, by decide +kernel, by decide +kernel⟩, fun h => absurd h (by decide), fun _ => ⟨(TW_mk (tl_3 _ (List.mem_of_getElem? (i := 234) rfl)) rfl), (TW_mk (tp_2 (n := 14) (List.mem_of_getElem? (i := 3) rfl)) rfl), TX4, 14, rfl⟩, tk_X4_readMan, pk_X4, by decide⟩
set_option maxRecDepth 100000 in
theorem tk_X4_readNamedLaw : ∀ q ∈ tab_X4_readNamedLaw, decode cX4_readNamedLaw q.1 = .ok q.2 := by decide +kernel
set_option maxRecDepth 100000 in
theorem mk_X4_readNamedLaw : bmok TW cls_ MT M_X4_readNamedLaw := ⟨(TW_mk (tl_4 _ (List.mem_of_getElem? (i := 3) rfl)) rfl), (TW_mk (tl_1 _ (List.mem_of_getElem? (i := 5) rfl)) rfl), by decide +kernel, ⟨by decide +kernel, by decide +kernel, by decide +kernel⟩, fun h => absurd h (by decide), fun _ => ⟨(TW_mk (tl_4 _ (List.mem_of_getElem? (i := 2) rfl)) rfl), (TW_mk (tp_2 (n := 14) (List.mem_of_getElem? (i := 4) rfl)) rfl), TX4, 14, rfl⟩, tk_X4_readNamedLaw, pk_X4, by decide⟩
set_option maxRecDepth 100000 in
theorem tk_X4_takeLaw : ∀ q ∈ tab_X4_takeLaw, decode cX4_takeLaw q.1 = .ok q.2 := by decide +kernel
set_option maxRecDepth 100000 in
theorem mk_X4_takeLaw : bmok TW cls_ MT M_X4_takeLaw := ⟨(TW_mk (tl_4 _ (List.mem_of_getElem? (i := 7) rfl)) rfl), (TW_mk (tl_1 _ (List.mem_of_getElem? (i := 5) rfl)) rfl), by decide +kernel, ⟨by decide +kernel, by decide +kernel, by decide +kernel⟩, fun h => absurd h (by decide), fun _ => ⟨(TW_mk (tl_4 _ (List.mem_of_getElem? (i := 6) rfl)) rfl), (TW_mk (tp_2 (n := 14) (List.mem_of_getElem? (i := 5) rfl)) rfl), TX4, 14, rfl⟩, tk_X4_takeLaw, pk_X4, by decide⟩
set_option maxRecDepth 100000 in
theorem tk_X4_takeSum : ∀ q ∈ tab_X4_takeSum, decode cX4_takeSum q.1 = .ok q.2 := by decide +kernel
set_option maxRecDepth 100000 in
theorem mk_X4_takeSum : bmok TW cls_ MT M_X4_takeSum := ⟨(TW_mk (tl_4 _ (List.mem_of_getElem? (i := 11) rfl)) rfl), (TW_mk (tl_1 _ (List.mem_of_getElem? (i := 5) rfl)) rfl), by decide +kernel, ⟨by decide +kernel, by decide +kernel, by decide +kernel⟩, fun h => absurd h (by decide), fun _ => ⟨(TW_mk (tl_4 _ (List.mem_of_getElem? (i := 10) rfl)) rfl), (TW_mk (tp_2 (n := 14) (List.mem_of_getElem? (i := 6) rfl)) rfl), TX4, 14, rfl⟩, tk_X4_takeSum, pk_X4, by decide⟩
set_option maxRecDepth 100000 in
theorem tk_X4_takeUnit : ∀ q ∈ tab_X4_takeUnit, decode cX4_takeUnit q.1 = .ok q.2 := by decide +kernel
set_option maxRecDepth 100000 in
theorem mk_X4_takeUnit : bmok TW cls_ MT M_X4_takeUnit := ⟨(TW_mk (tl_4 _ (List.mem_of_getElem? (i := 19) rfl)) rfl), (TW_mk (tl_1 _ (List.mem_of_getElem? (i := 5) rfl)) rfl), by decide +kernel, ⟨by decide +kernel, by decide +kernel, by decide +kernel⟩, fun h => absurd h (by decide), fun _ => ⟨(TW_mk (tl_4 _ (List.mem_of_getElem? (i := 18) rfl)) rfl), (TW_mk (tp_2 (n := 14) (List.mem_of_getElem? (i := 8) rfl)) rfl), TX4, 14, rfl⟩, tk_X4_takeUnit, pk_X4, by decide⟩
set_option maxRecDepth 100000 in
theorem tk_X4_takeSign : ∀ q ∈ tab_X4_takeSign, decode cX4_takeSign q.1 = .ok q.2 := by decide +kernel
set_option maxRecDepth 100000 in
theorem mk_X4_takeSign : bmok TW cls_ MT M_X4_takeSign := ⟨(TW_mk (tl_4 _ (List.mem_of_getElem? (i := 15) rfl)) rfl), (TW_mk (tl_1 _ (List.mem_of_getElem? (i := 5) rfl)) rfl), by decide +kernel, ⟨by decide +kernel, by decide +kernel, by decide +kernel⟩, fun h => absurd h (by decide), fun _ => ⟨(TW_mk (tl_4 _ (List.mem_of_getElem? (i := 14) rfl)) rfl), (TW_mk (tp_2 (n := 14) (List.mem_of_getElem? (i := 7) rfl)) rfl), TX4, 14, rfl⟩, tk_X4_takeSign, pk_X4, by decide⟩
set_option maxRecDepth 100000 in
theorem tk_X4_takeCloses : ∀ q ∈ tab_X4_takeCloses, decode cX4_takeCloses q.1 = .ok q.2 := by decide +kernel
set_option maxRecDepth 100000 in
theorem mk_X4_takeCloses : bmok TW cls_ MT M_X4_takeCloses := ⟨(TW_mk (tl_4 _ (List.mem_of_getElem? (i := 27) rfl)) rfl), (TW_mk (tl_1 _ (List.mem_of_getElem? (i := 5) rfl)) rfl), by decide +kernel, ⟨by decide +kernel, by decide +kernel, by decide +kernel⟩, fun h => absurd h (by decide), fun _ => ⟨(TW_mk (tl_4 _ (List.mem_of_getElem? (i := 26) rfl)) rfl), (TW_mk (tp_2 (n := 14) (List.mem_of_getElem? (i := 9) rfl)) rfl), TX4, 14, rfl⟩, tk_X4_takeCloses, pk_X4, by decide⟩
set_option maxRecDepth 100000 in
theorem tk_X4_weightOf : ∀ q ∈ tab_X4_weightOf, decode cX4_weightOf q.1 = .ok q.2 := by decide +kernel
set_option maxRecDepth 100000 in
theorem mk_X4_weightOf : bmok TW cls_ MT M_X4_weightOf := ⟨(TW_mk (tl_4 _ (List.mem_of_getElem? (i := 34) rfl)) rfl), (TW_mk (tl_1 _ (List.mem_of_getElem? (i := 5) rfl)) rfl), by decide +kernel, ⟨by decide +kernel, by decide +kernel, by decide +kernel⟩, fun _ => (TW_mk (tl_4 _ (List.mem_of_getElem? (i := 33) rfl)) rfl), fun h => absurd h (by decide), tk_X4_weightOf, pk_X4, by decide⟩
set_option maxRecDepth 100000 in
theorem tk_X4_settleSigns : ∀ q ∈ tab_X4_settleSigns, decode cX4_settleSigns q.1 = .ok q.2 := by decide +kernel
set_option maxRecDepth 100000 in
theorem mk_X4_settleSigns : bmok TW cls_ MT M_X4_settleSigns := ⟨(TW_mk (tl_4 _ (List.mem_of_getElem? (i := 31) rfl)) rfl), (TW_mk (tl_1 _ (List.mem_of_getElem? (i := 5) rfl)) rfl), by decide +kernel, ⟨by decide +kernel, by decide +kernel, by decide +kernel⟩, fun h => absurd h (by decide), fun _ => ⟨(TW_mk (tl_4 _ (List.mem_of_getElem? (i := 30) rfl)) rfl), (TW_mk (tp_2 (n := 14) (List.mem_of_getElem? (i := 10) rfl)) rfl), TX4, 14, rfl⟩, tk_X4_settleSigns, pk_X4, by decide⟩
set_option maxRecDepth 100000 in
theorem tk_X5_prepare : ∀ q ∈ tab_X5_prepare, decode cX5_prepare q.1 = .ok q.2 := by decide +kernel
set_option maxRecDepth 100000 in
theorem mk_X5_prepare : bmok TW cls_ MT M_X5_prepare := ⟨(TW_mk (tl_5 _ (List.mem_of_getElem? (i := 118) rfl)) rfl), (TW_mk (tl_1 _ (List.mem_of_getElem? (i := 14) rfl)) rfl), by decide +kernel, ⟨by decide +kernel, by decide +kernel, by decide +kernel⟩, fun h => absurd h (by decide), fun _ => ⟨(TW_mk (tl_5 _ (List.mem_of_getElem? (i := 116) rfl)) rfl), (TW_mk (tl_5 _ (List.mem_of_getElem? (i := 117) rfl)) rfl), TX5, 13, rfl⟩, tk_X5_prepare, pk_X5, by decide⟩
set_option maxRecDepth 100000 in
theorem tk_X5_wishCell : ∀ q ∈ tab_X5_wishCell, decode cX5_wishCell q.1 = .ok q.2 := by decide +kernel
set_option maxRecDepth 100000 in
theorem mk_X5_wishCell : bmok TW cls_ MT M_X5_wishCell := ⟨(TW_mk (tl_5 _ (List.mem_of_getElem? (i := 128) rfl)) rfl), (TW_mk (tl_1 _ (List.mem_of_getElem? (i := 14) rfl)) rfl), by decide +kernel, ⟨by decide +kernel, by decide +kernel, by decide +kernel⟩, fun _ => (TW_mk (tl_5 _ (List.mem_of_getElem? (i := 127) rfl)) rfl), fun h => absurd h (by decide), tk_X5_wishCell, pk_X5, by decide⟩
set_option maxRecDepth 100000 in
theorem tk_X5_wishAt : ∀ q ∈ tab_X5_wishAt, decode cX5_wishAt q.1 = .ok q.2 := by decide +kernel
set_option maxRecDepth 100000 in
theorem mk_X5_wishAt : bmok TW cls_ MT M_X5_wishAt := ⟨(TW_mk (tl_5 _ (List.mem_of_getElem? (i := 165) rfl)) rfl), (TW_mk (tl_1 _ (List.mem_of_getElem? (i := 14) rfl)) rfl), by decide +kernel, ⟨by decide +kernel, by decide +kernel, by decide +kernel⟩, fun h => absurd h (by decide), fun _ => ⟨(TW_mk (tl_5 _ (List.mem_of_getElem? (i := 163) rfl)) rfl), (TW_mk (tl_5 _ (List.mem_of_getElem? (i := 164) rfl)) rfl), TX5, 13, rfl⟩, tk_X5_wishAt, pk_X5, by decide⟩
set_option maxRecDepth 100000 in
theorem tk_X5_homeOf : ∀ q ∈ tab_X5_homeOf, decode cX5_homeOf q.1 = .ok q.2 := by decide +kernel
set_option maxRecDepth 100000 in
theorem mk_X5_homeOf : bmok TW cls_ MT M_X5_homeOf := ⟨(TW_mk (tl_5 _ (List.mem_of_getElem? (i := 157) rfl)) rfl), (TW_mk (tl_1 _ (List.mem_of_getElem? (i := 14) rfl)) rfl), by decide +kernel, ⟨by decide +kernel, by decide +kernel, by decide +kernel⟩, fun h => absurd h (by decide), fun _ => ⟨(TW_mk (tl_5 _ (List.mem_of_getElem? (i := 155) rfl)) rfl), (TW_mk (tl_5 _ (List.mem_of_getElem? (i := 156) rfl)) rfl), TX5, 13, rfl⟩, tk_X5_homeOf, pk_X5, by decide⟩
set_option maxRecDepth 100000 in
theorem tk_X5_spotOf : ∀ q ∈ tab_X5_spotOf, decode cX5_spotOf q.1 = .ok q.2 := by decide +kernel
set_option maxRecDepth 100000 in
theorem mk_X5_spotOf : bmok TW cls_ MT M_X5_spotOf := ⟨(TW_mk (tl_5 _ (List.mem_of_getElem? (i := 137) rfl)) rfl), (TW_mk (tl_1 _ (List.mem_of_getElem? (i := 14) rfl)) rfl), by decide +kernel, ⟨by decide +kernel, by decide +kernel, by decide +kernel⟩, fun _ => (TW_mk (tl_5 _ (List.mem_of_getElem? (i := 136) rfl)) rfl), fun h => absurd h (by decide), tk_X5_spotOf, pk_X5, by decide⟩
set_option maxRecDepth 100000 in
theorem tk_X5_isSubset : ∀ q ∈ tab_X5_isSubset, decode cX5_isSubset q.1 = .ok q.2 := by decide +kernel
set_option maxRecDepth 100000 in
theorem mk_X5_isSubset : bmok TW cls_ MT M_X5_isSubset := ⟨(TW_mk (tl_5 _ (List.mem_of_getElem? (i := 141) rfl)) rfl), (TW_mk (tl_1 _ (List.mem_of_getElem? (i := 14) rfl)) rfl), by decide +kernel, ⟨by decide +kernel, by decide +kernel, by decide +kernel⟩, fun h => absurd h (by decide), fun _ => ⟨(TW_mk (tl_5 _ (List.mem_of_getElem? (i := 140) rfl)) rfl), (TW_mk (tp_3 (n := 13) (List.mem_of_getElem? (i := 15) rfl)) rfl), TX5, 13, rfl⟩, tk_X5_isSubset, pk_X5, by decide⟩
set_option maxRecDepth 100000 in
theorem tk_X5_isLeft : ∀ q ∈ tab_X5_isLeft, decode cX5_isLeft q.1 = .ok q.2 := by decide +kernel
set_option maxRecDepth 100000 in
theorem mk_X5_isLeft : bmok TW cls_ MT M_X5_isLeft := ⟨(TW_mk (tl_5 _ (List.mem_of_getElem? (i := 149) rfl)) rfl), (TW_mk (tl_1 _ (List.mem_of_getElem? (i := 14) rfl)) rfl), by decide +kernel, ⟨by decide +kernel, by decide +kernel, by decide +kernel⟩, fun h => absurd h (by decide), fun _ => ⟨(TW_mk (tl_5 _ (List.mem_of_getElem? (i := 148) rfl)) rfl), (TW_mk (tp_4 (n := 13) (List.mem_of_getElem? (i := 1) rfl)) rfl), TX5, 13, rfl⟩, tk_X5_isLeft, pk_X5, by decide⟩
set_option maxRecDepth 100000 in
theorem tk_X5_allLiveAt : ∀ q ∈ tab_X5_allLiveAt, decode cX5_allLiveAt q.1 = .ok q.2 := by decide +kernel
set_option maxRecDepth 100000 in
theorem mk_X5_allLiveAt : bmok TW cls_ MT M_X5_allLiveAt := ⟨(TW_mk (tl_5 _ (List.mem_of_getElem? (i := 161) rfl)) rfl), (TW_mk (tl_1 _ (List.mem_of_getElem? (i := 14) rfl)) rfl), by decide +kernel, ⟨by decide +kernel, by decide +kernel, by decide +kernel⟩, fun h => absurd h (by decide), fun _ => ⟨(TW_mk (tl_5 _ (List.mem_of_getElem? (i := 160) rfl)) rfl), (TW_mk (tp_4 (n := 13) (List.mem_of_getElem? (i := 3) rfl)) rfl), TX5, 13, rfl⟩, tk_X5_allLiveAt, pk_X5, by decide⟩
set_option maxRecDepth 100000 in
theorem tk_X5_spotAfter : ∀ q ∈ tab_X5_spotAfter, decode cX5_spotAfter q.1 = .ok q.2 := by decide +kernel
set_option maxRecDepth 100000 in
theorem mk_X5_spotAfter : bmok TW cls_ MT M_X5_spotAfter := ⟨(TW_mk (tl_5 _ (List.mem_of_getElem? (i := 153) rfl)) rfl), (TW_mk (tl_1 _ (List.mem_of_getElem? (i := 14) rfl)) rfl), by decide +kernel, ⟨by decide +kernel, by decide +kernel, by decide +kernel⟩, fun h => absurd h (by decide), fun _ => ⟨(TW_mk (tl_5 _ (List.mem_of_getElem? (i := 152) rfl)) rfl), (TW_mk (tp_4 (n := 13) (List.mem_of_getElem? (i := 2) rfl)) rfl), TX5, 13, rfl⟩, tk_X5_spotAfter, pk_X5, by decide⟩
set_option maxRecDepth 100000 in
theorem tk_X5_countOrders : ∀ q ∈ tab_X5_countOrders, decode cX5_countOrders q.1 = .ok q.2 := by decide +kernel
set_option maxRecDepth 100000 in
theorem mk_X5_countOrders : bmok TW cls_ MT M_X5_countOrders := ⟨(TW_mk (tl_5 _ (List.mem_of_getElem? (i := 133) rfl)) rfl), (TW_mk (tl_1 _ (List.mem_of_getElem? (i := 14) rfl)) rfl), by decide +kernel, ⟨by decide +kernel, by decide +kernel, by decide +kernel⟩, fun h => absurd h (by decide), fun _ => ⟨(TW_mk (tl_5 _ (List.mem_of_getElem? (i := 131) rfl)) rfl), (TW_mk (tl_5 _ (List.mem_of_getElem? (i := 132) rfl)) rfl), TX5, 13, rfl⟩, tk_X5_countOrders, pk_X5, by decide⟩
set_option maxRecDepth 100000 in
theorem tk_X5_passOrdersOn : ∀ q ∈ tab_X5_passOrdersOn, decode cX5_passOrdersOn q.1 = .ok q.2 := by decide +kernel
set_option maxRecDepth 100000 in
theorem mk_X5_passOrdersOn : bmok TW cls_ MT M_X5_passOrdersOn := ⟨(TW_mk (tl_5 _ (List.mem_of_getElem? (i := 145) rfl)) rfl), (TW_mk (tl_1 _ (List.mem_of_getElem? (i := 14) rfl)) rfl), by decide +kernel, ⟨by decide +kernel, by decide +kernel, by decide +kernel⟩, fun h => absurd h (by decide), fun _ => ⟨(TW_mk (tl_5 _ (List.mem_of_getElem? (i := 144) rfl)) rfl), (TW_mk (tp_4 (n := 13) (List.mem_of_getElem? (i := 0) rfl)) rfl), TX5, 13, rfl⟩, tk_X5_passOrdersOn, pk_X5, by decide⟩
set_option maxRecDepth 100000 in
theorem tk_X5_fewestWishers : ∀ q ∈ tab_X5_fewestWishers, decode cX5_fewestWishers q.1 = .ok q.2 := by decide +kernel
set_option maxRecDepth 100000 in
theorem mk_X5_fewestWishers : bmok TW cls_ MT M_X5_fewestWishers := ⟨(TW_mk (tl_5 _ (List.mem_of_getElem? (i := 173) rfl)) rfl), (TW_mk (tl_1 _ (List.mem_of_getElem? (i := 14) rfl)) rfl), by decide +kernel, ⟨by decide +kernel, by decide +kernel, by decide +kernel⟩, fun h => absurd h (by decide), fun _ => ⟨(TW_mk (tl_5 _ (List.mem_of_getElem? (i := 171) rfl)) rfl), (TW_mk (tl_5 _ (List.mem_of_getElem? (i := 172) rfl)) rfl), TX5, 13, rfl⟩, tk_X5_fewestWishers, pk_X5, by decide⟩
set_option maxRecDepth 100000 in
theorem tk_X5_spread : ∀ q ∈ tab_X5_spread, decode cX5_spread q.1 = .ok q.2 := by decide +kernel
set_option maxRecDepth 100000 in
theorem mk_X5_spread : bmok TW cls_ MT M_X5_spread := ⟨(TW_mk (tl_5 _ (List.mem_of_getElem? (i := 177) rfl)) rfl), (TW_mk (tl_1 _ (List.mem_of_getElem? (i := 14) rfl)) rfl), by decide +kernel, ⟨by decide +kernel, by decide +kernel, by decide +kernel⟩, fun h => absurd h (by decide), fun _ => ⟨(TW_mk (tl_5 _ (List.mem_of_getElem? (i := 176) rfl)) rfl), (TW_mk (tp_4 (n := 13) (List.mem_of_getElem? (i := 4) rfl)) rfl), TX5, 13, rfl⟩, tk_X5_spread, pk_X5, by decide⟩
set_option maxRecDepth 100000 in
theorem tk_X5_spotFree : ∀ q ∈ tab_X5_spotFree, decode cX5_spotFree q.1 = .ok q.2 := by decide +kernel
set_option maxRecDepth 100000 in
theorem mk_X5_spotFree : bmok TW cls_ MT M_X5_spotFree := ⟨(TW_mk (tl_5 _ (List.mem_of_getElem? (i := 181) rfl)) rfl), (TW_mk (tl_1 _ (List.mem_of_getElem? (i := 14) rfl)) rfl), by decide +kernel, ⟨by decide +kernel, by decide +kernel, by decide +kernel⟩, fun h => absurd h (by decide), fun _ => ⟨(TW_mk (tl_5 _ (List.mem_of_getElem? (i := 180) rfl)) rfl), (TW_mk (tp_4 (n := 13) (List.mem_of_getElem? (i := 5) rfl)) rfl), TX5, 13, rfl⟩, tk_X5_spotFree, pk_X5, by decide⟩
set_option maxRecDepth 100000 in
theorem tk_X5_spotPaid : ∀ q ∈ tab_X5_spotPaid, decode cX5_spotPaid q.1 = .ok q.2 := by decide +kernel
set_option maxRecDepth 100000 in
theorem mk_X5_spotPaid : bmok TW cls_ MT M_X5_spotPaid := ⟨(TW_mk (tl_5 _ (List.mem_of_getElem? (i := 185) rfl)) rfl), (TW_mk (tl_1 _ (List.mem_of_getElem? (i := 14) rfl)) rfl), by decide +kernel, ⟨by decide +kernel, by decide +kernel, by decide +kernel⟩, fun h => absurd h (by decide), fun _ => ⟨(TW_mk (tl_5 _ (List.mem_of_getElem? (i := 184) rfl)) rfl), (TW_mk (tp_4 (n := 13) (List.mem_of_getElem? (i := 6) rfl)) rfl), TX5, 13, rfl⟩, tk_X5_spotPaid, pk_X5, by decide⟩
set_option maxRecDepth 100000 in
theorem tk_X5_findHopeful : ∀ q ∈ tab_X5_findHopeful, decode cX5_findHopeful q.1 = .ok q.2 := by decide +kernel
set_option maxRecDepth 100000 in
theorem mk_X5_findHopeful : bmok TW cls_ MT M_X5_findHopeful := ⟨(TW_mk (tl_5 _ (List.mem_of_getElem? (i := 193) rfl)) rfl), (TW_mk (tl_1 _ (List.mem_of_getElem? (i := 14) rfl)) rfl), by decide +kernel, ⟨by decide +kernel, by decide +kernel, by decide +kernel⟩, fun h => absurd h (by decide), fun _ => ⟨(TW_mk (tl_5 _ (List.mem_of_getElem? (i := 192) rfl)) rfl), (TW_mk (tp_4 (n := 13) (List.mem_of_getElem? (i := 7) rfl)) rfl), TX5, 13, rfl⟩, tk_X5_findHopeful, pk_X5, by decide⟩
set_option maxRecDepth 100000 in
theorem tk_X5_isHopeful : ∀ q ∈ tab_X5_isHopeful, decode cX5_isHopeful q.1 = .ok q.2 := by decide +kernel
set_option maxRecDepth 100000 in
theorem mk_X5_isHopeful : bmok TW cls_ MT M_X5_isHopeful := ⟨(TW_mk (tl_5 _ (List.mem_of_getElem? (i := 197) rfl)) rfl), (TW_mk (tl_1 _ (List.mem_of_getElem? (i := 14) rfl)) rfl), by decide +kernel, ⟨by decide +kernel, by decide +kernel, by decide +kernel⟩, fun h => absurd h (by decide), fun _ => ⟨(TW_mk (tl_5 _ (List.mem_of_getElem? (i := 196) rfl)) rfl), (TW_mk (tp_4 (n := 13) (List.mem_of_getElem? (i := 8) rfl)) rfl), TX5, 13, rfl⟩, tk_X5_isHopeful, pk_X5, by decide⟩
set_option maxRecDepth 100000 in
theorem tk_X5_findRow : ∀ q ∈ tab_X5_findRow, decode cX5_findRow q.1 = .ok q.2 := by decide +kernel
set_option maxRecDepth 100000 in
theorem mk_X5_findRow : bmok TW cls_ MT M_X5_findRow := ⟨(TW_mk (tl_5 _ (List.mem_of_getElem? (i := 189) rfl)) rfl), (TW_mk (tl_1 _ (List.mem_of_getElem? (i := 14) rfl)) rfl), by decide +kernel, ⟨by decide +kernel, by decide +kernel, by decide +kernel⟩, fun h => absurd h (by decide), fun _ => ⟨(TW_mk (tl_5 _ (List.mem_of_getElem? (i := 187) rfl)) rfl), (TW_mk (tl_5 _ (List.mem_of_getElem? (i := 188) rfl)) rfl), TX5, 13, rfl⟩, tk_X5_findRow, pk_X5, by decide⟩
set_option maxRecDepth 100000 in
theorem tk_X5_findHires : ∀ q ∈ tab_X5_findHires, decode cX5_findHires q.1 = .ok q.2 := by decide +kernel
set_option maxRecDepth 100000 in
theorem mk_X5_findHires : bmok TW cls_ MT M_X5_findHires := ⟨(TW_mk (tl_5 _ (List.mem_of_getElem? (i := 201) rfl)) rfl), (TW_mk (tl_1 _ (List.mem_of_getElem? (i := 14) rfl)) rfl), by decide +kernel, ⟨by decide +kernel, by decide +kernel, by decide +kernel⟩, fun h => absurd h (by decide), fun _ => ⟨(TW_mk (tl_5 _ (List.mem_of_getElem? (i := 200) rfl)) rfl), (TW_mk (tp_4 (n := 13) (List.mem_of_getElem? (i := 9) rfl)) rfl), TX5, 13, rfl⟩, tk_X5_findHires, pk_X5, by decide⟩
set_option maxRecDepth 100000 in
theorem tk_X5_leadsOn : ∀ q ∈ tab_X5_leadsOn, decode cX5_leadsOn q.1 = .ok q.2 := by decide +kernel
set_option maxRecDepth 100000 in
theorem mk_X5_leadsOn : bmok TW cls_ MT M_X5_leadsOn := ⟨(TW_mk (tl_5 _ (List.mem_of_getElem? (i := 205) rfl)) rfl), (TW_mk (tl_1 _ (List.mem_of_getElem? (i := 14) rfl)) rfl), by decide +kernel, ⟨by decide +kernel, by decide +kernel, by decide +kernel⟩, fun h => absurd h (by decide), fun _ => ⟨(TW_mk (tl_5 _ (List.mem_of_getElem? (i := 204) rfl)) rfl), (TW_mk (tp_4 (n := 13) (List.mem_of_getElem? (i := 10) rfl)) rfl), TX5, 13, rfl⟩, tk_X5_leadsOn, pk_X5, by decide⟩
set_option maxRecDepth 100000 in
theorem tk_X5_ringsOf : ∀ q ∈ tab_X5_ringsOf, decode cX5_ringsOf q.1 = .ok q.2 := by decide +kernel
set_option maxRecDepth 100000 in
theorem mk_X5_ringsOf : bmok TW cls_ MT M_X5_ringsOf := ⟨(TW_mk (tl_5 _ (List.mem_of_getElem? (i := 221) rfl)) rfl), (TW_mk (tl_1 _ (List.mem_of_getElem? (i := 14) rfl)) rfl), by decide +kernel, ⟨by decide +kernel, by decide +kernel, by decide +kernel⟩, fun h => absurd h (by decide), fun _ => ⟨(TW_mk (tl_5 _ (List.mem_of_getElem? (i := 219) rfl)) rfl), (TW_mk (tl_5 _ (List.mem_of_getElem? (i := 220) rfl)) rfl), TX5, 13, rfl⟩, tk_X5_ringsOf, pk_X5, by decide⟩
set_option maxRecDepth 100000 in
theorem tk_X5_drawArcs : ∀ q ∈ tab_X5_drawArcs, decode cX5_drawArcs q.1 = .ok q.2 := by decide +kernel
set_option maxRecDepth 100000 in
theorem mk_X5_drawArcs : bmok TW cls_ MT M_X5_drawArcs := ⟨(TW_mk (tl_5 _ (List.mem_of_getElem? (i := 225) rfl)) rfl), (TW_mk (tl_1 _ (List.mem_of_getElem? (i := 14) rfl)) rfl), by decide +kernel, ⟨by decide +kernel, by decide +kernel, by decide +kernel⟩, fun h => absurd h (by decide), fun _ => ⟨(TW_mk (tl_5 _ (List.mem_of_getElem? (i := 224) rfl)) rfl), (TW_mk (tp_4 (n := 13) (List.mem_of_getElem? (i := 11) rfl)) rfl), TX5, 13, rfl⟩, tk_X5_drawArcs, pk_X5, by decide⟩
set_option maxRecDepth 100000 in
theorem tk_X5_join : ∀ q ∈ tab_X5_join, decode cX5_join q.1 = .ok q.2 := by decide +kernel
set_option maxRecDepth 100000 in
theorem mk_X5_join : bmok TW cls_ MT M_X5_join := ⟨(TW_mk (tl_5 _ (List.mem_of_getElem? (i := 229) rfl)) rfl), (TW_mk (tl_1 _ (List.mem_of_getElem? (i := 14) rfl)) rfl), by decide +kernel, ⟨by decide +kernel, by decide +kernel, by decide +kernel⟩, fun h => absurd h (by decide), fun _ => ⟨(TW_mk (tl_5 _ (List.mem_of_getElem? (i := 228) rfl)) rfl), (TW_mk (tp_4 (n := 13) (List.mem_of_getElem? (i := 12) rfl)) rfl), TX5, 13, rfl⟩, tk_X5_join, pk_X5, by decide⟩
set_option maxRecDepth 100000 in
theorem tk_X5_hasArcs : ∀ q ∈ tab_X5_hasArcs, decode cX5_hasArcs q.1 = .ok q.2 := by decide +kernel
set_option maxRecDepth 100000 in
theorem mk_X5_hasArcs : bmok TW cls_ MT M_X5_hasArcs := ⟨(TW_mk (tl_5 _ (List.mem_of_getElem? (i := 233) rfl)) rfl), (TW_mk (tl_1 _ (List.mem_of_getElem? (i := 14) rfl)) rfl), by decide +kernel, ⟨by decide +kernel, by decide +kernel, by decide +kernel⟩, fun h => absurd h (by decide), fun _ => ⟨(TW_mk (tl_5 _ (List.mem_of_getElem? (i := 232) rfl)) rfl), (TW_mk (tp_4 (n := 13) (List.mem_of_getElem? (i := 13) rfl)) rfl), TX5, 13, rfl⟩, tk_X5_hasArcs, pk_X5, by decide⟩
set_option maxRecDepth 100000 in
theorem tk_X5_moreOut : ∀ q ∈ tab_X5_moreOut, decode cX5_moreOut q.1 = .ok q.2 := by decide +kernel
set_option maxRecDepth 100000 in
theorem mk_X5_moreOut : bmok TW cls_ MT M_X5_moreOut := ⟨(TW_mk (tl_5 _ (List.mem_of_getElem? (i := 237) rfl)) rfl), (TW_mk (tl_1 _ (List.mem_of_getElem? (i := 14) rfl)) rfl), by decide +kernel, ⟨by decide +kernel, by decide +kernel, by decide +kernel⟩, fun h => absurd h (by decide), fun _ => ⟨(TW_mk (tl_5 _ (List.mem_of_getElem? (i := 236) rfl)) rfl), (TW_mk (tp_4 (n := 13) (List.mem_of_getElem? (i := 14) rfl)) rfl), TX5, 13, rfl⟩, tk_X5_moreOut, pk_X5, by decide⟩
set_option maxRecDepth 100000 in
theorem tk_X5_lastHelps : ∀ q ∈ tab_X5_lastHelps, decode cX5_lastHelps q.1 = .ok q.2 := by decide +kernel
set_option maxRecDepth 100000 in
theorem mk_X5_lastHelps : bmok TW cls_ MT M_X5_lastHelps := ⟨(TW_mk (tl_6 _ (List.mem_of_getElem? (i := 2) rfl)) rfl), (TW_mk (tl_1 _ (List.mem_of_getElem? (i := 14) rfl)) rfl), by decide +kernel, ⟨by decide +kernel, by decide +kernel, by decide +kernel⟩, fun h => absurd h (by decide), fun _ => ⟨(TW_mk (tl_6 _ (List.mem_of_getElem? (i := 1) rfl)) rfl), (TW_mk (tp_4 (n := 13) (List.mem_of_getElem? (i := 15) rfl)) rfl), TX5, 13, rfl⟩, tk_X5_lastHelps, pk_X5, by decide⟩
set_option maxRecDepth 100000 in
theorem tk_X6_clear : ∀ q ∈ tab_X6_clear, decode cX6_clear q.1 = .ok q.2 := by decide +kernel
set_option maxRecDepth 100000 in
theorem mk_X6_clear : bmok TW cls_ MT M_X6_clear := ⟨(TW_mk (tl_3 _ (List.mem_of_getElem? (i := 45) rfl)) rfl), (TW_mk (tl_1 _ (List.mem_of_getElem? (i := 17) rfl)) rfl), by decide +kernel, ⟨by decide +kernel, by decide +kernel, by decide +kernel⟩, fun h => absurd h (by decide), fun _ => ⟨(TW_mk (tl_3 _ (List.mem_of_getElem? (i := 43) rfl)) rfl), (TW_mk (tl_3 _ (List.mem_of_getElem? (i := 44) rfl)) rfl), TX6, 5, rfl⟩, tk_X6_clear, pk_X6, by decide⟩
set_option maxRecDepth 100000 in
theorem tk_X6_add : ∀ q ∈ tab_X6_add, decode cX6_add q.1 = .ok q.2 := by decide +kernel
set_option maxRecDepth 100000 in
theorem mk_X6_add : bmok TW cls_ MT M_X6_add := ⟨(TW_mk (tl_6 _ (List.mem_of_getElem? (i := 142) rfl)) rfl), (TW_mk (tl_1 _ (List.mem_of_getElem? (i := 17) rfl)) rfl), by decide +kernel, ⟨by decide +kernel, by decide +kernel, by decide +kernel⟩, fun h => absurd h (by decide), fun _ => ⟨(TW_mk (tl_6 _ (List.mem_of_getElem? (i := 140) rfl)) rfl), (TW_mk (tl_6 _ (List.mem_of_getElem? (i := 141) rfl)) rfl), TX6, 5, rfl⟩, tk_X6_add, pk_X6, by decide⟩
set_option maxRecDepth 100000 in
theorem tk_X6_sayers : ∀ q ∈ tab_X6_sayers, decode cX6_sayers q.1 = .ok q.2 := by decide +kernel
set_option maxRecDepth 100000 in
theorem mk_X6_sayers : bmok TW cls_ MT M_X6_sayers := ⟨(TW_mk (tl_6 _ (List.mem_of_getElem? (i := 207) rfl)) rfl), (TW_mk (tl_1 _ (List.mem_of_getElem? (i := 17) rfl)) rfl), by decide +kernel, ⟨by decide +kernel, by decide +kernel, by decide +kernel⟩, fun h => absurd h (by decide), fun _ => ⟨(TW_mk (tl_6 _ (List.mem_of_getElem? (i := 205) rfl)) rfl), (TW_mk (tl_6 _ (List.mem_of_getElem? (i := 206) rfl)) rfl), TX6, 5, rfl⟩, tk_X6_sayers, pk_X6, by decide⟩
set_option maxRecDepth 100000 in
theorem tk_X6_learn : ∀ q ∈ tab_X6_learn, decode cX6_learn q.1 = .ok q.2 := by decide +kernel
set_option maxRecDepth 100000 in
theorem mk_X6_learn : bmok TW cls_ MT M_X6_learn := ⟨(TW_mk (tl_6 _ (List.mem_of_getElem? (i := 166) rfl)) rfl), (TW_mk (tl_1 _ (List.mem_of_getElem? (i := 17) rfl)) rfl), by decide +kernel, ⟨by decide +kernel, by decide +kernel, by decide +kernel⟩, fun h => absurd h (by decide), fun _ => ⟨(TW_mk (tl_6 _ (List.mem_of_getElem? (i := 165) rfl)) rfl), (TW_mk (tp_5 (n := 5) (List.mem_of_getElem? (i := 15) rfl)) rfl), TX6, 5, rfl⟩, tk_X6_learn, pk_X6, by decide⟩
set_option maxRecDepth 100000 in
theorem tk_X6_waysToFit : ∀ q ∈ tab_X6_waysToFit, decode cX6_waysToFit q.1 = .ok q.2 := by decide +kernel
set_option maxRecDepth 100000 in
theorem mk_X6_waysToFit : bmok TW cls_ MT M_X6_waysToFit := ⟨(TW_mk (tl_6 _ (List.mem_of_getElem? (i := 162) rfl)) rfl), (TW_mk (tl_1 _ (List.mem_of_getElem? (i := 17) rfl)) rfl), by decide +kernel, ⟨by decide +kernel, by decide +kernel, by decide +kernel⟩, fun h => absurd h (by decide), fun _ => ⟨(TW_mk (tl_6 _ (List.mem_of_getElem? (i := 160) rfl)) rfl), (TW_mk (tl_6 _ (List.mem_of_getElem? (i := 161) rfl)) rfl), TX6, 5, rfl⟩, tk_X6_waysToFit, pk_X6, by decide⟩
set_option maxRecDepth 100000 in
theorem tk_X6_sureWish : ∀ q ∈ tab_X6_sureWish, decode cX6_sureWish q.1 = .ok q.2 := by decide +kernel
set_option maxRecDepth 100000 in
theorem mk_X6_sureWish : bmok TW cls_ MT M_X6_sureWish := ⟨(TW_mk (tl_6 _ (List.mem_of_getElem? (i := 174) rfl)) rfl), (TW_mk (tl_1 _ (List.mem_of_getElem? (i := 17) rfl)) rfl), by decide +kernel, ⟨by decide +kernel, by decide +kernel, by decide +kernel⟩, fun h => absurd h (by decide), fun _ => ⟨(TW_mk (tl_6 _ (List.mem_of_getElem? (i := 172) rfl)) rfl), (TW_mk (tl_6 _ (List.mem_of_getElem? (i := 173) rfl)) rfl), TX6, 5, rfl⟩, tk_X6_sureWish, pk_X6, by decide⟩
set_option maxRecDepth 100000 in
theorem tk_X6_trueOnes : ∀ q ∈ tab_X6_trueOnes, decode cX6_trueOnes q.1 = .ok q.2 := by decide +kernel
set_option maxRecDepth 100000 in
theorem mk_X6_trueOnes : bmok TW cls_ MT M_X6_trueOnes := ⟨(TW_mk (tl_6 _ (List.mem_of_getElem? (i := 182) rfl)) rfl), (TW_mk (tl_1 _ (List.mem_of_getElem? (i := 17) rfl)) rfl), by decide +kernel, ⟨by decide +kernel, by decide +kernel, by decide +kernel⟩, fun h => absurd h (by decide), fun _ => ⟨(TW_mk (tl_6 _ (List.mem_of_getElem? (i := 180) rfl)) rfl), (TW_mk (tl_6 _ (List.mem_of_getElem? (i := 181) rfl)) rfl), TX6, 5, rfl⟩, tk_X6_trueOnes, pk_X6, by decide⟩
set_option maxRecDepth 100000 in
theorem tk_X7_clear : ∀ q ∈ tab_X7_clear, decode cX7_clear q.1 = .ok q.2 := by decide +kernel
set_option maxRecDepth 100000 in
theorem mk_X7_clear : bmok TW cls_ MT M_X7_clear := ⟨(TW_mk (tl_4 _ (List.mem_of_getElem? (i := 61) rfl)) rfl), (TW_mk (tl_1 _ (List.mem_of_getElem? (i := 12) rfl)) rfl), by decide +kernel, ⟨by decide +kernel, by decide +kernel, by decide +kernel⟩, fun h => absurd h (by decide), fun _ => ⟨(TW_mk (tl_4 _ (List.mem_of_getElem? (i := 59) rfl)) rfl), (TW_mk (tl_4 _ (List.mem_of_getElem? (i := 60) rfl)) rfl), TX7, 4, rfl⟩, tk_X7_clear, pk_X7, by decide⟩
set_option maxRecDepth 100000 in
theorem tk_X7_keep : ∀ q ∈ tab_X7_keep, decode cX7_keep q.1 = .ok q.2 := by decide +kernel
set_option maxRecDepth 100000 in
theorem mk_X7_keep : bmok TW cls_ MT M_X7_keep := ⟨(TW_mk (tl_4 _ (List.mem_of_getElem? (i := 151) rfl)) rfl), (TW_mk (tl_1 _ (List.mem_of_getElem? (i := 12) rfl)) rfl), by decide +kernel, ⟨by decide +kernel, by decide +kernel, by decide +kernel⟩, fun h => absurd h (by decide), fun _ => ⟨(TW_mk (tl_4 _ (List.mem_of_getElem? (i := 149) rfl)) rfl), (TW_mk (tl_4 _ (List.mem_of_getElem? (i := 150) rfl)) rfl), TX7, 4, rfl⟩, tk_X7_keep, pk_X7, by decide⟩
set_option maxRecDepth 100000 in
theorem tk_X7_takeBack : ∀ q ∈ tab_X7_takeBack, decode cX7_takeBack q.1 = .ok q.2 := by decide +kernel
set_option maxRecDepth 100000 in
theorem mk_X7_takeBack : bmok TW cls_ MT M_X7_takeBack := ⟨(TW_mk (tl_4 _ (List.mem_of_getElem? (i := 229) rfl)) rfl), (TW_mk (tl_1 _ (List.mem_of_getElem? (i := 12) rfl)) rfl), by decide +kernel, ⟨by decide +kernel, by decide +kernel, by decide +kernel⟩, fun h => absurd h (by decide), fun _ => ⟨(TW_mk (tl_4 _ (List.mem_of_getElem? (i := 227) rfl)) rfl), (TW_mk (tl_4 _ (List.mem_of_getElem? (i := 228) rfl)) rfl), TX7, 4, rfl⟩, tk_X7_takeBack, pk_X7, by decide⟩
set_option maxRecDepth 100000 in
theorem tk_X7_putInSlot : ∀ q ∈ tab_X7_putInSlot, decode cX7_putInSlot q.1 = .ok q.2 := by decide +kernel
set_option maxRecDepth 100000 in
theorem mk_X7_putInSlot : bmok TW cls_ MT M_X7_putInSlot := ⟨(TW_mk (tl_6 _ (List.mem_of_getElem? (i := 190) rfl)) rfl), (TW_mk (tl_1 _ (List.mem_of_getElem? (i := 12) rfl)) rfl), by decide +kernel, ⟨by decide +kernel, by decide +kernel, by decide +kernel⟩, fun h => absurd h (by decide), fun _ => ⟨(TW_mk (tl_6 _ (List.mem_of_getElem? (i := 188) rfl)) rfl), (TW_mk (tl_6 _ (List.mem_of_getElem? (i := 189) rfl)) rfl), TX7, 4, rfl⟩, tk_X7_putInSlot, pk_X7, by decide⟩
set_option maxRecDepth 100000 in
theorem tk_X7_goOnFrom : ∀ q ∈ tab_X7_goOnFrom, decode cX7_goOnFrom q.1 = .ok q.2 := by decide +kernel
set_option maxRecDepth 100000 in
theorem mk_X7_goOnFrom : bmok TW cls_ MT M_X7_goOnFrom := ⟨(TW_mk (tl_6 _ (List.mem_of_getElem? (i := 198) rfl)) rfl), (TW_mk (tl_1 _ (List.mem_of_getElem? (i := 12) rfl)) rfl), by decide +kernel, ⟨by decide +kernel, by decide +kernel, by decide +kernel⟩, fun h => absurd h (by decide), fun _ => ⟨(TW_mk (tl_6 _ (List.mem_of_getElem? (i := 196) rfl)) rfl), (TW_mk (tl_6 _ (List.mem_of_getElem? (i := 197) rfl)) rfl), TX7, 4, rfl⟩, tk_X7_goOnFrom, pk_X7, by decide⟩
set_option maxRecDepth 100000 in
theorem tk_X8_withLetter : ∀ q ∈ tab_X8_withLetter, decode cX8_withLetter q.1 = .ok q.2 := by decide +kernel
set_option maxRecDepth 100000 in
theorem mk_X8_withLetter : bmok TW cls_ MT M_X8_withLetter := ⟨(TW_mk (tl_2 _ (List.mem_of_getElem? (i := 1) rfl)) rfl), (TW_mk (tl_1 _ (List.mem_of_getElem? (i := 6) rfl)) rfl), by decide +kernel, ⟨by decide +kernel, by decide +kernel, by decide +kernel⟩, fun _ => (TW_mk (tl_2 _ (List.mem_of_getElem? (i := 0) rfl)) rfl), fun h => absurd h (by decide), tk_X8_withLetter, pk_X8, by decide⟩
set_option maxRecDepth 100000 in
theorem tk_X8_isLetter : ∀ q ∈ tab_X8_isLetter, decode cX8_isLetter q.1 = .ok q.2 := by decide +kernel
set_option maxRecDepth 100000 in
theorem mk_X8_isLetter : bmok TW cls_ MT M_X8_isLetter := ⟨(TW_mk (tl_3 _ (List.mem_of_getElem? (i := 156) rfl)) rfl), (TW_mk (tl_1 _ (List.mem_of_getElem? (i := 6) rfl)) rfl), by decide +kernel, ⟨by decide +kernel, by decide +kernel, by decide +kernel⟩, fun _ => (TW_mk (tl_3 _ (List.mem_of_getElem? (i := 155) rfl)) rfl), fun h => absurd h (by decide), tk_X8_isLetter, pk_X8, by decide⟩
set_option maxRecDepth 100000 in
theorem tk_X8_isDigit : ∀ q ∈ tab_X8_isDigit, decode cX8_isDigit q.1 = .ok q.2 := by decide +kernel
set_option maxRecDepth 100000 in
theorem mk_X8_isDigit : bmok TW cls_ MT M_X8_isDigit := ⟨(TW_mk (tl_3 _ (List.mem_of_getElem? (i := 167) rfl)) rfl), (TW_mk (tl_1 _ (List.mem_of_getElem? (i := 6) rfl)) rfl), by decide +kernel, ⟨by decide +kernel, by decide +kernel, by decide +kernel⟩, fun _ => (TW_mk (tl_3 _ (List.mem_of_getElem? (i := 166) rfl)) rfl), fun h => absurd h (by decide), tk_X8_isDigit, pk_X8, by decide⟩
set_option maxRecDepth 100000 in
theorem tk_X8_isBlank : ∀ q ∈ tab_X8_isBlank, decode cX8_isBlank q.1 = .ok q.2 := by decide +kernel
set_option maxRecDepth 100000 in
theorem mk_X8_isBlank : bmok TW cls_ MT M_X8_isBlank := ⟨(TW_mk (tl_3 _ (List.mem_of_getElem? (i := 145) rfl)) rfl), (TW_mk (tl_1 _ (List.mem_of_getElem? (i := 6) rfl)) rfl), by decide +kernel, ⟨by decide +kernel, by decide +kernel, by decide +kernel⟩, fun _ => (TW_mk (tl_3 _ (List.mem_of_getElem? (i := 144) rfl)) rfl), fun h => absurd h (by decide), tk_X8_isBlank, pk_X8, by decide⟩
set_option maxRecDepth 100000 in
theorem tk_X8_cut : ∀ q ∈ tab_X8_cut, decode cX8_cut q.1 = .ok q.2 := by decide +kernel
set_option maxRecDepth 100000 in
theorem mk_X8_cut : bmok TW cls_ MT M_X8_cut := ⟨(TW_mk (tl_3 _ (List.mem_of_getElem? (i := 135) rfl)) rfl), (TW_mk (tl_1 _ (List.mem_of_getElem? (i := 6) rfl)) rfl), by decide +kernel, ⟨by decide +kernel, by decide +kernel, by decide +kernel⟩, fun h => absurd h (by decide), fun _ => ⟨(TW_mk (tl_3 _ (List.mem_of_getElem? (i := 133) rfl)) rfl), (TW_mk (tl_3 _ (List.mem_of_getElem? (i := 134) rfl)) rfl), TX8, 6, rfl⟩, tk_X8_cut, pk_X8, by decide⟩
set_option maxRecDepth 100000 in
theorem tk_X8_pastBlanks : ∀ q ∈ tab_X8_pastBlanks, decode cX8_pastBlanks q.1 = .ok q.2 := by decide +kernel
set_option maxRecDepth 100000 in
theorem mk_X8_pastBlanks : bmok TW cls_ MT M_X8_pastBlanks := ⟨(TW_mk (tl_3 _ (List.mem_of_getElem? (i := 142) rfl)) rfl), (TW_mk (tl_1 _ (List.mem_of_getElem? (i := 6) rfl)) rfl), by decide +kernel, ⟨by decide +kernel, by decide +kernel, by decide +kernel⟩, fun h => absurd h (by decide), fun _ => ⟨(TW_mk (tl_3 _ (List.mem_of_getElem? (i := 141) rfl)) rfl), (TW_mk (tp_1 (n := 6) (List.mem_of_getElem? (i := 2) rfl)) rfl), TX8, 6, rfl⟩, tk_X8_pastBlanks, pk_X8, by decide⟩
set_option maxRecDepth 100000 in
theorem tk_X8_cutOne : ∀ q ∈ tab_X8_cutOne, decode cX8_cutOne q.1 = .ok q.2 := by decide +kernel
set_option maxRecDepth 100000 in
theorem mk_X8_cutOne : bmok TW cls_ MT M_X8_cutOne := ⟨(TW_mk (tl_3 _ (List.mem_of_getElem? (i := 149) rfl)) rfl), (TW_mk (tl_1 _ (List.mem_of_getElem? (i := 6) rfl)) rfl), by decide +kernel, ⟨by decide +kernel, by decide +kernel, by decide +kernel⟩, fun h => absurd h (by decide), fun _ => ⟨(TW_mk (tl_3 _ (List.mem_of_getElem? (i := 148) rfl)) rfl), (TW_mk (tp_1 (n := 6) (List.mem_of_getElem? (i := 3) rfl)) rfl), TX8, 6, rfl⟩, tk_X8_cutOne, pk_X8, by decide⟩
set_option maxRecDepth 100000 in
theorem tk_X8_cutWord : ∀ q ∈ tab_X8_cutWord, decode cX8_cutWord q.1 = .ok q.2 := by decide +kernel
set_option maxRecDepth 100000 in
theorem mk_X8_cutWord : bmok TW cls_ MT M_X8_cutWord := ⟨(TW_mk (tl_3 _ (List.mem_of_getElem? (i := 160) rfl)) rfl), (TW_mk (tl_1 _ (List.mem_of_getElem? (i := 6) rfl)) rfl), by decide +kernel, ⟨by decide +kernel, by decide +kernel, by decide +kernel⟩, fun h => absurd h (by decide), fun _ => ⟨(TW_mk (tl_3 _ (List.mem_of_getElem? (i := 159) rfl)) rfl), (TW_mk (tp_1 (n := 6) (List.mem_of_getElem? (i := 5) rfl)) rfl), TX8, 6, rfl⟩, tk_X8_cutWord, pk_X8, by decide⟩
set_option maxRecDepth 100000 in
theorem tk_X8_cutInt : ∀ q ∈ tab_X8_cutInt, decode cX8_cutInt q.1 = .ok q.2 := by decide +kernel
set_option maxRecDepth 100000 in
theorem mk_X8_cutInt : bmok TW cls_ MT M_X8_cutInt := ⟨(TW_mk (tl_3 _ (List.mem_of_getElem? (i := 171) rfl)) rfl), (TW_mk (tl_1 _ (List.mem_of_getElem? (i := 6) rfl)) rfl), by decide +kernel, ⟨by decide +kernel, by decide +kernel, by decide +kernel⟩, fun h => absurd h (by decide), fun _ => ⟨(TW_mk (tl_3 _ (List.mem_of_getElem? (i := 170) rfl)) rfl), (TW_mk (tp_1 (n := 6) (List.mem_of_getElem? (i := 7) rfl)) rfl), TX8, 6, rfl⟩, tk_X8_cutInt, pk_X8, by decide⟩
set_option maxRecDepth 100000 in
theorem tk_X8_kindOfWord : ∀ q ∈ tab_X8_kindOfWord, decode cX8_kindOfWord q.1 = .ok q.2 := by decide +kernel
set_option maxRecDepth 100000 in
theorem mk_X8_kindOfWord : bmok TW cls_ MT M_X8_kindOfWord := ⟨(TW_mk (tl_3 _ (List.mem_of_getElem? (i := 164) rfl)) rfl), (TW_mk (tl_1 _ (List.mem_of_getElem? (i := 6) rfl)) rfl), by decide +kernel, ⟨by decide +kernel, by decide +kernel, by decide +kernel⟩, fun h => absurd h (by decide), fun _ => ⟨(TW_mk (tl_3 _ (List.mem_of_getElem? (i := 163) rfl)) rfl), (TW_mk (tp_1 (n := 6) (List.mem_of_getElem? (i := 6) rfl)) rfl), TX8, 6, rfl⟩, tk_X8_kindOfWord, pk_X8, by decide⟩
set_option maxRecDepth 100000 in
theorem tk_X8_signOf : ∀ q ∈ tab_X8_signOf, decode cX8_signOf q.1 = .ok q.2 := by decide +kernel
set_option maxRecDepth 100000 in
theorem mk_X8_signOf : bmok TW cls_ MT M_X8_signOf := ⟨(TW_mk (tl_3 _ (List.mem_of_getElem? (i := 174) rfl)) rfl), (TW_mk (tl_1 _ (List.mem_of_getElem? (i := 6) rfl)) rfl), by decide +kernel, ⟨by decide +kernel, by decide +kernel, by decide +kernel⟩, fun _ => (TW_mk (tl_3 _ (List.mem_of_getElem? (i := 173) rfl)) rfl), fun h => absurd h (by decide), tk_X8_signOf, pk_X8, by decide⟩
set_option maxRecDepth 100000 in
theorem tk_X8_put : ∀ q ∈ tab_X8_put, decode cX8_put q.1 = .ok q.2 := by decide +kernel
set_option maxRecDepth 100000 in
theorem mk_X8_put : bmok TW cls_ MT M_X8_put := ⟨(TW_mk (tl_3 _ (List.mem_of_getElem? (i := 153) rfl)) rfl), (TW_mk (tl_1 _ (List.mem_of_getElem? (i := 6) rfl)) rfl), by decide +kernel, ⟨by decide +kernel, by decide +kernel, by decide +kernel⟩, fun h => absurd h (by decide), fun _ => ⟨(TW_mk (tl_3 _ (List.mem_of_getElem? (i := 152) rfl)) rfl), (TW_mk (tp_1 (n := 6) (List.mem_of_getElem? (i := 4) rfl)) rfl), TX8, 6, rfl⟩, tk_X8_put, pk_X8, by decide⟩
set_option maxRecDepth 100000 in
theorem tk_X9_clear : ∀ q ∈ tab_X9_clear, decode cX9_clear q.1 = .ok q.2 := by decide +kernel
set_option maxRecDepth 100000 in
theorem mk_X9_clear : bmok TW cls_ MT M_X9_clear := ⟨(TW_mk (tl_1 _ (List.mem_of_getElem? (i := 63) rfl)) rfl), (TW_mk (tl_1 _ (List.mem_of_getElem? (i := 2) rfl)) rfl), by decide +kernel, ⟨by decide +kernel, by decide +kernel, by decide +kernel⟩, fun h => absurd h (by decide), fun _ => ⟨(TW_mk (tl_1 _ (List.mem_of_getElem? (i := 61) rfl)) rfl), (TW_mk (tl_1 _ (List.mem_of_getElem? (i := 62) rfl)) rfl), TX9, 20, rfl⟩, tk_X9_clear, pk_X9, by decide⟩
set_option maxRecDepth 100000 in
theorem tk_X9_addPath : ∀ q ∈ tab_X9_addPath, decode cX9_addPath q.1 = .ok q.2 := by decide +kernel
set_option maxRecDepth 100000 in
theorem mk_X9_addPath : bmok TW cls_ MT M_X9_addPath := ⟨(TW_mk (tl_3 _ (List.mem_of_getElem? (i := 219) rfl)) rfl), (TW_mk (tl_1 _ (List.mem_of_getElem? (i := 2) rfl)) rfl), by decide +kernel, ⟨by decide +kernel, by decide +kernel, by decide +kernel⟩, fun h => absurd h (by decide), fun _ => ⟨(TW_mk (tl_3 _ (List.mem_of_getElem? (i := 217) rfl)) rfl), (TW_mk (tl_3 _ (List.mem_of_getElem? (i := 218) rfl)) rfl), TX9, 20, rfl⟩, tk_X9_addPath, pk_X9, by decide⟩
set_option maxRecDepth 100000 in
theorem tk_X9_addBridge : ∀ q ∈ tab_X9_addBridge, decode cX9_addBridge q.1 = .ok q.2 := by decide +kernel
set_option maxRecDepth 100000 in
theorem mk_X9_addBridge : bmok TW cls_ MT M_X9_addBridge := ⟨(TW_mk (tl_3 _ (List.mem_of_getElem? (i := 231) rfl)) rfl), (TW_mk (tl_1 _ (List.mem_of_getElem? (i := 2) rfl)) rfl), by decide +kernel, ⟨by decide +kernel, by decide +kernel, by decide +kernel⟩, fun h => absurd h (by decide), fun _ => ⟨(TW_mk (tl_3 _ (List.mem_of_getElem? (i := 229) rfl)) rfl), (TW_mk (tl_3 _ (List.mem_of_getElem? (i := 230) rfl)) rfl), TX9, 20, rfl⟩, tk_X9_addBridge, pk_X9, by decide⟩
set_option maxRecDepth 100000 in
theorem tk_X9_addMan : ∀ q ∈ tab_X9_addMan, decode cX9_addMan q.1 = .ok q.2 := by decide +kernel
set_option maxRecDepth 100000 in
theorem mk_X9_addMan : bmok TW cls_ MT M_X9_addMan := ⟨(TW_mk (tl_3 _ (List.mem_of_getElem? (i := 239) rfl)) rfl), (TW_mk (tl_1 _ (List.mem_of_getElem? (i := 2) rfl)) rfl), by decide +kernel, ⟨by decide +kernel, by decide +kernel, by decide +kernel⟩, fun h => absurd h (by decide), fun _ => ⟨(TW_mk (tl_3 _ (List.mem_of_getElem? (i := 237) rfl)) rfl), (TW_mk (tl_3 _ (List.mem_of_getElem? (i := 238) rfl)) rfl), TX9, 20, rfl⟩, tk_X9_addMan, pk_X9, by decide⟩
set_option maxRecDepth 100000 in
theorem tk_X9_pathHours : ∀ q ∈ tab_X9_pathHours, decode cX9_pathHours q.1 = .ok q.2 := by decide +kernel
set_option maxRecDepth 100000 in
theorem mk_X9_pathHours : bmok TW cls_ MT M_X9_pathHours := ⟨(TW_mk (tl_3 _ (List.mem_of_getElem? (i := 223) rfl)) rfl), (TW_mk (tl_1 _ (List.mem_of_getElem? (i := 2) rfl)) rfl), by decide +kernel, ⟨by decide +kernel, by decide +kernel, by decide +kernel⟩, fun h => absurd h (by decide), fun _ => ⟨(TW_mk (tl_3 _ (List.mem_of_getElem? (i := 221) rfl)) rfl), (TW_mk (tl_3 _ (List.mem_of_getElem? (i := 222) rfl)) rfl), TX9, 20, rfl⟩, tk_X9_pathHours, pk_X9, by decide⟩
set_option maxRecDepth 100000 in
theorem tk_X10_search : ∀ q ∈ tab_X10_search, decode cX10_search q.1 = .ok q.2 := by decide +kernel
set_option maxRecDepth 100000 in
theorem mk_X10_search : bmok TW cls_ MT M_X10_search := ⟨(TW_mk (tl_5 _ (List.mem_of_getElem? (i := 61) rfl)) rfl), (TW_mk (tl_1 _ (List.mem_of_getElem? (i := 13) rfl)) rfl), by decide +kernel, ⟨by decide +kernel, by decide +kernel, by decide +kernel⟩, fun h => absurd h (by decide), fun _ => ⟨(TW_mk (tl_5 _ (List.mem_of_getElem? (i := 59) rfl)) rfl), (TW_mk (tl_5 _ (List.mem_of_getElem? (i := 60) rfl)) rfl), TX10, 2, rfl⟩, tk_X10_search, pk_X10, by decide⟩
set_option maxRecDepth 100000 in
theorem tk_X10_nearest : ∀ q ∈ tab_X10_nearest, decode cX10_nearest q.1 = .ok q.2 := by decide +kernel
set_option maxRecDepth 100000 in
theorem mk_X10_nearest : bmok TW cls_ MT M_X10_nearest := ⟨(TW_mk (tl_5 _ (List.mem_of_getElem? (i := 67) rfl)) rfl), (TW_mk (tl_1 _ (List.mem_of_getElem? (i := 13) rfl)) rfl), by decide +kernel, ⟨by decide +kernel, by decide +kernel, by decide +kernel⟩, fun h => absurd h (by decide), fun _ => ⟨(TW_mk (tl_5 _ (List.mem_of_getElem? (i := 66) rfl)) rfl), (TW_mk (tp_3 (n := 2) (List.mem_of_getElem? (i := 8) rfl)) rfl), TX10, 2, rfl⟩, tk_X10_nearest, pk_X10, by decide⟩
set_option maxRecDepth 100000 in
theorem tk_X10_goByPaths : ∀ q ∈ tab_X10_goByPaths, decode cX10_goByPaths q.1 = .ok q.2 := by decide +kernel
set_option maxRecDepth 100000 in
theorem mk_X10_goByPaths : bmok TW cls_ MT M_X10_goByPaths := ⟨(TW_mk (tl_5 _ (List.mem_of_getElem? (i := 71) rfl)) rfl), (TW_mk (tl_1 _ (List.mem_of_getElem? (i := 13) rfl)) rfl), by decide +kernel, ⟨by decide +kernel, by decide +kernel, by decide +kernel⟩, fun h => absurd h (by decide), fun _ => ⟨(TW_mk (tl_5 _ (List.mem_of_getElem? (i := 70) rfl)) rfl), (TW_mk (tp_3 (n := 2) (List.mem_of_getElem? (i := 9) rfl)) rfl), TX10, 2, rfl⟩, tk_X10_goByPaths, pk_X10, by decide⟩
set_option maxRecDepth 100000 in
theorem tk_X10_goByBridges : ∀ q ∈ tab_X10_goByBridges, decode cX10_goByBridges q.1 = .ok q.2 := by decide +kernel
set_option maxRecDepth 100000 in
theorem mk_X10_goByBridges : bmok TW cls_ MT M_X10_goByBridges := ⟨(TW_mk (tl_5 _ (List.mem_of_getElem? (i := 81) rfl)) rfl), (TW_mk (tl_1 _ (List.mem_of_getElem? (i := 13) rfl)) rfl), by decide +kernel, ⟨by decide +kernel, by decide +kernel, by decide +kernel⟩, fun h => absurd h (by decide), fun _ => ⟨(TW_mk (tl_5 _ (List.mem_of_getElem? (i := 80) rfl)) rfl), (TW_mk (tp_3 (n := 2) (List.mem_of_getElem? (i := 11) rfl)) rfl), TX10, 2, rfl⟩, tk_X10_goByBridges, pk_X10, by decide⟩
set_option maxRecDepth 100000 in
theorem tk_X10_come : ∀ q ∈ tab_X10_come, decode cX10_come q.1 = .ok q.2 := by decide +kernel
set_option maxRecDepth 100000 in
theorem mk_X10_come : bmok TW cls_ MT M_X10_come := ⟨(TW_mk (tl_5 _ (List.mem_of_getElem? (i := 76) rfl)) rfl), (TW_mk (tl_1 _ (List.mem_of_getElem? (i := 13) rfl)) rfl), by decide +kernel, ⟨by decide +kernel, by decide +kernel, by decide +kernel⟩, fun h => absurd h (by decide), fun _ => ⟨(TW_mk (tl_5 _ (List.mem_of_getElem? (i := 75) rfl)) rfl), (TW_mk (tp_3 (n := 2) (List.mem_of_getElem? (i := 10) rfl)) rfl), TX10, 2, rfl⟩, tk_X10_come, pk_X10, by decide⟩
set_option maxRecDepth 100000 in
theorem tk_X10_costTo : ∀ q ∈ tab_X10_costTo, decode cX10_costTo q.1 = .ok q.2 := by decide +kernel
set_option maxRecDepth 100000 in
theorem mk_X10_costTo : bmok TW cls_ MT M_X10_costTo := ⟨(TW_mk (tl_5 _ (List.mem_of_getElem? (i := 89) rfl)) rfl), (TW_mk (tl_1 _ (List.mem_of_getElem? (i := 13) rfl)) rfl), by decide +kernel, ⟨by decide +kernel, by decide +kernel, by decide +kernel⟩, fun h => absurd h (by decide), fun _ => ⟨(TW_mk (tl_5 _ (List.mem_of_getElem? (i := 88) rfl)) rfl), (TW_mk (tp_3 (n := 2) (List.mem_of_getElem? (i := 12) rfl)) rfl), TX10, 2, rfl⟩, tk_X10_costTo, pk_X10, by decide⟩
set_option maxRecDepth 100000 in
theorem tk_X10_hoursTo : ∀ q ∈ tab_X10_hoursTo, decode cX10_hoursTo q.1 = .ok q.2 := by decide +kernel
set_option maxRecDepth 100000 in
theorem mk_X10_hoursTo : bmok TW cls_ MT M_X10_hoursTo := ⟨(TW_mk (tl_5 _ (List.mem_of_getElem? (i := 85) rfl)) rfl), (TW_mk (tl_1 _ (List.mem_of_getElem? (i := 13) rfl)) rfl), by decide +kernel, ⟨by decide +kernel, by decide +kernel, by decide +kernel⟩, fun h => absurd h (by decide), fun _ => ⟨(TW_mk (tl_5 _ (List.mem_of_getElem? (i := 83) rfl)) rfl), (TW_mk (tl_5 _ (List.mem_of_getElem? (i := 84) rfl)) rfl), TX10, 2, rfl⟩, tk_X10_hoursTo, pk_X10, by decide⟩
set_option maxRecDepth 100000 in
theorem tk_X10_crossingsTo : ∀ q ∈ tab_X10_crossingsTo, decode cX10_crossingsTo q.1 = .ok q.2 := by decide +kernel
set_option maxRecDepth 100000 in
theorem mk_X10_crossingsTo : bmok TW cls_ MT M_X10_crossingsTo := ⟨(TW_mk (tl_5 _ (List.mem_of_getElem? (i := 93) rfl)) rfl), (TW_mk (tl_1 _ (List.mem_of_getElem? (i := 13) rfl)) rfl), by decide +kernel, ⟨by decide +kernel, by decide +kernel, by decide +kernel⟩, fun h => absurd h (by decide), fun _ => ⟨(TW_mk (tl_5 _ (List.mem_of_getElem? (i := 91) rfl)) rfl), (TW_mk (tl_5 _ (List.mem_of_getElem? (i := 92) rfl)) rfl), TX10, 2, rfl⟩, tk_X10_crossingsTo, pk_X10, by decide⟩
set_option maxRecDepth 100000 in
theorem tk_X10_within : ∀ q ∈ tab_X10_within, decode cX10_within q.1 = .ok q.2 := by decide +kernel
set_option maxRecDepth 100000 in
theorem mk_X10_within : bmok TW cls_ MT M_X10_within := ⟨(TW_mk (tl_5 _ (List.mem_of_getElem? (i := 101) rfl)) rfl), (TW_mk (tl_1 _ (List.mem_of_getElem? (i := 13) rfl)) rfl), by decide +kernel, ⟨by decide +kernel, by decide +kernel, by decide +kernel⟩, fun h => absurd h (by decide), fun _ => ⟨(TW_mk (tl_5 _ (List.mem_of_getElem? (i := 99) rfl)) rfl), (TW_mk (tl_5 _ (List.mem_of_getElem? (i := 100) rfl)) rfl), TX10, 2, rfl⟩, tk_X10_within, pk_X10, by decide⟩
set_option maxRecDepth 100000 in
theorem tk_X11_feed : ∀ q ∈ tab_X11_feed, decode cX11_feed q.1 = .ok q.2 := by decide +kernel
set_option maxRecDepth 100000 in
theorem mk_X11_feed : bmok TW cls_ MT M_X11_feed := ⟨(TW_mk (tl_3 _ (List.mem_of_getElem? (i := 111) rfl)) rfl), (TW_mk (tl_1 _ (List.mem_of_getElem? (i := 1) rfl)) rfl), by decide +kernel, ⟨by decide +kernel, by decide +kernel, by decide +kernel⟩, fun h => absurd h (by decide), fun _ => ⟨(TW_mk (tl_3 _ (List.mem_of_getElem? (i := 109) rfl)) rfl), (TW_mk (tl_3 _ (List.mem_of_getElem? (i := 110) rfl)) rfl), TX11, 14, rfl⟩, tk_X11_feed, pk_X11, by decide⟩
set_option maxRecDepth 100000 in
theorem tk_X11_putBytes : ∀ q ∈ tab_X11_putBytes, decode cX11_putBytes q.1 = .ok q.2 := by decide +kernel
set_option maxRecDepth 100000 in
theorem mk_X11_putBytes : bmok TW cls_ MT M_X11_putBytes := ⟨(TW_mk (tl_3 _ (List.mem_of_getElem? (i := 115) rfl)) rfl), (TW_mk (tl_1 _ (List.mem_of_getElem? (i := 1) rfl)) rfl), by decide +kernel, ⟨by decide +kernel, by decide +kernel, by decide +kernel⟩, fun h => absurd h (by decide), fun _ => ⟨(TW_mk (tl_3 _ (List.mem_of_getElem? (i := 114) rfl)) rfl), (TW_mk (tp_1 (n := 14) (List.mem_of_getElem? (i := 0) rfl)) rfl), TX11, 14, rfl⟩, tk_X11_putBytes, pk_X11, by decide⟩
set_option maxRecDepth 100000 in
theorem tk_X11_back : ∀ q ∈ tab_X11_back, decode cX11_back q.1 = .ok q.2 := by decide +kernel
set_option maxRecDepth 100000 in
theorem mk_X11_back : bmok TW cls_ MT M_X11_back := ⟨(TW_mk (tl_3 _ (List.mem_of_getElem? (i := 119) rfl)) rfl), (TW_mk (tl_1 _ (List.mem_of_getElem? (i := 1) rfl)) rfl), by decide +kernel, ⟨by decide +kernel, by decide +kernel, by decide +kernel⟩, fun h => absurd h (by decide), fun _ => ⟨(TW_mk (tl_3 _ (List.mem_of_getElem? (i := 117) rfl)) rfl), (TW_mk (tl_3 _ (List.mem_of_getElem? (i := 118) rfl)) rfl), TX11, 14, rfl⟩, tk_X11_back, pk_X11, by decide⟩
set_option maxRecDepth 100000 in
theorem tk_X11_read : ∀ q ∈ tab_X11_read, decode cX11_read q.1 = .ok q.2 := by decide +kernel
set_option maxRecDepth 100000 in
theorem mk_X11_read : bmok TW cls_ MT M_X11_read := ⟨(TW_mk (tl_3 _ (List.mem_of_getElem? (i := 123) rfl)) rfl), (TW_mk (tl_1 _ (List.mem_of_getElem? (i := 1) rfl)) rfl), by decide +kernel, ⟨by decide +kernel, by decide +kernel, by decide +kernel⟩, fun h => absurd h (by decide), fun _ => ⟨(TW_mk (tl_3 _ (List.mem_of_getElem? (i := 121) rfl)) rfl), (TW_mk (tl_3 _ (List.mem_of_getElem? (i := 122) rfl)) rfl), TX11, 14, rfl⟩, tk_X11_read, pk_X11, by decide⟩
set_option maxRecDepth 100000 in
theorem tk_X11_place : ∀ q ∈ tab_X11_place, decode cX11_place q.1 = .ok q.2 := by decide +kernel
set_option maxRecDepth 100000 in
theorem mk_X11_place : bmok TW cls_ MT M_X11_place := ⟨(TW_mk (tl_4 _ (List.mem_of_getElem? (i := 66) rfl)) rfl), (TW_mk (tl_1 _ (List.mem_of_getElem? (i := 1) rfl)) rfl), by decide +kernel, ⟨by decide +kernel, by decide +kernel, by decide +kernel⟩, fun h => absurd h (by decide), fun _ => ⟨(TW_mk (tl_4 _ (List.mem_of_getElem? (i := 64) rfl)) rfl), (TW_mk (tl_4 _ (List.mem_of_getElem? (i := 65) rfl)) rfl), TX11, 14, rfl⟩, tk_X11_place, pk_X11, by decide⟩
set_option maxRecDepth 100000 in
theorem tk_X11_isBank : ∀ q ∈ tab_X11_isBank, decode cX11_isBank q.1 = .ok q.2 := by decide +kernel
set_option maxRecDepth 100000 in
theorem mk_X11_isBank : bmok TW cls_ MT M_X11_isBank := ⟨(TW_mk (tl_4 _ (List.mem_of_getElem? (i := 74) rfl)) rfl), (TW_mk (tl_1 _ (List.mem_of_getElem? (i := 1) rfl)) rfl), by decide +kernel, ⟨by decide +kernel, by decide +kernel, by decide +kernel⟩, fun h => absurd h (by decide), fun _ => ⟨(TW_mk (tl_4 _ (List.mem_of_getElem? (i := 73) rfl)) rfl), (TW_mk (tp_2 (n := 14) (List.mem_of_getElem? (i := 13) rfl)) rfl), TX11, 14, rfl⟩, tk_X11_isBank, pk_X11, by decide⟩
set_option maxRecDepth 100000 in
theorem tk_X11_isBridge : ∀ q ∈ tab_X11_isBridge, decode cX11_isBridge q.1 = .ok q.2 := by decide +kernel
set_option maxRecDepth 100000 in
theorem mk_X11_isBridge : bmok TW cls_ MT M_X11_isBridge := ⟨(TW_mk (tl_4 _ (List.mem_of_getElem? (i := 86) rfl)) rfl), (TW_mk (tl_1 _ (List.mem_of_getElem? (i := 1) rfl)) rfl), by decide +kernel, ⟨by decide +kernel, by decide +kernel, by decide +kernel⟩, fun h => absurd h (by decide), fun _ => ⟨(TW_mk (tl_4 _ (List.mem_of_getElem? (i := 85) rfl)) rfl), (TW_mk (tp_2 (n := 14) (List.mem_of_getElem? (i := 14) rfl)) rfl), TX11, 14, rfl⟩, tk_X11_isBridge, pk_X11, by decide⟩
set_option maxRecDepth 100000 in
theorem tk_X11_isMan : ∀ q ∈ tab_X11_isMan, decode cX11_isMan q.1 = .ok q.2 := by decide +kernel
set_option maxRecDepth 100000 in
theorem mk_X11_isMan : bmok TW cls_ MT M_X11_isMan := ⟨(TW_mk (tl_4 _ (List.mem_of_getElem? (i := 101) rfl)) rfl), (TW_mk (tl_1 _ (List.mem_of_getElem? (i := 1) rfl)) rfl), by decide +kernel, ⟨by decide +kernel, by decide +kernel, by decide +kernel⟩, fun h => absurd h (by decide), fun _ => ⟨(TW_mk (tl_4 _ (List.mem_of_getElem? (i := 100) rfl)) rfl), (TW_mk (tp_2 (n := 14) (List.mem_of_getElem? (i := 15) rfl)) rfl), TX11, 14, rfl⟩, tk_X11_isMan, pk_X11, by decide⟩
set_option maxRecDepth 100000 in
theorem tk_X11_orNot : ∀ q ∈ tab_X11_orNot, decode cX11_orNot q.1 = .ok q.2 := by decide +kernel
set_option maxRecDepth 100000 in
theorem mk_X11_orNot : bmok TW cls_ MT M_X11_orNot := ⟨(TW_mk (tl_4 _ (List.mem_of_getElem? (i := 89) rfl)) rfl), (TW_mk (tl_1 _ (List.mem_of_getElem? (i := 1) rfl)) rfl), by decide +kernel, ⟨by decide +kernel, by decide +kernel, by decide +kernel⟩, fun _ => (TW_mk (tl_4 _ (List.mem_of_getElem? (i := 88) rfl)) rfl), fun h => absurd h (by decide), tk_X11_orNot, pk_X11, by decide⟩
set_option maxRecDepth 100000 in
theorem tk_X11_bank : ∀ q ∈ tab_X11_bank, decode cX11_bank q.1 = .ok q.2 := by decide +kernel
set_option maxRecDepth 100000 in
theorem mk_X11_bank : bmok TW cls_ MT M_X11_bank := ⟨(TW_mk (tl_4 _ (List.mem_of_getElem? (i := 70) rfl)) rfl), (TW_mk (tl_1 _ (List.mem_of_getElem? (i := 1) rfl)) rfl), by decide +kernel, ⟨by decide +kernel, by decide +kernel, by decide +kernel⟩, fun h => absurd h (by decide), fun _ => ⟨(TW_mk (tl_4 _ (List.mem_of_getElem? (i := 68) rfl)) rfl), (TW_mk (tl_4 _ (List.mem_of_getElem? (i := 69) rfl)) rfl), TX11, 14, rfl⟩, tk_X11_bank, pk_X11, by decide⟩
set_option maxRecDepth 100000 in
theorem tk_X11_bridge : ∀ q ∈ tab_X11_bridge, decode cX11_bridge q.1 = .ok q.2 := by decide +kernel
set_option maxRecDepth 100000 in
theorem mk_X11_bridge : bmok TW cls_ MT M_X11_bridge := ⟨(TW_mk (tl_4 _ (List.mem_of_getElem? (i := 82) rfl)) rfl), (TW_mk (tl_1 _ (List.mem_of_getElem? (i := 1) rfl)) rfl), by decide +kernel, ⟨by decide +kernel, by decide +kernel, by decide +kernel⟩, fun h => absurd h (by decide), fun _ => ⟨(TW_mk (tl_4 _ (List.mem_of_getElem? (i := 80) rfl)) rfl), (TW_mk (tl_4 _ (List.mem_of_getElem? (i := 81) rfl)) rfl), TX11, 14, rfl⟩, tk_X11_bridge, pk_X11, by decide⟩
set_option maxRecDepth 100000 in
theorem tk_X11_man : ∀ q ∈ tab_X11_man, decode cX11_man q.1 = .ok q.2 := by decide +kernel
set_option maxRecDepth 100000 in
theorem mk_X11_man : bmok TW cls_ MT M_X11_man := ⟨(TW_mk (tl_4 _ (List.mem_of_getElem? (i := 97) rfl)) rfl), (TW_mk (tl_1 _ (List.mem_of_getElem? (i := 1) rfl)) rfl), by decide +kernel, ⟨by decide +kernel, by decide +kernel, by decide +kernel⟩, fun h => absurd h (by decide), fun _ => ⟨(TW_mk (tl_4 _ (List.mem_of_getElem? (i := 95) rfl)) rfl), (TW_mk (tl_4 _ (List.mem_of_getElem? (i := 96) rfl)) rfl), TX11, 14, rfl⟩, tk_X11_man, pk_X11, by decide⟩
set_option maxRecDepth 100000 in
theorem tk_X11_wish : ∀ q ∈ tab_X11_wish, decode cX11_wish q.1 = .ok q.2 := by decide +kernel
set_option maxRecDepth 100000 in
theorem mk_X11_wish : bmok TW cls_ MT M_X11_wish := ⟨(TW_mk (tl_4 _ (List.mem_of_getElem? (i := 105) rfl)) rfl), (TW_mk (tl_1 _ (List.mem_of_getElem? (i := 1) rfl)) rfl), by decide +kernel, ⟨by decide +kernel, by decide +kernel, by decide +kernel⟩, fun h => absurd h (by decide), fun _ => ⟨(TW_mk (tl_4 _ (List.mem_of_getElem? (i := 103) rfl)) rfl), (TW_mk (tl_4 _ (List.mem_of_getElem? (i := 104) rfl)) rfl), TX11, 14, rfl⟩, tk_X11_wish, pk_X11, by decide⟩
set_option maxRecDepth 100000 in
theorem tk_X11_toll : ∀ q ∈ tab_X11_toll, decode cX11_toll q.1 = .ok q.2 := by decide +kernel
set_option maxRecDepth 100000 in
theorem mk_X11_toll : bmok TW cls_ MT M_X11_toll := ⟨(TW_mk (tl_4 _ (List.mem_of_getElem? (i := 129) rfl)) rfl), (TW_mk (tl_1 _ (List.mem_of_getElem? (i := 1) rfl)) rfl), by decide +kernel, ⟨by decide +kernel, by decide +kernel, by decide +kernel⟩, fun h => absurd h (by decide), fun _ => ⟨(TW_mk (tl_4 _ (List.mem_of_getElem? (i := 127) rfl)) rfl), (TW_mk (tl_4 _ (List.mem_of_getElem? (i := 128) rfl)) rfl), TX11, 14, rfl⟩, tk_X11_toll, pk_X11, by decide⟩
set_option maxRecDepth 100000 in
theorem tk_X11_cross : ∀ q ∈ tab_X11_cross, decode cX11_cross q.1 = .ok q.2 := by decide +kernel
set_option maxRecDepth 100000 in
theorem mk_X11_cross : bmok TW cls_ MT M_X11_cross := ⟨(TW_mk (tl_4 _ (List.mem_of_getElem? (i := 142) rfl)) rfl), (TW_mk (tl_1 _ (List.mem_of_getElem? (i := 1) rfl)) rfl), by decide +kernel, ⟨by decide +kernel, by decide +kernel, by decide +kernel⟩, fun h => absurd h (by decide), fun _ => ⟨(TW_mk (tl_4 _ (List.mem_of_getElem? (i := 140) rfl)) rfl), (TW_mk (tl_4 _ (List.mem_of_getElem? (i := 141) rfl)) rfl), TX11, 14, rfl⟩, tk_X11_cross, pk_X11, by decide⟩
set_option maxRecDepth 100000 in
theorem tk_X11_pair : ∀ q ∈ tab_X11_pair, decode cX11_pair q.1 = .ok q.2 := by decide +kernel
set_option maxRecDepth 100000 in
theorem mk_X11_pair : bmok TW cls_ MT M_X11_pair := ⟨(TW_mk (tl_4 _ (List.mem_of_getElem? (i := 181) rfl)) rfl), (TW_mk (tl_1 _ (List.mem_of_getElem? (i := 1) rfl)) rfl), by decide +kernel, ⟨by decide +kernel, by decide +kernel, by decide +kernel⟩, fun h => absurd h (by decide), fun _ => ⟨(TW_mk (tl_4 _ (List.mem_of_getElem? (i := 179) rfl)) rfl), (TW_mk (tl_4 _ (List.mem_of_getElem? (i := 180) rfl)) rfl), TX11, 14, rfl⟩, tk_X11_pair, pk_X11, by decide⟩
set_option maxRecDepth 100000 in
theorem tk_X11_hire : ∀ q ∈ tab_X11_hire, decode cX11_hire q.1 = .ok q.2 := by decide +kernel
set_option maxRecDepth 100000 in
theorem mk_X11_hire : bmok TW cls_ MT M_X11_hire := ⟨(TW_mk (tl_4 _ (List.mem_of_getElem? (i := 189) rfl)) rfl), (TW_mk (tl_1 _ (List.mem_of_getElem? (i := 1) rfl)) rfl), by decide +kernel, ⟨by decide +kernel, by decide +kernel, by decide +kernel⟩, fun h => absurd h (by decide), fun _ => ⟨(TW_mk (tl_4 _ (List.mem_of_getElem? (i := 187) rfl)) rfl), (TW_mk (tl_4 _ (List.mem_of_getElem? (i := 188) rfl)) rfl), TX11, 14, rfl⟩, tk_X11_hire, pk_X11, by decide⟩
set_option maxRecDepth 100000 in
theorem tk_X11_walk : ∀ q ∈ tab_X11_walk, decode cX11_walk q.1 = .ok q.2 := by decide +kernel
set_option maxRecDepth 100000 in
theorem mk_X11_walk : bmok TW cls_ MT M_X11_walk := ⟨(TW_mk (tl_4 _ (List.mem_of_getElem? (i := 193) rfl)) rfl), (TW_mk (tl_1 _ (List.mem_of_getElem? (i := 1) rfl)) rfl), by decide +kernel, ⟨by decide +kernel, by decide +kernel, by decide +kernel⟩, fun h => absurd h (by decide), fun _ => ⟨(TW_mk (tl_4 _ (List.mem_of_getElem? (i := 191) rfl)) rfl), (TW_mk (tl_4 _ (List.mem_of_getElem? (i := 192) rfl)) rfl), TX11, 14, rfl⟩, tk_X11_walk, pk_X11, by decide⟩
set_option maxRecDepth 100000 in
theorem tk_X11_hours : ∀ q ∈ tab_X11_hours, decode cX11_hours q.1 = .ok q.2 := by decide +kernel
set_option maxRecDepth 100000 in
theorem mk_X11_hours : bmok TW cls_ MT M_X11_hours := ⟨(TW_mk (tl_4 _ (List.mem_of_getElem? (i := 198) rfl)) rfl), (TW_mk (tl_1 _ (List.mem_of_getElem? (i := 1) rfl)) rfl), by decide +kernel, ⟨by decide +kernel, by decide +kernel, by decide +kernel⟩, fun h => absurd h (by decide), fun _ => ⟨(TW_mk (tl_4 _ (List.mem_of_getElem? (i := 196) rfl)) rfl), (TW_mk (tl_4 _ (List.mem_of_getElem? (i := 197) rfl)) rfl), TX11, 14, rfl⟩, tk_X11_hours, pk_X11, by decide⟩
set_option maxRecDepth 100000 in
theorem tk_X11_rule : ∀ q ∈ tab_X11_rule, decode cX11_rule q.1 = .ok q.2 := by decide +kernel
set_option maxRecDepth 100000 in
theorem mk_X11_rule : bmok TW cls_ MT M_X11_rule := ⟨(TW_mk (tl_4 _ (List.mem_of_getElem? (i := 202) rfl)) rfl), (TW_mk (tl_1 _ (List.mem_of_getElem? (i := 1) rfl)) rfl), by decide +kernel, ⟨by decide +kernel, by decide +kernel, by decide +kernel⟩, fun h => absurd h (by decide), fun _ => ⟨(TW_mk (tl_4 _ (List.mem_of_getElem? (i := 200) rfl)) rfl), (TW_mk (tl_4 _ (List.mem_of_getElem? (i := 201) rfl)) rfl), TX11, 14, rfl⟩, tk_X11_rule, pk_X11, by decide⟩
set_option maxRecDepth 100000 in
theorem tk_X11_undo : ∀ q ∈ tab_X11_undo, decode cX11_undo q.1 = .ok q.2 := by decide +kernel
set_option maxRecDepth 100000 in
theorem mk_X11_undo : bmok TW cls_ MT M_X11_undo := ⟨(TW_mk (tl_4 _ (List.mem_of_getElem? (i := 225) rfl)) rfl), (TW_mk (tl_1 _ (List.mem_of_getElem? (i := 1) rfl)) rfl), by decide +kernel, ⟨by decide +kernel, by decide +kernel, by decide +kernel⟩, fun h => absurd h (by decide), fun _ => ⟨(TW_mk (tl_4 _ (List.mem_of_getElem? (i := 223) rfl)) rfl), (TW_mk (tl_4 _ (List.mem_of_getElem? (i := 224) rfl)) rfl), TX11, 14, rfl⟩, tk_X11_undo, pk_X11, by decide⟩
set_option maxRecDepth 100000 in
theorem tk_X11_homes : ∀ q ∈ tab_X11_homes, decode cX11_homes q.1 = .ok q.2 := by decide +kernel
set_option maxRecDepth 100000 in
theorem mk_X11_homes : bmok TW cls_ MT M_X11_homes := ⟨(TW_mk (tl_4 _ (List.mem_of_getElem? (i := 237) rfl)) rfl), (TW_mk (tl_1 _ (List.mem_of_getElem? (i := 1) rfl)) rfl), by decide +kernel, ⟨by decide +kernel, by decide +kernel, by decide +kernel⟩, fun h => absurd h (by decide), fun _ => ⟨(TW_mk (tl_4 _ (List.mem_of_getElem? (i := 235) rfl)) rfl), (TW_mk (tl_4 _ (List.mem_of_getElem? (i := 236) rfl)) rfl), TX11, 14, rfl⟩, tk_X11_homes, pk_X11, by decide⟩
set_option maxRecDepth 100000 in
theorem tk_X11_isFar : ∀ q ∈ tab_X11_isFar, decode cX11_isFar q.1 = .ok q.2 := by decide +kernel
set_option maxRecDepth 100000 in
theorem mk_X11_isFar : bmok TW cls_ MT M_X11_isFar := ⟨(TW_mk (tl_5 _ (List.mem_of_getElem? (i := 8) rfl)) rfl), (TW_mk (tl_1 _ (List.mem_of_getElem? (i := 1) rfl)) rfl), by decide +kernel, ⟨by decide +kernel, by decide +kernel, by decide +kernel⟩, fun _ => (TW_mk (tl_5 _ (List.mem_of_getElem? (i := 7) rfl)) rfl), fun h => absurd h (by decide), tk_X11_isFar, pk_X11, by decide⟩
set_option maxRecDepth 100000 in
theorem tk_X11_dreamHours : ∀ q ∈ tab_X11_dreamHours, decode cX11_dreamHours q.1 = .ok q.2 := by decide +kernel
set_option maxRecDepth 100000 in
theorem mk_X11_dreamHours : bmok TW cls_ MT M_X11_dreamHours := ⟨(TW_mk (tl_5 _ (List.mem_of_getElem? (i := 12) rfl)) rfl), (TW_mk (tl_1 _ (List.mem_of_getElem? (i := 1) rfl)) rfl), by decide +kernel, ⟨by decide +kernel, by decide +kernel, by decide +kernel⟩, fun h => absurd h (by decide), fun _ => ⟨(TW_mk (tl_5 _ (List.mem_of_getElem? (i := 11) rfl)) rfl), (TW_mk (tp_3 (n := 14) (List.mem_of_getElem? (i := 5) rfl)) rfl), TX11, 14, rfl⟩, tk_X11_dreamHours, pk_X11, by decide⟩
set_option maxRecDepth 100000 in
theorem tk_X11_where : ∀ q ∈ tab_X11_where, decode cX11_where q.1 = .ok q.2 := by decide +kernel
set_option maxRecDepth 100000 in
theorem mk_X11_where : bmok TW cls_ MT M_X11_where := ⟨(TW_mk (tl_5 _ (List.mem_of_getElem? (i := 5) rfl)) rfl), (TW_mk (tl_1 _ (List.mem_of_getElem? (i := 1) rfl)) rfl), by decide +kernel, ⟨by decide +kernel, by decide +kernel, by decide +kernel⟩, fun h => absurd h (by decide), fun _ => ⟨(TW_mk (tl_5 _ (List.mem_of_getElem? (i := 3) rfl)) rfl), (TW_mk (tl_5 _ (List.mem_of_getElem? (i := 4) rfl)) rfl), TX11, 14, rfl⟩, tk_X11_where, pk_X11, by decide⟩
set_option maxRecDepth 100000 in
theorem tk_X11_last : ∀ q ∈ tab_X11_last, decode cX11_last q.1 = .ok q.2 := by decide +kernel
set_option maxRecDepth 100000 in
theorem mk_X11_last : bmok TW cls_ MT M_X11_last := ⟨(TW_mk (tl_5 _ (List.mem_of_getElem? (i := 16) rfl)) rfl), (TW_mk (tl_1 _ (List.mem_of_getElem? (i := 1) rfl)) rfl), by decide +kernel, ⟨by decide +kernel, by decide +kernel, by decide +kernel⟩, fun h => absurd h (by decide), fun _ => ⟨(TW_mk (tl_5 _ (List.mem_of_getElem? (i := 14) rfl)) rfl), (TW_mk (tl_5 _ (List.mem_of_getElem? (i := 15) rfl)) rfl), TX11, 14, rfl⟩, tk_X11_last, pk_X11, by decide⟩
set_option maxRecDepth 100000 in
theorem tk_X11_coins : ∀ q ∈ tab_X11_coins, decode cX11_coins q.1 = .ok q.2 := by decide +kernel
set_option maxRecDepth 100000 in
theorem mk_X11_coins : bmok TW cls_ MT M_X11_coins := ⟨(TW_mk (tl_5 _ (List.mem_of_getElem? (i := 20) rfl)) rfl), (TW_mk (tl_1 _ (List.mem_of_getElem? (i := 1) rfl)) rfl), by decide +kernel, ⟨by decide +kernel, by decide +kernel, by decide +kernel⟩, fun h => absurd h (by decide), fun _ => ⟨(TW_mk (tl_5 _ (List.mem_of_getElem? (i := 18) rfl)) rfl), (TW_mk (tl_5 _ (List.mem_of_getElem? (i := 19) rfl)) rfl), TX11, 14, rfl⟩, tk_X11_coins, pk_X11, by decide⟩
set_option maxRecDepth 100000 in
theorem tk_X11_homeBy : ∀ q ∈ tab_X11_homeBy, decode cX11_homeBy q.1 = .ok q.2 := by decide +kernel
set_option maxRecDepth 100000 in
theorem mk_X11_homeBy : bmok TW cls_ MT M_X11_homeBy := ⟨(TW_mk (tl_5 _ (List.mem_of_getElem? (i := 28) rfl)) rfl), (TW_mk (tl_1 _ (List.mem_of_getElem? (i := 1) rfl)) rfl), by decide +kernel, ⟨by decide +kernel, by decide +kernel, by decide +kernel⟩, fun h => absurd h (by decide), fun _ => ⟨(TW_mk (tl_5 _ (List.mem_of_getElem? (i := 26) rfl)) rfl), (TW_mk (tl_5 _ (List.mem_of_getElem? (i := 27) rfl)) rfl), TX11, 14, rfl⟩, tk_X11_homeBy, pk_X11, by decide⟩
set_option maxRecDepth 100000 in
theorem tk_X11_allHome : ∀ q ∈ tab_X11_allHome, decode cX11_allHome q.1 = .ok q.2 := by decide +kernel
set_option maxRecDepth 100000 in
theorem mk_X11_allHome : bmok TW cls_ MT M_X11_allHome := ⟨(TW_mk (tl_5 _ (List.mem_of_getElem? (i := 36) rfl)) rfl), (TW_mk (tl_1 _ (List.mem_of_getElem? (i := 1) rfl)) rfl), by decide +kernel, ⟨by decide +kernel, by decide +kernel, by decide +kernel⟩, fun h => absurd h (by decide), fun _ => ⟨(TW_mk (tl_5 _ (List.mem_of_getElem? (i := 34) rfl)) rfl), (TW_mk (tl_5 _ (List.mem_of_getElem? (i := 35) rfl)) rfl), TX11, 14, rfl⟩, tk_X11_allHome, pk_X11, by decide⟩
set_option maxRecDepth 100000 in
theorem tk_X11_hoursTillHome : ∀ q ∈ tab_X11_hoursTillHome, decode cX11_hoursTillHome q.1 = .ok q.2 := by decide +kernel
set_option maxRecDepth 100000 in
theorem mk_X11_hoursTillHome : bmok TW cls_ MT M_X11_hoursTillHome := ⟨(TW_mk (tl_5 _ (List.mem_of_getElem? (i := 32) rfl)) rfl), (TW_mk (tl_1 _ (List.mem_of_getElem? (i := 1) rfl)) rfl), by decide +kernel, ⟨by decide +kernel, by decide +kernel, by decide +kernel⟩, fun h => absurd h (by decide), fun _ => ⟨(TW_mk (tl_5 _ (List.mem_of_getElem? (i := 31) rfl)) rfl), (TW_mk (tp_3 (n := 14) (List.mem_of_getElem? (i := 6) rfl)) rfl), TX11, 14, rfl⟩, tk_X11_hoursTillHome, pk_X11, by decide⟩
set_option maxRecDepth 100000 in
theorem tk_X11_odds : ∀ q ∈ tab_X11_odds, decode cX11_odds q.1 = .ok q.2 := by decide +kernel
set_option maxRecDepth 100000 in
theorem mk_X11_odds : bmok TW cls_ MT M_X11_odds := ⟨(TW_mk (tl_5 _ (List.mem_of_getElem? (i := 40) rfl)) rfl), (TW_mk (tl_1 _ (List.mem_of_getElem? (i := 1) rfl)) rfl), by decide +kernel, ⟨by decide +kernel, by decide +kernel, by decide +kernel⟩, fun h => absurd h (by decide), fun _ => ⟨(TW_mk (tl_5 _ (List.mem_of_getElem? (i := 38) rfl)) rfl), (TW_mk (tl_5 _ (List.mem_of_getElem? (i := 39) rfl)) rfl), TX11, 14, rfl⟩, tk_X11_odds, pk_X11, by decide⟩
set_option maxRecDepth 100000 in
theorem tk_X11_isHomeBySeed : ∀ q ∈ tab_X11_isHomeBySeed, decode cX11_isHomeBySeed q.1 = .ok q.2 := by decide +kernel
set_option maxRecDepth 100000 in
theorem mk_X11_isHomeBySeed : bmok TW cls_ MT M_X11_isHomeBySeed := ⟨(TW_mk (tl_5 _ (List.mem_of_getElem? (i := 44) rfl)) rfl), (TW_mk (tl_1 _ (List.mem_of_getElem? (i := 1) rfl)) rfl), by decide +kernel, ⟨by decide +kernel, by decide +kernel, by decide +kernel⟩, fun h => absurd h (by decide), fun _ => ⟨(TW_mk (tl_5 _ (List.mem_of_getElem? (i := 43) rfl)) rfl), (TW_mk (tp_3 (n := 14) (List.mem_of_getElem? (i := 7) rfl)) rfl), TX11, 14, rfl⟩, tk_X11_isHomeBySeed, pk_X11, by decide⟩
set_option maxRecDepth 100000 in
theorem tk_X11_waiting : ∀ q ∈ tab_X11_waiting, decode cX11_waiting q.1 = .ok q.2 := by decide +kernel
set_option maxRecDepth 100000 in
theorem mk_X11_waiting : bmok TW cls_ MT M_X11_waiting := ⟨(TW_mk (tl_5 _ (List.mem_of_getElem? (i := 49) rfl)) rfl), (TW_mk (tl_1 _ (List.mem_of_getElem? (i := 1) rfl)) rfl), by decide +kernel, ⟨by decide +kernel, by decide +kernel, by decide +kernel⟩, fun h => absurd h (by decide), fun _ => ⟨(TW_mk (tl_5 _ (List.mem_of_getElem? (i := 47) rfl)) rfl), (TW_mk (tl_5 _ (List.mem_of_getElem? (i := 48) rfl)) rfl), TX11, 14, rfl⟩, tk_X11_waiting, pk_X11, by decide⟩
set_option maxRecDepth 100000 in
theorem tk_X11_follow : ∀ q ∈ tab_X11_follow, decode cX11_follow q.1 = .ok q.2 := by decide +kernel
set_option maxRecDepth 100000 in
theorem mk_X11_follow : bmok TW cls_ MT M_X11_follow := ⟨(TW_mk (tl_5 _ (List.mem_of_getElem? (i := 53) rfl)) rfl), (TW_mk (tl_1 _ (List.mem_of_getElem? (i := 1) rfl)) rfl), by decide +kernel, ⟨by decide +kernel, by decide +kernel, by decide +kernel⟩, fun h => absurd h (by decide), fun _ => ⟨(TW_mk (tl_5 _ (List.mem_of_getElem? (i := 51) rfl)) rfl), (TW_mk (tl_5 _ (List.mem_of_getElem? (i := 52) rfl)) rfl), TX11, 14, rfl⟩, tk_X11_follow, pk_X11, by decide⟩
set_option maxRecDepth 100000 in
theorem tk_X11_way : ∀ q ∈ tab_X11_way, decode cX11_way q.1 = .ok q.2 := by decide +kernel
set_option maxRecDepth 100000 in
theorem mk_X11_way : bmok TW cls_ MT M_X11_way := ⟨(TW_mk (tl_5 _ (List.mem_of_getElem? (i := 57) rfl)) rfl), (TW_mk (tl_1 _ (List.mem_of_getElem? (i := 1) rfl)) rfl), by decide +kernel, ⟨by decide +kernel, by decide +kernel, by decide +kernel⟩, fun h => absurd h (by decide), fun _ => ⟨(TW_mk (tl_5 _ (List.mem_of_getElem? (i := 55) rfl)) rfl), (TW_mk (tl_5 _ (List.mem_of_getElem? (i := 56) rfl)) rfl), TX11, 14, rfl⟩, tk_X11_way, pk_X11, by decide⟩
set_option maxRecDepth 100000 in
theorem tk_X11_reach : ∀ q ∈ tab_X11_reach, decode cX11_reach q.1 = .ok q.2 := by decide +kernel
set_option maxRecDepth 100000 in
theorem mk_X11_reach : bmok TW cls_ MT M_X11_reach := ⟨(TW_mk (tl_5 _ (List.mem_of_getElem? (i := 97) rfl)) rfl), (TW_mk (tl_1 _ (List.mem_of_getElem? (i := 1) rfl)) rfl), by decide +kernel, ⟨by decide +kernel, by decide +kernel, by decide +kernel⟩, fun h => absurd h (by decide), fun _ => ⟨(TW_mk (tl_5 _ (List.mem_of_getElem? (i := 95) rfl)) rfl), (TW_mk (tl_5 _ (List.mem_of_getElem? (i := 96) rfl)) rfl), TX11, 14, rfl⟩, tk_X11_reach, pk_X11, by decide⟩
set_option maxRecDepth 100000 in
theorem tk_X11_isSet : ∀ q ∈ tab_X11_isSet, decode cX11_isSet q.1 = .ok q.2 := by decide +kernel
set_option maxRecDepth 100000 in
theorem mk_X11_isSet : bmok TW cls_ MT M_X11_isSet := ⟨(TW_mk (tl_5 _ (List.mem_of_getElem? (i := 114) rfl)) rfl), (TW_mk (tl_1 _ (List.mem_of_getElem? (i := 1) rfl)) rfl), by decide +kernel, ⟨by decide +kernel, by decide +kernel, by decide +kernel⟩, fun h => absurd h (by decide), fun _ => ⟨(TW_mk (tl_5 _ (List.mem_of_getElem? (i := 113) rfl)) rfl), (TW_mk (tp_3 (n := 14) (List.mem_of_getElem? (i := 14) rfl)) rfl), TX11, 14, rfl⟩, tk_X11_isSet, pk_X11, by decide⟩
set_option maxRecDepth 100000 in
theorem tk_X11_rowFault : ∀ q ∈ tab_X11_rowFault, decode cX11_rowFault q.1 = .ok q.2 := by decide +kernel
set_option maxRecDepth 100000 in
theorem mk_X11_rowFault : bmok TW cls_ MT M_X11_rowFault := ⟨(TW_mk (tl_5 _ (List.mem_of_getElem? (i := 110) rfl)) rfl), (TW_mk (tl_1 _ (List.mem_of_getElem? (i := 1) rfl)) rfl), by decide +kernel, ⟨by decide +kernel, by decide +kernel, by decide +kernel⟩, fun h => absurd h (by decide), fun _ => ⟨(TW_mk (tl_5 _ (List.mem_of_getElem? (i := 109) rfl)) rfl), (TW_mk (tp_3 (n := 14) (List.mem_of_getElem? (i := 13) rfl)) rfl), TX11, 14, rfl⟩, tk_X11_rowFault, pk_X11, by decide⟩
set_option maxRecDepth 100000 in
theorem tk_X11_orders : ∀ q ∈ tab_X11_orders, decode cX11_orders q.1 = .ok q.2 := by decide +kernel
set_option maxRecDepth 100000 in
theorem mk_X11_orders : bmok TW cls_ MT M_X11_orders := ⟨(TW_mk (tl_5 _ (List.mem_of_getElem? (i := 106) rfl)) rfl), (TW_mk (tl_1 _ (List.mem_of_getElem? (i := 1) rfl)) rfl), by decide +kernel, ⟨by decide +kernel, by decide +kernel, by decide +kernel⟩, fun h => absurd h (by decide), fun _ => ⟨(TW_mk (tl_5 _ (List.mem_of_getElem? (i := 104) rfl)) rfl), (TW_mk (tl_5 _ (List.mem_of_getElem? (i := 105) rfl)) rfl), TX11, 14, rfl⟩, tk_X11_orders, pk_X11, by decide⟩
set_option maxRecDepth 100000 in
theorem tk_X11_orderAt : ∀ q ∈ tab_X11_orderAt, decode cX11_orderAt q.1 = .ok q.2 := by decide +kernel
set_option maxRecDepth 100000 in
theorem mk_X11_orderAt : bmok TW cls_ MT M_X11_orderAt := ⟨(TW_mk (tl_5 _ (List.mem_of_getElem? (i := 169) rfl)) rfl), (TW_mk (tl_1 _ (List.mem_of_getElem? (i := 1) rfl)) rfl), by decide +kernel, ⟨by decide +kernel, by decide +kernel, by decide +kernel⟩, fun h => absurd h (by decide), fun _ => ⟨(TW_mk (tl_5 _ (List.mem_of_getElem? (i := 167) rfl)) rfl), (TW_mk (tl_5 _ (List.mem_of_getElem? (i := 168) rfl)) rfl), TX11, 14, rfl⟩, tk_X11_orderAt, pk_X11, by decide⟩
set_option maxRecDepth 100000 in
theorem tk_X11_wishers : ∀ q ∈ tab_X11_wishers, decode cX11_wishers q.1 = .ok q.2 := by decide +kernel
set_option maxRecDepth 100000 in
theorem mk_X11_wishers : bmok TW cls_ MT M_X11_wishers := ⟨(TW_mk (tl_5 _ (List.mem_of_getElem? (i := 209) rfl)) rfl), (TW_mk (tl_1 _ (List.mem_of_getElem? (i := 1) rfl)) rfl), by decide +kernel, ⟨by decide +kernel, by decide +kernel, by decide +kernel⟩, fun h => absurd h (by decide), fun _ => ⟨(TW_mk (tl_5 _ (List.mem_of_getElem? (i := 207) rfl)) rfl), (TW_mk (tl_5 _ (List.mem_of_getElem? (i := 208) rfl)) rfl), TX11, 14, rfl⟩, tk_X11_wishers, pk_X11, by decide⟩
set_option maxRecDepth 100000 in
theorem tk_X11_wisherAt : ∀ q ∈ tab_X11_wisherAt, decode cX11_wisherAt q.1 = .ok q.2 := by decide +kernel
set_option maxRecDepth 100000 in
theorem mk_X11_wisherAt : bmok TW cls_ MT M_X11_wisherAt := ⟨(TW_mk (tl_5 _ (List.mem_of_getElem? (i := 213) rfl)) rfl), (TW_mk (tl_1 _ (List.mem_of_getElem? (i := 1) rfl)) rfl), by decide +kernel, ⟨by decide +kernel, by decide +kernel, by decide +kernel⟩, fun h => absurd h (by decide), fun _ => ⟨(TW_mk (tl_5 _ (List.mem_of_getElem? (i := 211) rfl)) rfl), (TW_mk (tl_5 _ (List.mem_of_getElem? (i := 212) rfl)) rfl), TX11, 14, rfl⟩, tk_X11_wisherAt, pk_X11, by decide⟩
set_option maxRecDepth 100000 in
theorem tk_X11_rings : ∀ q ∈ tab_X11_rings, decode cX11_rings q.1 = .ok q.2 := by decide +kernel
set_option maxRecDepth 100000 in
theorem mk_X11_rings : bmok TW cls_ MT M_X11_rings := ⟨(TW_mk (tl_5 _ (List.mem_of_getElem? (i := 217) rfl)) rfl), (TW_mk (tl_1 _ (List.mem_of_getElem? (i := 1) rfl)) rfl), by decide +kernel, ⟨by decide +kernel, by decide +kernel, by decide +kernel⟩, fun h => absurd h (by decide), fun _ => ⟨(TW_mk (tl_5 _ (List.mem_of_getElem? (i := 215) rfl)) rfl), (TW_mk (tl_5 _ (List.mem_of_getElem? (i := 216) rfl)) rfl), TX11, 14, rfl⟩, tk_X11_rings, pk_X11, by decide⟩
set_option maxRecDepth 100000 in
theorem tk_X11_isGame : ∀ q ∈ tab_X11_isGame, decode cX11_isGame q.1 = .ok q.2 := by decide +kernel
set_option maxRecDepth 100000 in
theorem mk_X11_isGame : bmok TW cls_ MT M_X11_isGame := ⟨(TW_mk (tl_6 _ (List.mem_of_getElem? (i := 10) rfl)) rfl), (TW_mk (tl_1 _ (List.mem_of_getElem? (i := 1) rfl)) rfl), by decide +kernel, ⟨by decide +kernel, by decide +kernel, by decide +kernel⟩, fun h => absurd h (by decide), fun _ => ⟨(TW_mk (tl_6 _ (List.mem_of_getElem? (i := 9) rfl)) rfl), (TW_mk (tp_5 (n := 14) (List.mem_of_getElem? (i := 0) rfl)) rfl), TX11, 14, rfl⟩, tk_X11_isGame, pk_X11, by decide⟩
set_option maxRecDepth 100000 in
theorem tk_X11_gain : ∀ q ∈ tab_X11_gain, decode cX11_gain q.1 = .ok q.2 := by decide +kernel
set_option maxRecDepth 100000 in
theorem mk_X11_gain : bmok TW cls_ MT M_X11_gain := ⟨(TW_mk (tl_6 _ (List.mem_of_getElem? (i := 6) rfl)) rfl), (TW_mk (tl_1 _ (List.mem_of_getElem? (i := 1) rfl)) rfl), by decide +kernel, ⟨by decide +kernel, by decide +kernel, by decide +kernel⟩, fun h => absurd h (by decide), fun _ => ⟨(TW_mk (tl_6 _ (List.mem_of_getElem? (i := 4) rfl)) rfl), (TW_mk (tl_6 _ (List.mem_of_getElem? (i := 5) rfl)) rfl), TX11, 14, rfl⟩, tk_X11_gain, pk_X11, by decide⟩
set_option maxRecDepth 100000 in
theorem tk_X11_worth : ∀ q ∈ tab_X11_worth, decode cX11_worth q.1 = .ok q.2 := by decide +kernel
set_option maxRecDepth 100000 in
theorem mk_X11_worth : bmok TW cls_ MT M_X11_worth := ⟨(TW_mk (tl_6 _ (List.mem_of_getElem? (i := 41) rfl)) rfl), (TW_mk (tl_1 _ (List.mem_of_getElem? (i := 1) rfl)) rfl), by decide +kernel, ⟨by decide +kernel, by decide +kernel, by decide +kernel⟩, fun h => absurd h (by decide), fun _ => ⟨(TW_mk (tl_6 _ (List.mem_of_getElem? (i := 39) rfl)) rfl), (TW_mk (tl_6 _ (List.mem_of_getElem? (i := 40) rfl)) rfl), TX11, 14, rfl⟩, tk_X11_worth, pk_X11, by decide⟩
set_option maxRecDepth 100000 in
theorem tk_X11_rests : ∀ q ∈ tab_X11_rests, decode cX11_rests q.1 = .ok q.2 := by decide +kernel
set_option maxRecDepth 100000 in
theorem mk_X11_rests : bmok TW cls_ MT M_X11_rests := ⟨(TW_mk (tl_6 _ (List.mem_of_getElem? (i := 50) rfl)) rfl), (TW_mk (tl_1 _ (List.mem_of_getElem? (i := 1) rfl)) rfl), by decide +kernel, ⟨by decide +kernel, by decide +kernel, by decide +kernel⟩, fun h => absurd h (by decide), fun _ => ⟨(TW_mk (tl_6 _ (List.mem_of_getElem? (i := 48) rfl)) rfl), (TW_mk (tl_6 _ (List.mem_of_getElem? (i := 49) rfl)) rfl), TX11, 14, rfl⟩, tk_X11_rests, pk_X11, by decide⟩
set_option maxRecDepth 100000 in
theorem tk_X11_best : ∀ q ∈ tab_X11_best, decode cX11_best q.1 = .ok q.2 := by decide +kernel
set_option maxRecDepth 100000 in
theorem mk_X11_best : bmok TW cls_ MT M_X11_best := ⟨(TW_mk (tl_6 _ (List.mem_of_getElem? (i := 75) rfl)) rfl), (TW_mk (tl_1 _ (List.mem_of_getElem? (i := 1) rfl)) rfl), by decide +kernel, ⟨by decide +kernel, by decide +kernel, by decide +kernel⟩, fun h => absurd h (by decide), fun _ => ⟨(TW_mk (tl_6 _ (List.mem_of_getElem? (i := 73) rfl)) rfl), (TW_mk (tl_6 _ (List.mem_of_getElem? (i := 74) rfl)) rfl), TX11, 14, rfl⟩, tk_X11_best, pk_X11, by decide⟩
set_option maxRecDepth 100000 in
theorem tk_X11_prices : ∀ q ∈ tab_X11_prices, decode cX11_prices q.1 = .ok q.2 := by decide +kernel
set_option maxRecDepth 100000 in
theorem mk_X11_prices : bmok TW cls_ MT M_X11_prices := ⟨(TW_mk (tl_6 _ (List.mem_of_getElem? (i := 91) rfl)) rfl), (TW_mk (tl_1 _ (List.mem_of_getElem? (i := 1) rfl)) rfl), by decide +kernel, ⟨by decide +kernel, by decide +kernel, by decide +kernel⟩, fun h => absurd h (by decide), fun _ => ⟨(TW_mk (tl_6 _ (List.mem_of_getElem? (i := 89) rfl)) rfl), (TW_mk (tl_6 _ (List.mem_of_getElem? (i := 90) rfl)) rfl), TX11, 14, rfl⟩, tk_X11_prices, pk_X11, by decide⟩
set_option maxRecDepth 100000 in
theorem tk_X11_see : ∀ q ∈ tab_X11_see, decode cX11_see q.1 = .ok q.2 := by decide +kernel
set_option maxRecDepth 100000 in
theorem mk_X11_see : bmok TW cls_ MT M_X11_see := ⟨(TW_mk (tl_6 _ (List.mem_of_getElem? (i := 138) rfl)) rfl), (TW_mk (tl_1 _ (List.mem_of_getElem? (i := 1) rfl)) rfl), by decide +kernel, ⟨by decide +kernel, by decide +kernel, by decide +kernel⟩, fun h => absurd h (by decide), fun _ => ⟨(TW_mk (tl_6 _ (List.mem_of_getElem? (i := 136) rfl)) rfl), (TW_mk (tl_6 _ (List.mem_of_getElem? (i := 137) rfl)) rfl), TX11, 14, rfl⟩, tk_X11_see, pk_X11, by decide⟩
set_option maxRecDepth 100000 in
theorem tk_X11_say : ∀ q ∈ tab_X11_say, decode cX11_say q.1 = .ok q.2 := by decide +kernel
set_option maxRecDepth 100000 in
theorem mk_X11_say : bmok TW cls_ MT M_X11_say := ⟨(TW_mk (tl_6 _ (List.mem_of_getElem? (i := 146) rfl)) rfl), (TW_mk (tl_1 _ (List.mem_of_getElem? (i := 1) rfl)) rfl), by decide +kernel, ⟨by decide +kernel, by decide +kernel, by decide +kernel⟩, fun h => absurd h (by decide), fun _ => ⟨(TW_mk (tl_6 _ (List.mem_of_getElem? (i := 144) rfl)) rfl), (TW_mk (tl_6 _ (List.mem_of_getElem? (i := 145) rfl)) rfl), TX11, 14, rfl⟩, tk_X11_say, pk_X11, by decide⟩
set_option maxRecDepth 100000 in
theorem tk_X11_forget : ∀ q ∈ tab_X11_forget, decode cX11_forget q.1 = .ok q.2 := by decide +kernel
set_option maxRecDepth 100000 in
theorem mk_X11_forget : bmok TW cls_ MT M_X11_forget := ⟨(TW_mk (tl_6 _ (List.mem_of_getElem? (i := 150) rfl)) rfl), (TW_mk (tl_1 _ (List.mem_of_getElem? (i := 1) rfl)) rfl), by decide +kernel, ⟨by decide +kernel, by decide +kernel, by decide +kernel⟩, fun h => absurd h (by decide), fun _ => ⟨(TW_mk (tl_6 _ (List.mem_of_getElem? (i := 148) rfl)) rfl), (TW_mk (tl_6 _ (List.mem_of_getElem? (i := 149) rfl)) rfl), TX11, 14, rfl⟩, tk_X11_forget, pk_X11, by decide⟩
set_option maxRecDepth 100000 in
theorem tk_X11_isKnown : ∀ q ∈ tab_X11_isKnown, decode cX11_isKnown q.1 = .ok q.2 := by decide +kernel
set_option maxRecDepth 100000 in
theorem mk_X11_isKnown : bmok TW cls_ MT M_X11_isKnown := ⟨(TW_mk (tl_6 _ (List.mem_of_getElem? (i := 158) rfl)) rfl), (TW_mk (tl_1 _ (List.mem_of_getElem? (i := 1) rfl)) rfl), by decide +kernel, ⟨by decide +kernel, by decide +kernel, by decide +kernel⟩, fun h => absurd h (by decide), fun _ => ⟨(TW_mk (tl_6 _ (List.mem_of_getElem? (i := 157) rfl)) rfl), (TW_mk (tp_5 (n := 14) (List.mem_of_getElem? (i := 14) rfl)) rfl), TX11, 14, rfl⟩, tk_X11_isKnown, pk_X11, by decide⟩
set_option maxRecDepth 100000 in
theorem tk_X11_fits : ∀ q ∈ tab_X11_fits, decode cX11_fits q.1 = .ok q.2 := by decide +kernel
set_option maxRecDepth 100000 in
theorem mk_X11_fits : bmok TW cls_ MT M_X11_fits := ⟨(TW_mk (tl_6 _ (List.mem_of_getElem? (i := 154) rfl)) rfl), (TW_mk (tl_1 _ (List.mem_of_getElem? (i := 1) rfl)) rfl), by decide +kernel, ⟨by decide +kernel, by decide +kernel, by decide +kernel⟩, fun h => absurd h (by decide), fun _ => ⟨(TW_mk (tl_6 _ (List.mem_of_getElem? (i := 152) rfl)) rfl), (TW_mk (tl_6 _ (List.mem_of_getElem? (i := 153) rfl)) rfl), TX11, 14, rfl⟩, tk_X11_fits, pk_X11, by decide⟩
set_option maxRecDepth 100000 in
theorem tk_X11_sure : ∀ q ∈ tab_X11_sure, decode cX11_sure q.1 = .ok q.2 := by decide +kernel
set_option maxRecDepth 100000 in
theorem mk_X11_sure : bmok TW cls_ MT M_X11_sure := ⟨(TW_mk (tl_6 _ (List.mem_of_getElem? (i := 170) rfl)) rfl), (TW_mk (tl_1 _ (List.mem_of_getElem? (i := 1) rfl)) rfl), by decide +kernel, ⟨by decide +kernel, by decide +kernel, by decide +kernel⟩, fun h => absurd h (by decide), fun _ => ⟨(TW_mk (tl_6 _ (List.mem_of_getElem? (i := 168) rfl)) rfl), (TW_mk (tl_6 _ (List.mem_of_getElem? (i := 169) rfl)) rfl), TX11, 14, rfl⟩, tk_X11_sure, pk_X11, by decide⟩
set_option maxRecDepth 100000 in
theorem tk_X11_trust : ∀ q ∈ tab_X11_trust, decode cX11_trust q.1 = .ok q.2 := by decide +kernel
set_option maxRecDepth 100000 in
theorem mk_X11_trust : bmok TW cls_ MT M_X11_trust := ⟨(TW_mk (tl_6 _ (List.mem_of_getElem? (i := 178) rfl)) rfl), (TW_mk (tl_1 _ (List.mem_of_getElem? (i := 1) rfl)) rfl), by decide +kernel, ⟨by decide +kernel, by decide +kernel, by decide +kernel⟩, fun h => absurd h (by decide), fun _ => ⟨(TW_mk (tl_6 _ (List.mem_of_getElem? (i := 176) rfl)) rfl), (TW_mk (tl_6 _ (List.mem_of_getElem? (i := 177) rfl)) rfl), TX11, 14, rfl⟩, tk_X11_trust, pk_X11, by decide⟩
set_option maxRecDepth 100000 in
theorem tk_X11_hold : ∀ q ∈ tab_X11_hold, decode cX11_hold q.1 = .ok q.2 := by decide +kernel
set_option maxRecDepth 100000 in
theorem mk_X11_hold : bmok TW cls_ MT M_X11_hold := ⟨(TW_mk (tl_6 _ (List.mem_of_getElem? (i := 186) rfl)) rfl), (TW_mk (tl_1 _ (List.mem_of_getElem? (i := 1) rfl)) rfl), by decide +kernel, ⟨by decide +kernel, by decide +kernel, by decide +kernel⟩, fun h => absurd h (by decide), fun _ => ⟨(TW_mk (tl_6 _ (List.mem_of_getElem? (i := 184) rfl)) rfl), (TW_mk (tl_6 _ (List.mem_of_getElem? (i := 185) rfl)) rfl), TX11, 14, rfl⟩, tk_X11_hold, pk_X11, by decide⟩
set_option maxRecDepth 100000 in
theorem tk_X11_restore : ∀ q ∈ tab_X11_restore, decode cX11_restore q.1 = .ok q.2 := by decide +kernel
set_option maxRecDepth 100000 in
theorem mk_X11_restore : bmok TW cls_ MT M_X11_restore := ⟨(TW_mk (tl_6 _ (List.mem_of_getElem? (i := 194) rfl)) rfl), (TW_mk (tl_1 _ (List.mem_of_getElem? (i := 1) rfl)) rfl), by decide +kernel, ⟨by decide +kernel, by decide +kernel, by decide +kernel⟩, fun h => absurd h (by decide), fun _ => ⟨(TW_mk (tl_6 _ (List.mem_of_getElem? (i := 192) rfl)) rfl), (TW_mk (tl_6 _ (List.mem_of_getElem? (i := 193) rfl)) rfl), TX11, 14, rfl⟩, tk_X11_restore, pk_X11, by decide⟩
set_option maxRecDepth 100000 in
theorem tk_X11_count : ∀ q ∈ tab_X11_count, decode cX11_count q.1 = .ok q.2 := by decide +kernel
set_option maxRecDepth 100000 in
theorem mk_X11_count : bmok TW cls_ MT M_X11_count := ⟨(TW_mk (tl_6 _ (List.mem_of_getElem? (i := 202) rfl)) rfl), (TW_mk (tl_1 _ (List.mem_of_getElem? (i := 1) rfl)) rfl), by decide +kernel, ⟨by decide +kernel, by decide +kernel, by decide +kernel⟩, fun h => absurd h (by decide), fun _ => ⟨(TW_mk (tl_6 _ (List.mem_of_getElem? (i := 200) rfl)) rfl), (TW_mk (tl_6 _ (List.mem_of_getElem? (i := 201) rfl)) rfl), TX11, 14, rfl⟩, tk_X11_count, pk_X11, by decide⟩
set_option maxRecDepth 100000 in
theorem tk_X12_feed : ∀ q ∈ tab_X12_feed, decode cX12_feed q.1 = .ok q.2 := by decide +kernel
set_option maxRecDepth 100000 in
theorem mk_X12_feed : bmok TW cls_ MT M_X12_feed := ⟨(TW_mk (tl_7 _ (List.mem_of_getElem? (i := 192) rfl)) rfl), (TW_mk (tl_1 _ (List.mem_of_getElem? (i := 18) rfl)) rfl), by decide +kernel, ⟨by decide +kernel, by decide +kernel, by decide +kernel⟩, fun h => absurd h (by decide), fun _ => ⟨(TW_mk (tl_7 _ (List.mem_of_getElem? (i := 190) rfl)) rfl), (TW_mk (tl_7 _ (List.mem_of_getElem? (i := 191) rfl)) rfl), TX12, 67, rfl⟩, tk_X12_feed, pk_X12, by decide⟩
set_option maxRecDepth 100000 in
theorem tk_X12_typed : ∀ q ∈ tab_X12_typed, decode cX12_typed q.1 = .ok q.2 := by decide +kernel
set_option maxRecDepth 100000 in
theorem mk_X12_typed : bmok TW cls_ MT M_X12_typed := ⟨(TW_mk (tl_7 _ (List.mem_of_getElem? (i := 196) rfl)) rfl), (TW_mk (tl_1 _ (List.mem_of_getElem? (i := 18) rfl)) rfl), by decide +kernel, ⟨by decide +kernel, by decide +kernel, by decide +kernel⟩, fun h => absurd h (by decide), fun _ => ⟨(TW_mk (tl_7 _ (List.mem_of_getElem? (i := 195) rfl)) rfl), (TW_mk (tp_6 (n := 67) (List.mem_of_getElem? (i := 3) rfl)) rfl), TX12, 67, rfl⟩, tk_X12_typed, pk_X12, by decide⟩
set_option maxRecDepth 100000 in
theorem tk_X12_back : ∀ q ∈ tab_X12_back, decode cX12_back q.1 = .ok q.2 := by decide +kernel
set_option maxRecDepth 100000 in
theorem mk_X12_back : bmok TW cls_ MT M_X12_back := ⟨(TW_mk (tl_7 _ (List.mem_of_getElem? (i := 200) rfl)) rfl), (TW_mk (tl_1 _ (List.mem_of_getElem? (i := 18) rfl)) rfl), by decide +kernel, ⟨by decide +kernel, by decide +kernel, by decide +kernel⟩, fun h => absurd h (by decide), fun _ => ⟨(TW_mk (tl_7 _ (List.mem_of_getElem? (i := 198) rfl)) rfl), (TW_mk (tl_7 _ (List.mem_of_getElem? (i := 199) rfl)) rfl), TX12, 67, rfl⟩, tk_X12_back, pk_X12, by decide⟩
set_option maxRecDepth 100000 in
theorem tk_X12_byteAt : ∀ q ∈ tab_X12_byteAt, decode cX12_byteAt q.1 = .ok q.2 := by decide +kernel
set_option maxRecDepth 100000 in
theorem mk_X12_byteAt : bmok TW cls_ MT M_X12_byteAt := ⟨(TW_mk (tl_7 _ (List.mem_of_getElem? (i := 212) rfl)) rfl), (TW_mk (tl_1 _ (List.mem_of_getElem? (i := 18) rfl)) rfl), by decide +kernel, ⟨by decide +kernel, by decide +kernel, by decide +kernel⟩, fun h => absurd h (by decide), fun _ => ⟨(TW_mk (tl_7 _ (List.mem_of_getElem? (i := 211) rfl)) rfl), (TW_mk (tp_6 (n := 67) (List.mem_of_getElem? (i := 5) rfl)) rfl), TX12, 67, rfl⟩, tk_X12_byteAt, pk_X12, by decide⟩
set_option maxRecDepth 100000 in
theorem tk_X12_isLetter : ∀ q ∈ tab_X12_isLetter, decode cX12_isLetter q.1 = .ok q.2 := by decide +kernel
set_option maxRecDepth 100000 in
theorem mk_X12_isLetter : bmok TW cls_ MT M_X12_isLetter := ⟨(TW_mk (tl_7 _ (List.mem_of_getElem? (i := 220) rfl)) rfl), (TW_mk (tl_1 _ (List.mem_of_getElem? (i := 18) rfl)) rfl), by decide +kernel, ⟨by decide +kernel, by decide +kernel, by decide +kernel⟩, fun h => absurd h (by decide), fun _ => ⟨(TW_mk (tl_7 _ (List.mem_of_getElem? (i := 219) rfl)) rfl), (TW_mk (tp_6 (n := 67) (List.mem_of_getElem? (i := 7) rfl)) rfl), TX12, 67, rfl⟩, tk_X12_isLetter, pk_X12, by decide⟩
set_option maxRecDepth 100000 in
theorem tk_X12_isDigit : ∀ q ∈ tab_X12_isDigit, decode cX12_isDigit q.1 = .ok q.2 := by decide +kernel
set_option maxRecDepth 100000 in
theorem mk_X12_isDigit : bmok TW cls_ MT M_X12_isDigit := ⟨(TW_mk (tl_8 _ (List.mem_of_getElem? (i := 17) rfl)) rfl), (TW_mk (tl_1 _ (List.mem_of_getElem? (i := 18) rfl)) rfl), by decide +kernel, ⟨by decide +kernel, by decide +kernel, by decide +kernel⟩, fun h => absurd h (by decide), fun _ => ⟨(TW_mk (tl_8 _ (List.mem_of_getElem? (i := 16) rfl)) rfl), (TW_mk (tp_6 (n := 67) (List.mem_of_getElem? (i := 9) rfl)) rfl), TX12, 67, rfl⟩, tk_X12_isDigit, pk_X12, by decide⟩
set_option maxRecDepth 100000 in
theorem tk_X12_token : ∀ q ∈ tab_X12_token, decode cX12_token q.1 = .ok q.2 := by decide +kernel
set_option maxRecDepth 100000 in
theorem mk_X12_token : bmok TW cls_ MT M_X12_token := ⟨(TW_mk (tl_8 _ (List.mem_of_getElem? (i := 13) rfl)) rfl), (TW_mk (tl_1 _ (List.mem_of_getElem? (i := 18) rfl)) rfl), by decide +kernel, ⟨by decide +kernel, by decide +kernel, by decide +kernel⟩, fun h => absurd h (by decide), fun _ => ⟨(TW_mk (tl_8 _ (List.mem_of_getElem? (i := 12) rfl)) rfl), (TW_mk (tp_6 (n := 67) (List.mem_of_getElem? (i := 8) rfl)) rfl), TX12, 67, rfl⟩, tk_X12_token, pk_X12, by decide⟩
set_option maxRecDepth 100000 in
theorem tk_X12_wordOf : ∀ q ∈ tab_X12_wordOf, decode cX12_wordOf q.1 = .ok q.2 := by decide +kernel
set_option maxRecDepth 100000 in
theorem mk_X12_wordOf : bmok TW cls_ MT M_X12_wordOf := ⟨(TW_mk (tl_7 _ (List.mem_of_getElem? (i := 225) rfl)) rfl), (TW_mk (tl_1 _ (List.mem_of_getElem? (i := 18) rfl)) rfl), by decide +kernel, ⟨by decide +kernel, by decide +kernel, by decide +kernel⟩, fun _ => (TW_mk (tl_7 _ (List.mem_of_getElem? (i := 224) rfl)) rfl), fun h => absurd h (by decide), tk_X12_wordOf, pk_X12, by decide⟩
set_option maxRecDepth 100000 in
theorem tk_X12_signAt : ∀ q ∈ tab_X12_signAt, decode cX12_signAt q.1 = .ok q.2 := by decide +kernel
set_option maxRecDepth 100000 in
theorem mk_X12_signAt : bmok TW cls_ MT M_X12_signAt := ⟨(TW_mk (tl_8 _ (List.mem_of_getElem? (i := 21) rfl)) rfl), (TW_mk (tl_1 _ (List.mem_of_getElem? (i := 18) rfl)) rfl), by decide +kernel, ⟨by decide +kernel, by decide +kernel, by decide +kernel⟩, fun h => absurd h (by decide), fun _ => ⟨(TW_mk (tl_8 _ (List.mem_of_getElem? (i := 20) rfl)) rfl), (TW_mk (tp_6 (n := 67) (List.mem_of_getElem? (i := 10) rfl)) rfl), TX12, 67, rfl⟩, tk_X12_signAt, pk_X12, by decide⟩
set_option maxRecDepth 100000 in
theorem tk_X12_scan : ∀ q ∈ tab_X12_scan, decode cX12_scan q.1 = .ok q.2 := by decide +kernel
set_option maxRecDepth 100000 in
theorem mk_X12_scan : bmok TW cls_ MT M_X12_scan := ⟨(TW_mk (tl_7 _ (List.mem_of_getElem? (i := 216) rfl)) rfl), (TW_mk (tl_1 _ (List.mem_of_getElem? (i := 18) rfl)) rfl), by decide +kernel, ⟨by decide +kernel, by decide +kernel, by decide +kernel⟩, fun h => absurd h (by decide), fun _ => ⟨(TW_mk (tl_7 _ (List.mem_of_getElem? (i := 215) rfl)) rfl), (TW_mk (tp_6 (n := 67) (List.mem_of_getElem? (i := 6) rfl)) rfl), TX12, 67, rfl⟩, tk_X12_scan, pk_X12, by decide⟩
set_option maxRecDepth 100000 in
theorem tk_X12_scanAll : ∀ q ∈ tab_X12_scanAll, decode cX12_scanAll q.1 = .ok q.2 := by decide +kernel
set_option maxRecDepth 100000 in
theorem mk_X12_scanAll : bmok TW cls_ MT M_X12_scanAll := ⟨(TW_mk (tl_7 _ (List.mem_of_getElem? (i := 208) rfl)) rfl), (TW_mk (tl_1 _ (List.mem_of_getElem? (i := 18) rfl)) rfl), by decide +kernel, ⟨by decide +kernel, by decide +kernel, by decide +kernel⟩, fun h => absurd h (by decide), fun _ => ⟨(TW_mk (tl_7 _ (List.mem_of_getElem? (i := 207) rfl)) rfl), (TW_mk (tp_6 (n := 67) (List.mem_of_getElem? (i := 4) rfl)) rfl), TX12, 67, rfl⟩, tk_X12_scanAll, pk_X12, by decide⟩
set_option maxRecDepth 100000 in
theorem tk_X12_wrong : ∀ q ∈ tab_X12_wrong, decode cX12_wrong q.1 = .ok q.2 := by decide +kernel
set_option maxRecDepth 100000 in
theorem mk_X12_wrong : bmok TW cls_ MT M_X12_wrong := ⟨(TW_mk (tl_8 _ (List.mem_of_getElem? (i := 37) rfl)) rfl), (TW_mk (tl_1 _ (List.mem_of_getElem? (i := 18) rfl)) rfl), by decide +kernel, ⟨by decide +kernel, by decide +kernel, by decide +kernel⟩, fun h => absurd h (by decide), fun _ => ⟨(TW_mk (tl_8 _ (List.mem_of_getElem? (i := 36) rfl)) rfl), (TW_mk (tp_6 (n := 67) (List.mem_of_getElem? (i := 14) rfl)) rfl), TX12, 67, rfl⟩, tk_X12_wrong, pk_X12, by decide⟩
set_option maxRecDepth 100000 in
theorem tk_X12_tells : ∀ q ∈ tab_X12_tells, decode cX12_tells q.1 = .ok q.2 := by decide +kernel
set_option maxRecDepth 100000 in
theorem mk_X12_tells : bmok TW cls_ MT M_X12_tells := ⟨(TW_mk (tl_8 _ (List.mem_of_getElem? (i := 53) rfl)) rfl), (TW_mk (tl_1 _ (List.mem_of_getElem? (i := 18) rfl)) rfl), by decide +kernel, ⟨by decide +kernel, by decide +kernel, by decide +kernel⟩, fun h => absurd h (by decide), fun _ => ⟨(TW_mk (tl_8 _ (List.mem_of_getElem? (i := 52) rfl)) rfl), (TW_mk (tp_7 (n := 67) (List.mem_of_getElem? (i := 2) rfl)) rfl), TX12, 67, rfl⟩, tk_X12_tells, pk_X12, by decide⟩
set_option maxRecDepth 100000 in
theorem tk_X12_pass : ∀ q ∈ tab_X12_pass, decode cX12_pass q.1 = .ok q.2 := by decide +kernel
set_option maxRecDepth 100000 in
theorem mk_X12_pass : bmok TW cls_ MT M_X12_pass := ⟨(TW_mk (tl_8 _ (List.mem_of_getElem? (i := 41) rfl)) rfl), (TW_mk (tl_1 _ (List.mem_of_getElem? (i := 18) rfl)) rfl), by decide +kernel, ⟨by decide +kernel, by decide +kernel, by decide +kernel⟩, fun h => absurd h (by decide), fun _ => ⟨(TW_mk (tl_8 _ (List.mem_of_getElem? (i := 40) rfl)) rfl), (TW_mk (tp_6 (n := 67) (List.mem_of_getElem? (i := 15) rfl)) rfl), TX12, 67, rfl⟩, tk_X12_pass, pk_X12, by decide⟩
set_option maxRecDepth 100000 in
theorem tk_X12_isSign : ∀ q ∈ tab_X12_isSign, decode cX12_isSign q.1 = .ok q.2 := by decide +kernel
set_option maxRecDepth 100000 in
theorem mk_X12_isSign : bmok TW cls_ MT M_X12_isSign := ⟨(TW_mk (tl_8 _ (List.mem_of_getElem? (i := 89) rfl)) rfl), (TW_mk (tl_1 _ (List.mem_of_getElem? (i := 18) rfl)) rfl), by decide +kernel, ⟨by decide +kernel, by decide +kernel, by decide +kernel⟩, fun h => absurd h (by decide), fun _ => ⟨(TW_mk (tl_8 _ (List.mem_of_getElem? (i := 88) rfl)) rfl), (TW_mk (tp_7 (n := 67) (List.mem_of_getElem? (i := 11) rfl)) rfl), TX12, 67, rfl⟩, tk_X12_isSign, pk_X12, by decide⟩
set_option maxRecDepth 100000 in
theorem tk_X12_isWord : ∀ q ∈ tab_X12_isWord, decode cX12_isWord q.1 = .ok q.2 := by decide +kernel
set_option maxRecDepth 100000 in
theorem mk_X12_isWord : bmok TW cls_ MT M_X12_isWord := ⟨(TW_mk (tl_8 _ (List.mem_of_getElem? (i := 93) rfl)) rfl), (TW_mk (tl_1 _ (List.mem_of_getElem? (i := 18) rfl)) rfl), by decide +kernel, ⟨by decide +kernel, by decide +kernel, by decide +kernel⟩, fun h => absurd h (by decide), fun _ => ⟨(TW_mk (tl_8 _ (List.mem_of_getElem? (i := 92) rfl)) rfl), (TW_mk (tp_7 (n := 67) (List.mem_of_getElem? (i := 12) rfl)) rfl), TX12, 67, rfl⟩, tk_X12_isWord, pk_X12, by decide⟩
set_option maxRecDepth 100000 in
theorem tk_X12_takes : ∀ q ∈ tab_X12_takes, decode cX12_takes q.1 = .ok q.2 := by decide +kernel
set_option maxRecDepth 100000 in
theorem mk_X12_takes : bmok TW cls_ MT M_X12_takes := ⟨(TW_mk (tl_8 _ (List.mem_of_getElem? (i := 49) rfl)) rfl), (TW_mk (tl_1 _ (List.mem_of_getElem? (i := 18) rfl)) rfl), by decide +kernel, ⟨by decide +kernel, by decide +kernel, by decide +kernel⟩, fun h => absurd h (by decide), fun _ => ⟨(TW_mk (tl_8 _ (List.mem_of_getElem? (i := 48) rfl)) rfl), (TW_mk (tp_7 (n := 67) (List.mem_of_getElem? (i := 1) rfl)) rfl), TX12, 67, rfl⟩, tk_X12_takes, pk_X12, by decide⟩
set_option maxRecDepth 100000 in
theorem tk_X12_takesSign : ∀ q ∈ tab_X12_takesSign, decode cX12_takesSign q.1 = .ok q.2 := by decide +kernel
set_option maxRecDepth 100000 in
theorem mk_X12_takesSign : bmok TW cls_ MT M_X12_takesSign := ⟨(TW_mk (tl_8 _ (List.mem_of_getElem? (i := 85) rfl)) rfl), (TW_mk (tl_1 _ (List.mem_of_getElem? (i := 18) rfl)) rfl), by decide +kernel, ⟨by decide +kernel, by decide +kernel, by decide +kernel⟩, fun h => absurd h (by decide), fun _ => ⟨(TW_mk (tl_8 _ (List.mem_of_getElem? (i := 84) rfl)) rfl), (TW_mk (tp_7 (n := 67) (List.mem_of_getElem? (i := 10) rfl)) rfl), TX12, 67, rfl⟩, tk_X12_takesSign, pk_X12, by decide⟩
set_option maxRecDepth 100000 in
theorem tk_X12_takesWord : ∀ q ∈ tab_X12_takesWord, decode cX12_takesWord q.1 = .ok q.2 := by decide +kernel
set_option maxRecDepth 100000 in
theorem mk_X12_takesWord : bmok TW cls_ MT M_X12_takesWord := ⟨(TW_mk (tl_8 _ (List.mem_of_getElem? (i := 128) rfl)) rfl), (TW_mk (tl_1 _ (List.mem_of_getElem? (i := 18) rfl)) rfl), by decide +kernel, ⟨by decide +kernel, by decide +kernel, by decide +kernel⟩, fun h => absurd h (by decide), fun _ => ⟨(TW_mk (tl_8 _ (List.mem_of_getElem? (i := 127) rfl)) rfl), (TW_mk (tp_8 (n := 67) (List.mem_of_getElem? (i := 4) rfl)) rfl), TX12, 67, rfl⟩, tk_X12_takesWord, pk_X12, by decide⟩
set_option maxRecDepth 100000 in
theorem tk_X12_takesInt : ∀ q ∈ tab_X12_takesInt, decode cX12_takesInt q.1 = .ok q.2 := by decide +kernel
set_option maxRecDepth 100000 in
theorem mk_X12_takesInt : bmok TW cls_ MT M_X12_takesInt := ⟨(TW_mk (tl_8 _ (List.mem_of_getElem? (i := 65) rfl)) rfl), (TW_mk (tl_1 _ (List.mem_of_getElem? (i := 18) rfl)) rfl), by decide +kernel, ⟨by decide +kernel, by decide +kernel, by decide +kernel⟩, fun h => absurd h (by decide), fun _ => ⟨(TW_mk (tl_8 _ (List.mem_of_getElem? (i := 64) rfl)) rfl), (TW_mk (tp_7 (n := 67) (List.mem_of_getElem? (i := 5) rfl)) rfl), TX12, 67, rfl⟩, tk_X12_takesInt, pk_X12, by decide⟩
set_option maxRecDepth 100000 in
theorem tk_X12_names : ∀ q ∈ tab_X12_names, decode cX12_names q.1 = .ok q.2 := by decide +kernel
set_option maxRecDepth 100000 in
theorem mk_X12_names : bmok TW cls_ MT M_X12_names := ⟨(TW_mk (tl_8 _ (List.mem_of_getElem? (i := 45) rfl)) rfl), (TW_mk (tl_1 _ (List.mem_of_getElem? (i := 18) rfl)) rfl), by decide +kernel, ⟨by decide +kernel, by decide +kernel, by decide +kernel⟩, fun h => absurd h (by decide), fun _ => ⟨(TW_mk (tl_8 _ (List.mem_of_getElem? (i := 44) rfl)) rfl), (TW_mk (tp_7 (n := 67) (List.mem_of_getElem? (i := 0) rfl)) rfl), TX12, 67, rfl⟩, tk_X12_names, pk_X12, by decide⟩
set_option maxRecDepth 100000 in
theorem tk_X12_takesName : ∀ q ∈ tab_X12_takesName, decode cX12_takesName q.1 = .ok q.2 := by decide +kernel
set_option maxRecDepth 100000 in
theorem mk_X12_takesName : bmok TW cls_ MT M_X12_takesName := ⟨(TW_mk (tl_8 _ (List.mem_of_getElem? (i := 61) rfl)) rfl), (TW_mk (tl_1 _ (List.mem_of_getElem? (i := 18) rfl)) rfl), by decide +kernel, ⟨by decide +kernel, by decide +kernel, by decide +kernel⟩, fun h => absurd h (by decide), fun _ => ⟨(TW_mk (tl_8 _ (List.mem_of_getElem? (i := 60) rfl)) rfl), (TW_mk (tp_7 (n := 67) (List.mem_of_getElem? (i := 4) rfl)) rfl), TX12, 67, rfl⟩, tk_X12_takesName, pk_X12, by decide⟩
set_option maxRecDepth 100000 in
theorem tk_X12_emit : ∀ q ∈ tab_X12_emit, decode cX12_emit q.1 = .ok q.2 := by decide +kernel
set_option maxRecDepth 100000 in
theorem mk_X12_emit : bmok TW cls_ MT M_X12_emit := ⟨(TW_mk (tl_8 _ (List.mem_of_getElem? (i := 117) rfl)) rfl), (TW_mk (tl_1 _ (List.mem_of_getElem? (i := 18) rfl)) rfl), by decide +kernel, ⟨by decide +kernel, by decide +kernel, by decide +kernel⟩, fun h => absurd h (by decide), fun _ => ⟨(TW_mk (tl_8 _ (List.mem_of_getElem? (i := 116) rfl)) rfl), (TW_mk (tp_8 (n := 67) (List.mem_of_getElem? (i := 2) rfl)) rfl), TX12, 67, rfl⟩, tk_X12_emit, pk_X12, by decide⟩
set_option maxRecDepth 100000 in
theorem tk_X12_rank : ∀ q ∈ tab_X12_rank, decode cX12_rank q.1 = .ok q.2 := by decide +kernel
set_option maxRecDepth 100000 in
theorem mk_X12_rank : bmok TW cls_ MT M_X12_rank := ⟨(TW_mk (tl_8 _ (List.mem_of_getElem? (i := 120) rfl)) rfl), (TW_mk (tl_1 _ (List.mem_of_getElem? (i := 18) rfl)) rfl), by decide +kernel, ⟨by decide +kernel, by decide +kernel, by decide +kernel⟩, fun _ => (TW_mk (tl_8 _ (List.mem_of_getElem? (i := 119) rfl)) rfl), fun h => absurd h (by decide), tk_X12_rank, pk_X12, by decide⟩
set_option maxRecDepth 100000 in
theorem tk_X12_reduce : ∀ q ∈ tab_X12_reduce, decode cX12_reduce q.1 = .ok q.2 := by decide +kernel
set_option maxRecDepth 100000 in
theorem mk_X12_reduce : bmok TW cls_ MT M_X12_reduce := ⟨(TW_mk (tl_8 _ (List.mem_of_getElem? (i := 124) rfl)) rfl), (TW_mk (tl_1 _ (List.mem_of_getElem? (i := 18) rfl)) rfl), by decide +kernel, ⟨by decide +kernel, by decide +kernel, by decide +kernel⟩, fun h => absurd h (by decide), fun _ => ⟨(TW_mk (tl_8 _ (List.mem_of_getElem? (i := 123) rfl)) rfl), (TW_mk (tp_8 (n := 67) (List.mem_of_getElem? (i := 3) rfl)) rfl), TX12, 67, rfl⟩, tk_X12_reduce, pk_X12, by decide⟩
set_option maxRecDepth 100000 in
theorem tk_X12_await : ∀ q ∈ tab_X12_await, decode cX12_await q.1 = .ok q.2 := by decide +kernel
set_option maxRecDepth 100000 in
theorem mk_X12_await : bmok TW cls_ MT M_X12_await := ⟨(TW_mk (tl_8 _ (List.mem_of_getElem? (i := 113) rfl)) rfl), (TW_mk (tl_1 _ (List.mem_of_getElem? (i := 18) rfl)) rfl), by decide +kernel, ⟨by decide +kernel, by decide +kernel, by decide +kernel⟩, fun h => absurd h (by decide), fun _ => ⟨(TW_mk (tl_8 _ (List.mem_of_getElem? (i := 112) rfl)) rfl), (TW_mk (tp_8 (n := 67) (List.mem_of_getElem? (i := 1) rfl)) rfl), TX12, 67, rfl⟩, tk_X12_await, pk_X12, by decide⟩
set_option maxRecDepth 100000 in
theorem tk_X12_takesUnit : ∀ q ∈ tab_X12_takesUnit, decode cX12_takesUnit q.1 = .ok q.2 := by decide +kernel
set_option maxRecDepth 100000 in
theorem mk_X12_takesUnit : bmok TW cls_ MT M_X12_takesUnit := ⟨(TW_mk (tl_8 _ (List.mem_of_getElem? (i := 109) rfl)) rfl), (TW_mk (tl_1 _ (List.mem_of_getElem? (i := 18) rfl)) rfl), by decide +kernel, ⟨by decide +kernel, by decide +kernel, by decide +kernel⟩, fun h => absurd h (by decide), fun _ => ⟨(TW_mk (tl_8 _ (List.mem_of_getElem? (i := 108) rfl)) rfl), (TW_mk (tp_8 (n := 67) (List.mem_of_getElem? (i := 0) rfl)) rfl), TX12, 67, rfl⟩, tk_X12_takesUnit, pk_X12, by decide⟩
set_option maxRecDepth 100000 in
theorem tk_X12_joiner : ∀ q ∈ tab_X12_joiner, decode cX12_joiner q.1 = .ok q.2 := by decide +kernel
set_option maxRecDepth 100000 in
theorem mk_X12_joiner : bmok TW cls_ MT M_X12_joiner := ⟨(TW_mk (tl_8 _ (List.mem_of_getElem? (i := 105) rfl)) rfl), (TW_mk (tl_1 _ (List.mem_of_getElem? (i := 18) rfl)) rfl), by decide +kernel, ⟨by decide +kernel, by decide +kernel, by decide +kernel⟩, fun h => absurd h (by decide), fun _ => ⟨(TW_mk (tl_8 _ (List.mem_of_getElem? (i := 104) rfl)) rfl), (TW_mk (tp_7 (n := 67) (List.mem_of_getElem? (i := 15) rfl)) rfl), TX12, 67, rfl⟩, tk_X12_joiner, pk_X12, by decide⟩
set_option maxRecDepth 100000 in
theorem tk_X12_expr : ∀ q ∈ tab_X12_expr, decode cX12_expr q.1 = .ok q.2 := by decide +kernel
set_option maxRecDepth 100000 in
theorem mk_X12_expr : bmok TW cls_ MT M_X12_expr := ⟨(TW_mk (tl_8 _ (List.mem_of_getElem? (i := 101) rfl)) rfl), (TW_mk (tl_1 _ (List.mem_of_getElem? (i := 18) rfl)) rfl), by decide +kernel, ⟨by decide +kernel, by decide +kernel, by decide +kernel⟩, fun h => absurd h (by decide), fun _ => ⟨(TW_mk (tl_8 _ (List.mem_of_getElem? (i := 100) rfl)) rfl), (TW_mk (tp_7 (n := 67) (List.mem_of_getElem? (i := 14) rfl)) rfl), TX12, 67, rfl⟩, tk_X12_expr, pk_X12, by decide⟩
set_option maxRecDepth 100000 in
theorem tk_X12_sumOf : ∀ q ∈ tab_X12_sumOf, decode cX12_sumOf q.1 = .ok q.2 := by decide +kernel
set_option maxRecDepth 100000 in
theorem mk_X12_sumOf : bmok TW cls_ MT M_X12_sumOf := ⟨(TW_mk (tl_8 _ (List.mem_of_getElem? (i := 97) rfl)) rfl), (TW_mk (tl_1 _ (List.mem_of_getElem? (i := 18) rfl)) rfl), by decide +kernel, ⟨by decide +kernel, by decide +kernel, by decide +kernel⟩, fun h => absurd h (by decide), fun _ => ⟨(TW_mk (tl_8 _ (List.mem_of_getElem? (i := 96) rfl)) rfl), (TW_mk (tp_7 (n := 67) (List.mem_of_getElem? (i := 13) rfl)) rfl), TX12, 67, rfl⟩, tk_X12_sumOf, pk_X12, by decide⟩
set_option maxRecDepth 100000 in
theorem tk_X12_lawTold : ∀ q ∈ tab_X12_lawTold, decode cX12_lawTold q.1 = .ok q.2 := by decide +kernel
set_option maxRecDepth 100000 in
theorem mk_X12_lawTold : bmok TW cls_ MT M_X12_lawTold := ⟨(TW_mk (tl_8 _ (List.mem_of_getElem? (i := 81) rfl)) rfl), (TW_mk (tl_1 _ (List.mem_of_getElem? (i := 18) rfl)) rfl), by decide +kernel, ⟨by decide +kernel, by decide +kernel, by decide +kernel⟩, fun h => absurd h (by decide), fun _ => ⟨(TW_mk (tl_8 _ (List.mem_of_getElem? (i := 80) rfl)) rfl), (TW_mk (tp_7 (n := 67) (List.mem_of_getElem? (i := 9) rfl)) rfl), TX12, 67, rfl⟩, tk_X12_lawTold, pk_X12, by decide⟩
set_option maxRecDepth 100000 in
theorem tk_X12_tellBank : ∀ q ∈ tab_X12_tellBank, decode cX12_tellBank q.1 = .ok q.2 := by decide +kernel
set_option maxRecDepth 100000 in
theorem mk_X12_tellBank : bmok TW cls_ MT M_X12_tellBank := ⟨(TW_mk (tl_8 _ (List.mem_of_getElem? (i := 33) rfl)) rfl), (TW_mk (tl_1 _ (List.mem_of_getElem? (i := 18) rfl)) rfl), by decide +kernel, ⟨by decide +kernel, by decide +kernel, by decide +kernel⟩, fun h => absurd h (by decide), fun _ => ⟨(TW_mk (tl_8 _ (List.mem_of_getElem? (i := 32) rfl)) rfl), (TW_mk (tp_6 (n := 67) (List.mem_of_getElem? (i := 13) rfl)) rfl), TX12, 67, rfl⟩, tk_X12_tellBank, pk_X12, by decide⟩
set_option maxRecDepth 100000 in
theorem tk_X12_tellPath : ∀ q ∈ tab_X12_tellPath, decode cX12_tellPath q.1 = .ok q.2 := by decide +kernel
set_option maxRecDepth 100000 in
theorem mk_X12_tellPath : bmok TW cls_ MT M_X12_tellPath := ⟨(TW_mk (tl_8 _ (List.mem_of_getElem? (i := 57) rfl)) rfl), (TW_mk (tl_1 _ (List.mem_of_getElem? (i := 18) rfl)) rfl), by decide +kernel, ⟨by decide +kernel, by decide +kernel, by decide +kernel⟩, fun h => absurd h (by decide), fun _ => ⟨(TW_mk (tl_8 _ (List.mem_of_getElem? (i := 56) rfl)) rfl), (TW_mk (tp_7 (n := 67) (List.mem_of_getElem? (i := 3) rfl)) rfl), TX12, 67, rfl⟩, tk_X12_tellPath, pk_X12, by decide⟩
set_option maxRecDepth 100000 in
theorem tk_X12_tellBridge : ∀ q ∈ tab_X12_tellBridge, decode cX12_tellBridge q.1 = .ok q.2 := by decide +kernel
set_option maxRecDepth 100000 in
theorem mk_X12_tellBridge : bmok TW cls_ MT M_X12_tellBridge := ⟨(TW_mk (tl_8 _ (List.mem_of_getElem? (i := 69) rfl)) rfl), (TW_mk (tl_1 _ (List.mem_of_getElem? (i := 18) rfl)) rfl), by decide +kernel, ⟨by decide +kernel, by decide +kernel, by decide +kernel⟩, fun h => absurd h (by decide), fun _ => ⟨(TW_mk (tl_8 _ (List.mem_of_getElem? (i := 68) rfl)) rfl), (TW_mk (tp_7 (n := 67) (List.mem_of_getElem? (i := 6) rfl)) rfl), TX12, 67, rfl⟩, tk_X12_tellBridge, pk_X12, by decide⟩
set_option maxRecDepth 100000 in
theorem tk_X12_tellMan : ∀ q ∈ tab_X12_tellMan, decode cX12_tellMan q.1 = .ok q.2 := by decide +kernel
set_option maxRecDepth 100000 in
theorem mk_X12_tellMan : bmok TW cls_ MT M_X12_tellMan := ⟨(TW_mk (tl_8 _ (List.mem_of_getElem? (i := 73) rfl)) rfl), (TW_mk (tl_1 _ (List.mem_of_getElem? (i := 18) rfl)) rfl), by decide +kernel, ⟨by decide +kernel, by decide +kernel, by decide +kernel⟩, fun h => absurd h (by decide), fun _ => ⟨(TW_mk (tl_8 _ (List.mem_of_getElem? (i := 72) rfl)) rfl), (TW_mk (tp_7 (n := 67) (List.mem_of_getElem? (i := 7) rfl)) rfl), TX12, 67, rfl⟩, tk_X12_tellMan, pk_X12, by decide⟩
set_option maxRecDepth 100000 in
theorem tk_X12_tellLawOf : ∀ q ∈ tab_X12_tellLawOf, decode cX12_tellLawOf q.1 = .ok q.2 := by decide +kernel
set_option maxRecDepth 100000 in
theorem mk_X12_tellLawOf : bmok TW cls_ MT M_X12_tellLawOf := ⟨(TW_mk (tl_8 _ (List.mem_of_getElem? (i := 77) rfl)) rfl), (TW_mk (tl_1 _ (List.mem_of_getElem? (i := 18) rfl)) rfl), by decide +kernel, ⟨by decide +kernel, by decide +kernel, by decide +kernel⟩, fun h => absurd h (by decide), fun _ => ⟨(TW_mk (tl_8 _ (List.mem_of_getElem? (i := 76) rfl)) rfl), (TW_mk (tp_7 (n := 67) (List.mem_of_getElem? (i := 8) rfl)) rfl), TX12, 67, rfl⟩, tk_X12_tellLawOf, pk_X12, by decide⟩
set_option maxRecDepth 100000 in
theorem tk_X12_tellRest : ∀ q ∈ tab_X12_tellRest, decode cX12_tellRest q.1 = .ok q.2 := by decide +kernel
set_option maxRecDepth 100000 in
theorem mk_X12_tellRest : bmok TW cls_ MT M_X12_tellRest := ⟨(TW_mk (tl_8 _ (List.mem_of_getElem? (i := 132) rfl)) rfl), (TW_mk (tl_1 _ (List.mem_of_getElem? (i := 18) rfl)) rfl), by decide +kernel, ⟨by decide +kernel, by decide +kernel, by decide +kernel⟩, fun h => absurd h (by decide), fun _ => ⟨(TW_mk (tl_8 _ (List.mem_of_getElem? (i := 131) rfl)) rfl), (TW_mk (tp_8 (n := 67) (List.mem_of_getElem? (i := 5) rfl)) rfl), TX12, 67, rfl⟩, tk_X12_tellRest, pk_X12, by decide⟩
set_option maxRecDepth 100000 in
theorem tk_X12_tellOne : ∀ q ∈ tab_X12_tellOne, decode cX12_tellOne q.1 = .ok q.2 := by decide +kernel
set_option maxRecDepth 100000 in
theorem mk_X12_tellOne : bmok TW cls_ MT M_X12_tellOne := ⟨(TW_mk (tl_8 _ (List.mem_of_getElem? (i := 29) rfl)) rfl), (TW_mk (tl_1 _ (List.mem_of_getElem? (i := 18) rfl)) rfl), by decide +kernel, ⟨by decide +kernel, by decide +kernel, by decide +kernel⟩, fun h => absurd h (by decide), fun _ => ⟨(TW_mk (tl_8 _ (List.mem_of_getElem? (i := 28) rfl)) rfl), (TW_mk (tp_6 (n := 67) (List.mem_of_getElem? (i := 12) rfl)) rfl), TX12, 67, rfl⟩, tk_X12_tellOne, pk_X12, by decide⟩
set_option maxRecDepth 100000 in
theorem tk_X12_clears : ∀ q ∈ tab_X12_clears, decode cX12_clears q.1 = .ok q.2 := by decide +kernel
set_option maxRecDepth 100000 in
theorem mk_X12_clears : bmok TW cls_ MT M_X12_clears := ⟨(TW_mk (tl_6 _ (List.mem_of_getElem? (i := 217) rfl)) rfl), (TW_mk (tl_1 _ (List.mem_of_getElem? (i := 18) rfl)) rfl), by decide +kernel, ⟨by decide +kernel, by decide +kernel, by decide +kernel⟩, fun h => absurd h (by decide), fun _ => ⟨(TW_mk (tl_6 _ (List.mem_of_getElem? (i := 216) rfl)) rfl), (TW_mk (tp_6 (n := 67) (List.mem_of_getElem? (i := 0) rfl)) rfl), TX12, 67, rfl⟩, tk_X12_clears, pk_X12, by decide⟩
set_option maxRecDepth 100000 in
theorem tk_X12_parses : ∀ q ∈ tab_X12_parses, decode cX12_parses q.1 = .ok q.2 := by decide +kernel
set_option maxRecDepth 100000 in
theorem mk_X12_parses : bmok TW cls_ MT M_X12_parses := ⟨(TW_mk (tl_8 _ (List.mem_of_getElem? (i := 25) rfl)) rfl), (TW_mk (tl_1 _ (List.mem_of_getElem? (i := 18) rfl)) rfl), by decide +kernel, ⟨by decide +kernel, by decide +kernel, by decide +kernel⟩, fun h => absurd h (by decide), fun _ => ⟨(TW_mk (tl_8 _ (List.mem_of_getElem? (i := 24) rfl)) rfl), (TW_mk (tp_6 (n := 67) (List.mem_of_getElem? (i := 11) rfl)) rfl), TX12, 67, rfl⟩, tk_X12_parses, pk_X12, by decide⟩
set_option maxRecDepth 100000 in
theorem tk_X12_lays : ∀ q ∈ tab_X12_lays, decode cX12_lays q.1 = .ok q.2 := by decide +kernel
set_option maxRecDepth 100000 in
theorem mk_X12_lays : bmok TW cls_ MT M_X12_lays := ⟨(TW_mk (tl_6 _ (List.mem_of_getElem? (i := 221) rfl)) rfl), (TW_mk (tl_1 _ (List.mem_of_getElem? (i := 18) rfl)) rfl), by decide +kernel, ⟨by decide +kernel, by decide +kernel, by decide +kernel⟩, fun h => absurd h (by decide), fun _ => ⟨(TW_mk (tl_6 _ (List.mem_of_getElem? (i := 220) rfl)) rfl), (TW_mk (tp_6 (n := 67) (List.mem_of_getElem? (i := 1) rfl)) rfl), TX12, 67, rfl⟩, tk_X12_lays, pk_X12, by decide⟩
set_option maxRecDepth 100000 in
theorem tk_X12_read : ∀ q ∈ tab_X12_read, decode cX12_read q.1 = .ok q.2 := by decide +kernel
set_option maxRecDepth 100000 in
theorem mk_X12_read : bmok TW cls_ MT M_X12_read := ⟨(TW_mk (tl_7 _ (List.mem_of_getElem? (i := 204) rfl)) rfl), (TW_mk (tl_1 _ (List.mem_of_getElem? (i := 18) rfl)) rfl), by decide +kernel, ⟨by decide +kernel, by decide +kernel, by decide +kernel⟩, fun h => absurd h (by decide), fun _ => ⟨(TW_mk (tl_7 _ (List.mem_of_getElem? (i := 202) rfl)) rfl), (TW_mk (tl_7 _ (List.mem_of_getElem? (i := 203) rfl)) rfl), TX12, 67, rfl⟩, tk_X12_read, pk_X12, by decide⟩
set_option maxRecDepth 100000 in
theorem tk_X12_place : ∀ q ∈ tab_X12_place, decode cX12_place q.1 = .ok q.2 := by decide +kernel
set_option maxRecDepth 100000 in
theorem mk_X12_place : bmok TW cls_ MT M_X12_place := ⟨(TW_mk (tl_8 _ (List.mem_of_getElem? (i := 136) rfl)) rfl), (TW_mk (tl_1 _ (List.mem_of_getElem? (i := 18) rfl)) rfl), by decide +kernel, ⟨by decide +kernel, by decide +kernel, by decide +kernel⟩, fun h => absurd h (by decide), fun _ => ⟨(TW_mk (tl_8 _ (List.mem_of_getElem? (i := 134) rfl)) rfl), (TW_mk (tl_8 _ (List.mem_of_getElem? (i := 135) rfl)) rfl), TX12, 67, rfl⟩, tk_X12_place, pk_X12, by decide⟩
set_option maxRecDepth 100000 in
theorem tk_X12_copies : ∀ q ∈ tab_X12_copies, decode cX12_copies q.1 = .ok q.2 := by decide +kernel
set_option maxRecDepth 100000 in
theorem mk_X12_copies : bmok TW cls_ MT M_X12_copies := ⟨(TW_mk (tl_8 _ (List.mem_of_getElem? (i := 222) rfl)) rfl), (TW_mk (tl_1 _ (List.mem_of_getElem? (i := 18) rfl)) rfl), by decide +kernel, ⟨by decide +kernel, by decide +kernel, by decide +kernel⟩, fun h => absurd h (by decide), fun _ => ⟨(TW_mk (tl_8 _ (List.mem_of_getElem? (i := 221) rfl)) rfl), (TW_mk (tp_9 (n := 67) (List.mem_of_getElem? (i := 3) rfl)) rfl), TX12, 67, rfl⟩, tk_X12_copies, pk_X12, by decide⟩
set_option maxRecDepth 100000 in
theorem tk_X12_begins : ∀ q ∈ tab_X12_begins, decode cX12_begins q.1 = .ok q.2 := by decide +kernel
set_option maxRecDepth 100000 in
theorem mk_X12_begins : bmok TW cls_ MT M_X12_begins := ⟨(TW_mk (tl_6 _ (List.mem_of_getElem? (i := 225) rfl)) rfl), (TW_mk (tl_1 _ (List.mem_of_getElem? (i := 18) rfl)) rfl), by decide +kernel, ⟨by decide +kernel, by decide +kernel, by decide +kernel⟩, fun h => absurd h (by decide), fun _ => ⟨(TW_mk (tl_6 _ (List.mem_of_getElem? (i := 224) rfl)) rfl), (TW_mk (tp_6 (n := 67) (List.mem_of_getElem? (i := 2) rfl)) rfl), TX12, 67, rfl⟩, tk_X12_begins, pk_X12, by decide⟩
set_option maxRecDepth 100000 in
theorem tk_X12_tries : ∀ q ∈ tab_X12_tries, decode cX12_tries q.1 = .ok q.2 := by decide +kernel
set_option maxRecDepth 100000 in
theorem mk_X12_tries : bmok TW cls_ MT M_X12_tries := ⟨(TW_mk (tl_9 _ (List.mem_of_getElem? (i := 10) rfl)) rfl), (TW_mk (tl_1 _ (List.mem_of_getElem? (i := 18) rfl)) rfl), by decide +kernel, ⟨by decide +kernel, by decide +kernel, by decide +kernel⟩, fun h => absurd h (by decide), fun _ => ⟨(TW_mk (tl_9 _ (List.mem_of_getElem? (i := 9) rfl)) rfl), (TW_mk (tp_9 (n := 67) (List.mem_of_getElem? (i := 8) rfl)) rfl), TX12, 67, rfl⟩, tk_X12_tries, pk_X12, by decide⟩
set_option maxRecDepth 100000 in
theorem tk_X12_isIn : ∀ q ∈ tab_X12_isIn, decode cX12_isIn q.1 = .ok q.2 := by decide +kernel
set_option maxRecDepth 100000 in
theorem mk_X12_isIn : bmok TW cls_ MT M_X12_isIn := ⟨(TW_mk (tl_8 _ (List.mem_of_getElem? (i := 159) rfl)) rfl), (TW_mk (tl_1 _ (List.mem_of_getElem? (i := 18) rfl)) rfl), by decide +kernel, ⟨by decide +kernel, by decide +kernel, by decide +kernel⟩, fun _ => (TW_mk (tl_8 _ (List.mem_of_getElem? (i := 158) rfl)) rfl), fun h => absurd h (by decide), tk_X12_isIn, pk_X12, by decide⟩
set_option maxRecDepth 100000 in
theorem tk_X12_within : ∀ q ∈ tab_X12_within, decode cX12_within q.1 = .ok q.2 := by decide +kernel
set_option maxRecDepth 100000 in
theorem mk_X12_within : bmok TW cls_ MT M_X12_within := ⟨(TW_mk (tl_8 _ (List.mem_of_getElem? (i := 202) rfl)) rfl), (TW_mk (tl_1 _ (List.mem_of_getElem? (i := 18) rfl)) rfl), by decide +kernel, ⟨by decide +kernel, by decide +kernel, by decide +kernel⟩, fun _ => (TW_mk (tl_8 _ (List.mem_of_getElem? (i := 201) rfl)) rfl), fun h => absurd h (by decide), tk_X12_within, pk_X12, by decide⟩
set_option maxRecDepth 100000 in
theorem tk_X12_isBank : ∀ q ∈ tab_X12_isBank, decode cX12_isBank q.1 = .ok q.2 := by decide +kernel
set_option maxRecDepth 100000 in
theorem mk_X12_isBank : bmok TW cls_ MT M_X12_isBank := ⟨(TW_mk (tl_8 _ (List.mem_of_getElem? (i := 144) rfl)) rfl), (TW_mk (tl_1 _ (List.mem_of_getElem? (i := 18) rfl)) rfl), by decide +kernel, ⟨by decide +kernel, by decide +kernel, by decide +kernel⟩, fun h => absurd h (by decide), fun _ => ⟨(TW_mk (tl_8 _ (List.mem_of_getElem? (i := 143) rfl)) rfl), (TW_mk (tp_8 (n := 67) (List.mem_of_getElem? (i := 6) rfl)) rfl), TX12, 67, rfl⟩, tk_X12_isBank, pk_X12, by decide⟩
set_option maxRecDepth 100000 in
theorem tk_X12_isBridge : ∀ q ∈ tab_X12_isBridge, decode cX12_isBridge q.1 = .ok q.2 := by decide +kernel
set_option maxRecDepth 100000 in
theorem mk_X12_isBridge : bmok TW cls_ MT M_X12_isBridge := ⟨(TW_mk (tl_8 _ (List.mem_of_getElem? (i := 156) rfl)) rfl), (TW_mk (tl_1 _ (List.mem_of_getElem? (i := 18) rfl)) rfl), by decide +kernel, ⟨by decide +kernel, by decide +kernel, by decide +kernel⟩, fun h => absurd h (by decide), fun _ => ⟨(TW_mk (tl_8 _ (List.mem_of_getElem? (i := 155) rfl)) rfl), (TW_mk (tp_8 (n := 67) (List.mem_of_getElem? (i := 8) rfl)) rfl), TX12, 67, rfl⟩, tk_X12_isBridge, pk_X12, by decide⟩
set_option maxRecDepth 100000 in
theorem tk_X12_isMan : ∀ q ∈ tab_X12_isMan, decode cX12_isMan q.1 = .ok q.2 := by decide +kernel
set_option maxRecDepth 100000 in
theorem mk_X12_isMan : bmok TW cls_ MT M_X12_isMan := ⟨(TW_mk (tl_8 _ (List.mem_of_getElem? (i := 167) rfl)) rfl), (TW_mk (tl_1 _ (List.mem_of_getElem? (i := 18) rfl)) rfl), by decide +kernel, ⟨by decide +kernel, by decide +kernel, by decide +kernel⟩, fun h => absurd h (by decide), fun _ => ⟨(TW_mk (tl_8 _ (List.mem_of_getElem? (i := 166) rfl)) rfl), (TW_mk (tp_8 (n := 67) (List.mem_of_getElem? (i := 9) rfl)) rfl), TX12, 67, rfl⟩, tk_X12_isMan, pk_X12, by decide⟩
set_option maxRecDepth 100000 in
theorem tk_X12_joined : ∀ q ∈ tab_X12_joined, decode cX12_joined q.1 = .ok q.2 := by decide +kernel
set_option maxRecDepth 100000 in
theorem mk_X12_joined : bmok TW cls_ MT M_X12_joined := ⟨(TW_mk (tl_8 _ (List.mem_of_getElem? (i := 191) rfl)) rfl), (TW_mk (tl_1 _ (List.mem_of_getElem? (i := 18) rfl)) rfl), by decide +kernel, ⟨by decide +kernel, by decide +kernel, by decide +kernel⟩, fun h => absurd h (by decide), fun _ => ⟨(TW_mk (tl_8 _ (List.mem_of_getElem? (i := 190) rfl)) rfl), (TW_mk (tp_8 (n := 67) (List.mem_of_getElem? (i := 14) rfl)) rfl), TX12, 67, rfl⟩, tk_X12_joined, pk_X12, by decide⟩
set_option maxRecDepth 100000 in
theorem tk_X12_sumTold : ∀ q ∈ tab_X12_sumTold, decode cX12_sumTold q.1 = .ok q.2 := by decide +kernel
set_option maxRecDepth 100000 in
theorem mk_X12_sumTold : bmok TW cls_ MT M_X12_sumTold := ⟨(TW_mk (tl_8 _ (List.mem_of_getElem? (i := 187) rfl)) rfl), (TW_mk (tl_1 _ (List.mem_of_getElem? (i := 18) rfl)) rfl), by decide +kernel, ⟨by decide +kernel, by decide +kernel, by decide +kernel⟩, fun h => absurd h (by decide), fun _ => ⟨(TW_mk (tl_8 _ (List.mem_of_getElem? (i := 186) rfl)) rfl), (TW_mk (tp_8 (n := 67) (List.mem_of_getElem? (i := 13) rfl)) rfl), TX12, 67, rfl⟩, tk_X12_sumTold, pk_X12, by decide⟩
set_option maxRecDepth 100000 in
theorem tk_X12_lawOf : ∀ q ∈ tab_X12_lawOf, decode cX12_lawOf q.1 = .ok q.2 := by decide +kernel
set_option maxRecDepth 100000 in
theorem mk_X12_lawOf : bmok TW cls_ MT M_X12_lawOf := ⟨(TW_mk (tl_8 _ (List.mem_of_getElem? (i := 183) rfl)) rfl), (TW_mk (tl_1 _ (List.mem_of_getElem? (i := 18) rfl)) rfl), by decide +kernel, ⟨by decide +kernel, by decide +kernel, by decide +kernel⟩, fun h => absurd h (by decide), fun _ => ⟨(TW_mk (tl_8 _ (List.mem_of_getElem? (i := 182) rfl)) rfl), (TW_mk (tp_8 (n := 67) (List.mem_of_getElem? (i := 12) rfl)) rfl), TX12, 67, rfl⟩, tk_X12_lawOf, pk_X12, by decide⟩
set_option maxRecDepth 100000 in
theorem tk_X12_asks : ∀ q ∈ tab_X12_asks, decode cX12_asks q.1 = .ok q.2 := by decide +kernel
set_option maxRecDepth 100000 in
theorem mk_X12_asks : bmok TW cls_ MT M_X12_asks := ⟨(TW_mk (tl_8 _ (List.mem_of_getElem? (i := 179) rfl)) rfl), (TW_mk (tl_1 _ (List.mem_of_getElem? (i := 18) rfl)) rfl), by decide +kernel, ⟨by decide +kernel, by decide +kernel, by decide +kernel⟩, fun h => absurd h (by decide), fun _ => ⟨(TW_mk (tl_8 _ (List.mem_of_getElem? (i := 178) rfl)) rfl), (TW_mk (tp_8 (n := 67) (List.mem_of_getElem? (i := 11) rfl)) rfl), TX12, 67, rfl⟩, tk_X12_asks, pk_X12, by decide⟩
set_option maxRecDepth 100000 in
theorem tk_X12_wishOf : ∀ q ∈ tab_X12_wishOf, decode cX12_wishOf q.1 = .ok q.2 := by decide +kernel
set_option maxRecDepth 100000 in
theorem mk_X12_wishOf : bmok TW cls_ MT M_X12_wishOf := ⟨(TW_mk (tl_8 _ (List.mem_of_getElem? (i := 175) rfl)) rfl), (TW_mk (tl_1 _ (List.mem_of_getElem? (i := 18) rfl)) rfl), by decide +kernel, ⟨by decide +kernel, by decide +kernel, by decide +kernel⟩, fun h => absurd h (by decide), fun _ => ⟨(TW_mk (tl_8 _ (List.mem_of_getElem? (i := 174) rfl)) rfl), (TW_mk (tp_8 (n := 67) (List.mem_of_getElem? (i := 10) rfl)) rfl), TX12, 67, rfl⟩, tk_X12_wishOf, pk_X12, by decide⟩
set_option maxRecDepth 100000 in
theorem tk_X12_tollOf : ∀ q ∈ tab_X12_tollOf, decode cX12_tollOf q.1 = .ok q.2 := by decide +kernel
set_option maxRecDepth 100000 in
theorem mk_X12_tollOf : bmok TW cls_ MT M_X12_tollOf := ⟨(TW_mk (tl_8 _ (List.mem_of_getElem? (i := 199) rfl)) rfl), (TW_mk (tl_1 _ (List.mem_of_getElem? (i := 18) rfl)) rfl), by decide +kernel, ⟨by decide +kernel, by decide +kernel, by decide +kernel⟩, fun h => absurd h (by decide), fun _ => ⟨(TW_mk (tl_8 _ (List.mem_of_getElem? (i := 198) rfl)) rfl), (TW_mk (tp_8 (n := 67) (List.mem_of_getElem? (i := 15) rfl)) rfl), TX12, 67, rfl⟩, tk_X12_tollOf, pk_X12, by decide⟩
set_option maxRecDepth 100000 in
theorem tk_X12_goesBy : ∀ q ∈ tab_X12_goesBy, decode cX12_goesBy q.1 = .ok q.2 := by decide +kernel
set_option maxRecDepth 100000 in
theorem mk_X12_goesBy : bmok TW cls_ MT M_X12_goesBy := ⟨(TW_mk (tl_9 _ (List.mem_of_getElem? (i := 54) rfl)) rfl), (TW_mk (tl_1 _ (List.mem_of_getElem? (i := 18) rfl)) rfl), by decide +kernel, ⟨by decide +kernel, by decide +kernel, by decide +kernel⟩, fun h => absurd h (by decide), fun _ => ⟨(TW_mk (tl_9 _ (List.mem_of_getElem? (i := 53) rfl)) rfl), (TW_mk (tp_9 (n := 67) (List.mem_of_getElem? (i := 15) rfl)) rfl), TX12, 67, rfl⟩, tk_X12_goesBy, pk_X12, by decide⟩
set_option maxRecDepth 100000 in
theorem tk_X12_isOn : ∀ q ∈ tab_X12_isOn, decode cX12_isOn q.1 = .ok q.2 := by decide +kernel
set_option maxRecDepth 100000 in
theorem mk_X12_isOn : bmok TW cls_ MT M_X12_isOn := ⟨(TW_mk (tl_8 _ (List.mem_of_getElem? (i := 148) rfl)) rfl), (TW_mk (tl_1 _ (List.mem_of_getElem? (i := 18) rfl)) rfl), by decide +kernel, ⟨by decide +kernel, by decide +kernel, by decide +kernel⟩, fun h => absurd h (by decide), fun _ => ⟨(TW_mk (tl_8 _ (List.mem_of_getElem? (i := 147) rfl)) rfl), (TW_mk (tp_8 (n := 67) (List.mem_of_getElem? (i := 7) rfl)) rfl), TX12, 67, rfl⟩, tk_X12_isOn, pk_X12, by decide⟩
set_option maxRecDepth 100000 in
theorem tk_X12_isAtFoot : ∀ q ∈ tab_X12_isAtFoot, decode cX12_isAtFoot q.1 = .ok q.2 := by decide +kernel
set_option maxRecDepth 100000 in
theorem mk_X12_isAtFoot : bmok TW cls_ MT M_X12_isAtFoot := ⟨(TW_mk (tl_8 _ (List.mem_of_getElem? (i := 214) rfl)) rfl), (TW_mk (tl_1 _ (List.mem_of_getElem? (i := 18) rfl)) rfl), by decide +kernel, ⟨by decide +kernel, by decide +kernel, by decide +kernel⟩, fun h => absurd h (by decide), fun _ => ⟨(TW_mk (tl_8 _ (List.mem_of_getElem? (i := 213) rfl)) rfl), (TW_mk (tp_9 (n := 67) (List.mem_of_getElem? (i := 1) rfl)) rfl), TX12, 67, rfl⟩, tk_X12_isAtFoot, pk_X12, by decide⟩
set_option maxRecDepth 100000 in
theorem tk_X12_could : ∀ q ∈ tab_X12_could, decode cX12_could q.1 = .ok q.2 := by decide +kernel
set_option maxRecDepth 100000 in
theorem mk_X12_could : bmok TW cls_ MT M_X12_could := ⟨(TW_mk (tl_8 _ (List.mem_of_getElem? (i := 210) rfl)) rfl), (TW_mk (tl_1 _ (List.mem_of_getElem? (i := 18) rfl)) rfl), by decide +kernel, ⟨by decide +kernel, by decide +kernel, by decide +kernel⟩, fun h => absurd h (by decide), fun _ => ⟨(TW_mk (tl_8 _ (List.mem_of_getElem? (i := 209) rfl)) rfl), (TW_mk (tp_9 (n := 67) (List.mem_of_getElem? (i := 0) rfl)) rfl), TX12, 67, rfl⟩, tk_X12_could, pk_X12, by decide⟩
set_option maxRecDepth 100000 in
theorem tk_X12_isHome : ∀ q ∈ tab_X12_isHome, decode cX12_isHome q.1 = .ok q.2 := by decide +kernel
set_option maxRecDepth 100000 in
theorem mk_X12_isHome : bmok TW cls_ MT M_X12_isHome := ⟨(TW_mk (tl_9 _ (List.mem_of_getElem? (i := 46) rfl)) rfl), (TW_mk (tl_1 _ (List.mem_of_getElem? (i := 18) rfl)) rfl), by decide +kernel, ⟨by decide +kernel, by decide +kernel, by decide +kernel⟩, fun h => absurd h (by decide), fun _ => ⟨(TW_mk (tl_9 _ (List.mem_of_getElem? (i := 45) rfl)) rfl), (TW_mk (tp_9 (n := 67) (List.mem_of_getElem? (i := 13) rfl)) rfl), TX12, 67, rfl⟩, tk_X12_isHome, pk_X12, by decide⟩
set_option maxRecDepth 100000 in
theorem tk_X12_comes : ∀ q ∈ tab_X12_comes, decode cX12_comes q.1 = .ok q.2 := by decide +kernel
set_option maxRecDepth 100000 in
theorem mk_X12_comes : bmok TW cls_ MT M_X12_comes := ⟨(TW_mk (tl_8 _ (List.mem_of_getElem? (i := 230) rfl)) rfl), (TW_mk (tl_1 _ (List.mem_of_getElem? (i := 18) rfl)) rfl), by decide +kernel, ⟨by decide +kernel, by decide +kernel, by decide +kernel⟩, fun h => absurd h (by decide), fun _ => ⟨(TW_mk (tl_8 _ (List.mem_of_getElem? (i := 229) rfl)) rfl), (TW_mk (tp_9 (n := 67) (List.mem_of_getElem? (i := 5) rfl)) rfl), TX12, 67, rfl⟩, tk_X12_comes, pk_X12, by decide⟩
set_option maxRecDepth 100000 in
theorem tk_X12_crosses : ∀ q ∈ tab_X12_crosses, decode cX12_crosses q.1 = .ok q.2 := by decide +kernel
set_option maxRecDepth 100000 in
theorem mk_X12_crosses : bmok TW cls_ MT M_X12_crosses := ⟨(TW_mk (tl_8 _ (List.mem_of_getElem? (i := 226) rfl)) rfl), (TW_mk (tl_1 _ (List.mem_of_getElem? (i := 18) rfl)) rfl), by decide +kernel, ⟨by decide +kernel, by decide +kernel, by decide +kernel⟩, fun h => absurd h (by decide), fun _ => ⟨(TW_mk (tl_8 _ (List.mem_of_getElem? (i := 225) rfl)) rfl), (TW_mk (tp_9 (n := 67) (List.mem_of_getElem? (i := 4) rfl)) rfl), TX12, 67, rfl⟩, tk_X12_crosses, pk_X12, by decide⟩
set_option maxRecDepth 100000 in
theorem tk_X12_mixed : ∀ q ∈ tab_X12_mixed, decode cX12_mixed q.1 = .ok q.2 := by decide +kernel
set_option maxRecDepth 100000 in
theorem mk_X12_mixed : bmok TW cls_ MT M_X12_mixed := ⟨(TW_mk (tl_9 _ (List.mem_of_getElem? (i := 1) rfl)) rfl), (TW_mk (tl_1 _ (List.mem_of_getElem? (i := 18) rfl)) rfl), by decide +kernel, ⟨by decide +kernel, by decide +kernel, by decide +kernel⟩, fun _ => (TW_mk (tl_9 _ (List.mem_of_getElem? (i := 0) rfl)) rfl), fun h => absurd h (by decide), tk_X12_mixed, pk_X12, by decide⟩
set_option maxRecDepth 100000 in
theorem tk_X12_lot : ∀ q ∈ tab_X12_lot, decode cX12_lot q.1 = .ok q.2 := by decide +kernel
set_option maxRecDepth 100000 in
theorem mk_X12_lot : bmok TW cls_ MT M_X12_lot := ⟨(TW_mk (tl_8 _ (List.mem_of_getElem? (i := 238) rfl)) rfl), (TW_mk (tl_1 _ (List.mem_of_getElem? (i := 18) rfl)) rfl), by decide +kernel, ⟨by decide +kernel, by decide +kernel, by decide +kernel⟩, fun h => absurd h (by decide), fun _ => ⟨(TW_mk (tl_8 _ (List.mem_of_getElem? (i := 237) rfl)) rfl), (TW_mk (tp_9 (n := 67) (List.mem_of_getElem? (i := 7) rfl)) rfl), TX12, 67, rfl⟩, tk_X12_lot, pk_X12, by decide⟩
set_option maxRecDepth 100000 in
theorem tk_X12_hourGoes : ∀ q ∈ tab_X12_hourGoes, decode cX12_hourGoes q.1 = .ok q.2 := by decide +kernel
set_option maxRecDepth 100000 in
theorem mk_X12_hourGoes : bmok TW cls_ MT M_X12_hourGoes := ⟨(TW_mk (tl_8 _ (List.mem_of_getElem? (i := 234) rfl)) rfl), (TW_mk (tl_1 _ (List.mem_of_getElem? (i := 18) rfl)) rfl), by decide +kernel, ⟨by decide +kernel, by decide +kernel, by decide +kernel⟩, fun h => absurd h (by decide), fun _ => ⟨(TW_mk (tl_8 _ (List.mem_of_getElem? (i := 233) rfl)) rfl), (TW_mk (tp_9 (n := 67) (List.mem_of_getElem? (i := 6) rfl)) rfl), TX12, 67, rfl⟩, tk_X12_hourGoes, pk_X12, by decide⟩
set_option maxRecDepth 100000 in
theorem tk_X12_hoursGo : ∀ q ∈ tab_X12_hoursGo, decode cX12_hoursGo q.1 = .ok q.2 := by decide +kernel
set_option maxRecDepth 100000 in
theorem mk_X12_hoursGo : bmok TW cls_ MT M_X12_hoursGo := ⟨(TW_mk (tl_9 _ (List.mem_of_getElem? (i := 26) rfl)) rfl), (TW_mk (tl_1 _ (List.mem_of_getElem? (i := 18) rfl)) rfl), by decide +kernel, ⟨by decide +kernel, by decide +kernel, by decide +kernel⟩, fun h => absurd h (by decide), fun _ => ⟨(TW_mk (tl_9 _ (List.mem_of_getElem? (i := 25) rfl)) rfl), (TW_mk (tp_9 (n := 67) (List.mem_of_getElem? (i := 10) rfl)) rfl), TX12, 67, rfl⟩, tk_X12_hoursGo, pk_X12, by decide⟩
set_option maxRecDepth 100000 in
theorem tk_X12_taken : ∀ q ∈ tab_X12_taken, decode cX12_taken q.1 = .ok q.2 := by decide +kernel
set_option maxRecDepth 100000 in
theorem mk_X12_taken : bmok TW cls_ MT M_X12_taken := ⟨(TW_mk (tl_9 _ (List.mem_of_getElem? (i := 50) rfl)) rfl), (TW_mk (tl_1 _ (List.mem_of_getElem? (i := 18) rfl)) rfl), by decide +kernel, ⟨by decide +kernel, by decide +kernel, by decide +kernel⟩, fun h => absurd h (by decide), fun _ => ⟨(TW_mk (tl_9 _ (List.mem_of_getElem? (i := 49) rfl)) rfl), (TW_mk (tp_9 (n := 67) (List.mem_of_getElem? (i := 14) rfl)) rfl), TX12, 67, rfl⟩, tk_X12_taken, pk_X12, by decide⟩
set_option maxRecDepth 100000 in
theorem tk_X12_ruleGoes : ∀ q ∈ tab_X12_ruleGoes, decode cX12_ruleGoes q.1 = .ok q.2 := by decide +kernel
set_option maxRecDepth 100000 in
theorem mk_X12_ruleGoes : bmok TW cls_ MT M_X12_ruleGoes := ⟨(TW_mk (tl_9 _ (List.mem_of_getElem? (i := 42) rfl)) rfl), (TW_mk (tl_1 _ (List.mem_of_getElem? (i := 18) rfl)) rfl), by decide +kernel, ⟨by decide +kernel, by decide +kernel, by decide +kernel⟩, fun h => absurd h (by decide), fun _ => ⟨(TW_mk (tl_9 _ (List.mem_of_getElem? (i := 41) rfl)) rfl), (TW_mk (tp_9 (n := 67) (List.mem_of_getElem? (i := 12) rfl)) rfl), TX12, 67, rfl⟩, tk_X12_ruleGoes, pk_X12, by decide⟩
set_option maxRecDepth 100000 in
theorem tk_X12_rulesGo : ∀ q ∈ tab_X12_rulesGo, decode cX12_rulesGo q.1 = .ok q.2 := by decide +kernel
set_option maxRecDepth 100000 in
theorem mk_X12_rulesGo : bmok TW cls_ MT M_X12_rulesGo := ⟨(TW_mk (tl_9 _ (List.mem_of_getElem? (i := 38) rfl)) rfl), (TW_mk (tl_1 _ (List.mem_of_getElem? (i := 18) rfl)) rfl), by decide +kernel, ⟨by decide +kernel, by decide +kernel, by decide +kernel⟩, fun h => absurd h (by decide), fun _ => ⟨(TW_mk (tl_9 _ (List.mem_of_getElem? (i := 37) rfl)) rfl), (TW_mk (tp_9 (n := 67) (List.mem_of_getElem? (i := 11) rfl)) rfl), TX12, 67, rfl⟩, tk_X12_rulesGo, pk_X12, by decide⟩
set_option maxRecDepth 100000 in
theorem tk_X12_bank : ∀ q ∈ tab_X12_bank, decode cX12_bank q.1 = .ok q.2 := by decide +kernel
set_option maxRecDepth 100000 in
theorem mk_X12_bank : bmok TW cls_ MT M_X12_bank := ⟨(TW_mk (tl_8 _ (List.mem_of_getElem? (i := 140) rfl)) rfl), (TW_mk (tl_1 _ (List.mem_of_getElem? (i := 18) rfl)) rfl), by decide +kernel, ⟨by decide +kernel, by decide +kernel, by decide +kernel⟩, fun h => absurd h (by decide), fun _ => ⟨(TW_mk (tl_8 _ (List.mem_of_getElem? (i := 138) rfl)) rfl), (TW_mk (tl_8 _ (List.mem_of_getElem? (i := 139) rfl)) rfl), TX12, 67, rfl⟩, tk_X12_bank, pk_X12, by decide⟩
set_option maxRecDepth 100000 in
theorem tk_X12_bridge : ∀ q ∈ tab_X12_bridge, decode cX12_bridge q.1 = .ok q.2 := by decide +kernel
set_option maxRecDepth 100000 in
theorem mk_X12_bridge : bmok TW cls_ MT M_X12_bridge := ⟨(TW_mk (tl_8 _ (List.mem_of_getElem? (i := 152) rfl)) rfl), (TW_mk (tl_1 _ (List.mem_of_getElem? (i := 18) rfl)) rfl), by decide +kernel, ⟨by decide +kernel, by decide +kernel, by decide +kernel⟩, fun h => absurd h (by decide), fun _ => ⟨(TW_mk (tl_8 _ (List.mem_of_getElem? (i := 150) rfl)) rfl), (TW_mk (tl_8 _ (List.mem_of_getElem? (i := 151) rfl)) rfl), TX12, 67, rfl⟩, tk_X12_bridge, pk_X12, by decide⟩
set_option maxRecDepth 100000 in
theorem tk_X12_man : ∀ q ∈ tab_X12_man, decode cX12_man q.1 = .ok q.2 := by decide +kernel
set_option maxRecDepth 100000 in
theorem mk_X12_man : bmok TW cls_ MT M_X12_man := ⟨(TW_mk (tl_8 _ (List.mem_of_getElem? (i := 163) rfl)) rfl), (TW_mk (tl_1 _ (List.mem_of_getElem? (i := 18) rfl)) rfl), by decide +kernel, ⟨by decide +kernel, by decide +kernel, by decide +kernel⟩, fun h => absurd h (by decide), fun _ => ⟨(TW_mk (tl_8 _ (List.mem_of_getElem? (i := 161) rfl)) rfl), (TW_mk (tl_8 _ (List.mem_of_getElem? (i := 162) rfl)) rfl), TX12, 67, rfl⟩, tk_X12_man, pk_X12, by decide⟩
set_option maxRecDepth 100000 in
theorem tk_X12_wish : ∀ q ∈ tab_X12_wish, decode cX12_wish q.1 = .ok q.2 := by decide +kernel
set_option maxRecDepth 100000 in
theorem mk_X12_wish : bmok TW cls_ MT M_X12_wish := ⟨(TW_mk (tl_8 _ (List.mem_of_getElem? (i := 171) rfl)) rfl), (TW_mk (tl_1 _ (List.mem_of_getElem? (i := 18) rfl)) rfl), by decide +kernel, ⟨by decide +kernel, by decide +kernel, by decide +kernel⟩, fun h => absurd h (by decide), fun _ => ⟨(TW_mk (tl_8 _ (List.mem_of_getElem? (i := 169) rfl)) rfl), (TW_mk (tl_8 _ (List.mem_of_getElem? (i := 170) rfl)) rfl), TX12, 67, rfl⟩, tk_X12_wish, pk_X12, by decide⟩
set_option maxRecDepth 100000 in
theorem tk_X12_toll : ∀ q ∈ tab_X12_toll, decode cX12_toll q.1 = .ok q.2 := by decide +kernel
set_option maxRecDepth 100000 in
theorem mk_X12_toll : bmok TW cls_ MT M_X12_toll := ⟨(TW_mk (tl_8 _ (List.mem_of_getElem? (i := 195) rfl)) rfl), (TW_mk (tl_1 _ (List.mem_of_getElem? (i := 18) rfl)) rfl), by decide +kernel, ⟨by decide +kernel, by decide +kernel, by decide +kernel⟩, fun h => absurd h (by decide), fun _ => ⟨(TW_mk (tl_8 _ (List.mem_of_getElem? (i := 193) rfl)) rfl), (TW_mk (tl_8 _ (List.mem_of_getElem? (i := 194) rfl)) rfl), TX12, 67, rfl⟩, tk_X12_toll, pk_X12, by decide⟩
set_option maxRecDepth 100000 in
theorem tk_X12_keeps : ∀ q ∈ tab_X12_keeps, decode cX12_keeps q.1 = .ok q.2 := by decide +kernel
set_option maxRecDepth 100000 in
theorem mk_X12_keeps : bmok TW cls_ MT M_X12_keeps := ⟨(TW_mk (tl_8 _ (List.mem_of_getElem? (i := 218) rfl)) rfl), (TW_mk (tl_1 _ (List.mem_of_getElem? (i := 18) rfl)) rfl), by decide +kernel, ⟨by decide +kernel, by decide +kernel, by decide +kernel⟩, fun h => absurd h (by decide), fun _ => ⟨(TW_mk (tl_8 _ (List.mem_of_getElem? (i := 217) rfl)) rfl), (TW_mk (tp_9 (n := 67) (List.mem_of_getElem? (i := 2) rfl)) rfl), TX12, 67, rfl⟩, tk_X12_keeps, pk_X12, by decide⟩
set_option maxRecDepth 100000 in
theorem tk_X12_cross : ∀ q ∈ tab_X12_cross, decode cX12_cross q.1 = .ok q.2 := by decide +kernel
set_option maxRecDepth 100000 in
theorem mk_X12_cross : bmok TW cls_ MT M_X12_cross := ⟨(TW_mk (tl_8 _ (List.mem_of_getElem? (i := 206) rfl)) rfl), (TW_mk (tl_1 _ (List.mem_of_getElem? (i := 18) rfl)) rfl), by decide +kernel, ⟨by decide +kernel, by decide +kernel, by decide +kernel⟩, fun h => absurd h (by decide), fun _ => ⟨(TW_mk (tl_8 _ (List.mem_of_getElem? (i := 204) rfl)) rfl), (TW_mk (tl_8 _ (List.mem_of_getElem? (i := 205) rfl)) rfl), TX12, 67, rfl⟩, tk_X12_cross, pk_X12, by decide⟩
set_option maxRecDepth 100000 in
theorem tk_X12_pair : ∀ q ∈ tab_X12_pair, decode cX12_pair q.1 = .ok q.2 := by decide +kernel
set_option maxRecDepth 100000 in
theorem mk_X12_pair : bmok TW cls_ MT M_X12_pair := ⟨(TW_mk (tl_9 _ (List.mem_of_getElem? (i := 6) rfl)) rfl), (TW_mk (tl_1 _ (List.mem_of_getElem? (i := 18) rfl)) rfl), by decide +kernel, ⟨by decide +kernel, by decide +kernel, by decide +kernel⟩, fun h => absurd h (by decide), fun _ => ⟨(TW_mk (tl_9 _ (List.mem_of_getElem? (i := 4) rfl)) rfl), (TW_mk (tl_9 _ (List.mem_of_getElem? (i := 5) rfl)) rfl), TX12, 67, rfl⟩, tk_X12_pair, pk_X12, by decide⟩
set_option maxRecDepth 100000 in
theorem tk_X12_hire : ∀ q ∈ tab_X12_hire, decode cX12_hire q.1 = .ok q.2 := by decide +kernel
set_option maxRecDepth 100000 in
theorem mk_X12_hire : bmok TW cls_ MT M_X12_hire := ⟨(TW_mk (tl_9 _ (List.mem_of_getElem? (i := 14) rfl)) rfl), (TW_mk (tl_1 _ (List.mem_of_getElem? (i := 18) rfl)) rfl), by decide +kernel, ⟨by decide +kernel, by decide +kernel, by decide +kernel⟩, fun h => absurd h (by decide), fun _ => ⟨(TW_mk (tl_9 _ (List.mem_of_getElem? (i := 12) rfl)) rfl), (TW_mk (tl_9 _ (List.mem_of_getElem? (i := 13) rfl)) rfl), TX12, 67, rfl⟩, tk_X12_hire, pk_X12, by decide⟩
set_option maxRecDepth 100000 in
theorem tk_X12_pathOf : ∀ q ∈ tab_X12_pathOf, decode cX12_pathOf q.1 = .ok q.2 := by decide +kernel
set_option maxRecDepth 100000 in
theorem mk_X12_pathOf : bmok TW cls_ MT M_X12_pathOf := ⟨(TW_mk (tl_9 _ (List.mem_of_getElem? (i := 22) rfl)) rfl), (TW_mk (tl_1 _ (List.mem_of_getElem? (i := 18) rfl)) rfl), by decide +kernel, ⟨by decide +kernel, by decide +kernel, by decide +kernel⟩, fun h => absurd h (by decide), fun _ => ⟨(TW_mk (tl_9 _ (List.mem_of_getElem? (i := 21) rfl)) rfl), (TW_mk (tp_9 (n := 67) (List.mem_of_getElem? (i := 9) rfl)) rfl), TX12, 67, rfl⟩, tk_X12_pathOf, pk_X12, by decide⟩
set_option maxRecDepth 100000 in
theorem tk_X12_walk : ∀ q ∈ tab_X12_walk, decode cX12_walk q.1 = .ok q.2 := by decide +kernel
set_option maxRecDepth 100000 in
theorem mk_X12_walk : bmok TW cls_ MT M_X12_walk := ⟨(TW_mk (tl_9 _ (List.mem_of_getElem? (i := 18) rfl)) rfl), (TW_mk (tl_1 _ (List.mem_of_getElem? (i := 18) rfl)) rfl), by decide +kernel, ⟨by decide +kernel, by decide +kernel, by decide +kernel⟩, fun h => absurd h (by decide), fun _ => ⟨(TW_mk (tl_9 _ (List.mem_of_getElem? (i := 16) rfl)) rfl), (TW_mk (tl_9 _ (List.mem_of_getElem? (i := 17) rfl)) rfl), TX12, 67, rfl⟩, tk_X12_walk, pk_X12, by decide⟩
set_option maxRecDepth 100000 in
theorem tk_X12_hours : ∀ q ∈ tab_X12_hours, decode cX12_hours q.1 = .ok q.2 := by decide +kernel
set_option maxRecDepth 100000 in
theorem mk_X12_hours : bmok TW cls_ MT M_X12_hours := ⟨(TW_mk (tl_9 _ (List.mem_of_getElem? (i := 30) rfl)) rfl), (TW_mk (tl_1 _ (List.mem_of_getElem? (i := 18) rfl)) rfl), by decide +kernel, ⟨by decide +kernel, by decide +kernel, by decide +kernel⟩, fun h => absurd h (by decide), fun _ => ⟨(TW_mk (tl_9 _ (List.mem_of_getElem? (i := 28) rfl)) rfl), (TW_mk (tl_9 _ (List.mem_of_getElem? (i := 29) rfl)) rfl), TX12, 67, rfl⟩, tk_X12_hours, pk_X12, by decide⟩
set_option maxRecDepth 100000 in
theorem tk_X12_rule : ∀ q ∈ tab_X12_rule, decode cX12_rule q.1 = .ok q.2 := by decide +kernel
set_option maxRecDepth 100000 in
theorem mk_X12_rule : bmok TW cls_ MT M_X12_rule := ⟨(TW_mk (tl_9 _ (List.mem_of_getElem? (i := 34) rfl)) rfl), (TW_mk (tl_1 _ (List.mem_of_getElem? (i := 18) rfl)) rfl), by decide +kernel, ⟨by decide +kernel, by decide +kernel, by decide +kernel⟩, fun h => absurd h (by decide), fun _ => ⟨(TW_mk (tl_9 _ (List.mem_of_getElem? (i := 32) rfl)) rfl), (TW_mk (tl_9 _ (List.mem_of_getElem? (i := 33) rfl)) rfl), TX12, 67, rfl⟩, tk_X12_rule, pk_X12, by decide⟩
set_option maxRecDepth 100000 in
theorem tk_X12_undo : ∀ q ∈ tab_X12_undo, decode cX12_undo q.1 = .ok q.2 := by decide +kernel
set_option maxRecDepth 100000 in
theorem mk_X12_undo : bmok TW cls_ MT M_X12_undo := ⟨(TW_mk (tl_9 _ (List.mem_of_getElem? (i := 58) rfl)) rfl), (TW_mk (tl_1 _ (List.mem_of_getElem? (i := 18) rfl)) rfl), by decide +kernel, ⟨by decide +kernel, by decide +kernel, by decide +kernel⟩, fun h => absurd h (by decide), fun _ => ⟨(TW_mk (tl_9 _ (List.mem_of_getElem? (i := 56) rfl)) rfl), (TW_mk (tl_9 _ (List.mem_of_getElem? (i := 57) rfl)) rfl), TX12, 67, rfl⟩, tk_X12_undo, pk_X12, by decide⟩
set_option maxRecDepth 100000 in
theorem tk_X12_homesNow : ∀ q ∈ tab_X12_homesNow, decode cX12_homesNow q.1 = .ok q.2 := by decide +kernel
set_option maxRecDepth 100000 in
theorem mk_X12_homesNow : bmok TW cls_ MT M_X12_homesNow := ⟨(TW_mk (tl_9 _ (List.mem_of_getElem? (i := 66) rfl)) rfl), (TW_mk (tl_1 _ (List.mem_of_getElem? (i := 18) rfl)) rfl), by decide +kernel, ⟨by decide +kernel, by decide +kernel, by decide +kernel⟩, fun h => absurd h (by decide), fun _ => ⟨(TW_mk (tl_9 _ (List.mem_of_getElem? (i := 65) rfl)) rfl), (TW_mk (tp_10 (n := 67) (List.mem_of_getElem? (i := 0) rfl)) rfl), TX12, 67, rfl⟩, tk_X12_homesNow, pk_X12, by decide⟩
set_option maxRecDepth 100000 in
theorem tk_X12_homes : ∀ q ∈ tab_X12_homes, decode cX12_homes q.1 = .ok q.2 := by decide +kernel
set_option maxRecDepth 100000 in
theorem mk_X12_homes : bmok TW cls_ MT M_X12_homes := ⟨(TW_mk (tl_9 _ (List.mem_of_getElem? (i := 62) rfl)) rfl), (TW_mk (tl_1 _ (List.mem_of_getElem? (i := 18) rfl)) rfl), by decide +kernel, ⟨by decide +kernel, by decide +kernel, by decide +kernel⟩, fun h => absurd h (by decide), fun _ => ⟨(TW_mk (tl_9 _ (List.mem_of_getElem? (i := 60) rfl)) rfl), (TW_mk (tl_9 _ (List.mem_of_getElem? (i := 61) rfl)) rfl), TX12, 67, rfl⟩, tk_X12_homes, pk_X12, by decide⟩
set_option maxRecDepth 100000 in
theorem tk_X12_where : ∀ q ∈ tab_X12_where, decode cX12_where q.1 = .ok q.2 := by decide +kernel
set_option maxRecDepth 100000 in
theorem mk_X12_where : bmok TW cls_ MT M_X12_where := ⟨(TW_mk (tl_9 _ (List.mem_of_getElem? (i := 70) rfl)) rfl), (TW_mk (tl_1 _ (List.mem_of_getElem? (i := 18) rfl)) rfl), by decide +kernel, ⟨by decide +kernel, by decide +kernel, by decide +kernel⟩, fun h => absurd h (by decide), fun _ => ⟨(TW_mk (tl_9 _ (List.mem_of_getElem? (i := 68) rfl)) rfl), (TW_mk (tl_9 _ (List.mem_of_getElem? (i := 69) rfl)) rfl), TX12, 67, rfl⟩, tk_X12_where, pk_X12, by decide⟩
set_option maxRecDepth 100000 in
theorem tk_X12_last : ∀ q ∈ tab_X12_last, decode cX12_last q.1 = .ok q.2 := by decide +kernel
set_option maxRecDepth 100000 in
theorem mk_X12_last : bmok TW cls_ MT M_X12_last := ⟨(TW_mk (tl_9 _ (List.mem_of_getElem? (i := 74) rfl)) rfl), (TW_mk (tl_1 _ (List.mem_of_getElem? (i := 18) rfl)) rfl), by decide +kernel, ⟨by decide +kernel, by decide +kernel, by decide +kernel⟩, fun h => absurd h (by decide), fun _ => ⟨(TW_mk (tl_9 _ (List.mem_of_getElem? (i := 72) rfl)) rfl), (TW_mk (tl_9 _ (List.mem_of_getElem? (i := 73) rfl)) rfl), TX12, 67, rfl⟩, tk_X12_last, pk_X12, by decide⟩
set_option maxRecDepth 100000 in
theorem tk_X12_coins : ∀ q ∈ tab_X12_coins, decode cX12_coins q.1 = .ok q.2 := by decide +kernel
set_option maxRecDepth 100000 in
theorem mk_X12_coins : bmok TW cls_ MT M_X12_coins := ⟨(TW_mk (tl_9 _ (List.mem_of_getElem? (i := 78) rfl)) rfl), (TW_mk (tl_1 _ (List.mem_of_getElem? (i := 18) rfl)) rfl), by decide +kernel, ⟨by decide +kernel, by decide +kernel, by decide +kernel⟩, fun h => absurd h (by decide), fun _ => ⟨(TW_mk (tl_9 _ (List.mem_of_getElem? (i := 76) rfl)) rfl), (TW_mk (tl_9 _ (List.mem_of_getElem? (i := 77) rfl)) rfl), TX12, 67, rfl⟩, tk_X12_coins, pk_X12, by decide⟩
set_option maxRecDepth 100000 in
theorem tk_X12_homeBy : ∀ q ∈ tab_X12_homeBy, decode cX12_homeBy q.1 = .ok q.2 := by decide +kernel
set_option maxRecDepth 100000 in
theorem mk_X12_homeBy : bmok TW cls_ MT M_X12_homeBy := ⟨(TW_mk (tl_9 _ (List.mem_of_getElem? (i := 82) rfl)) rfl), (TW_mk (tl_1 _ (List.mem_of_getElem? (i := 18) rfl)) rfl), by decide +kernel, ⟨by decide +kernel, by decide +kernel, by decide +kernel⟩, fun h => absurd h (by decide), fun _ => ⟨(TW_mk (tl_9 _ (List.mem_of_getElem? (i := 80) rfl)) rfl), (TW_mk (tl_9 _ (List.mem_of_getElem? (i := 81) rfl)) rfl), TX12, 67, rfl⟩, tk_X12_homeBy, pk_X12, by decide⟩
set_option maxRecDepth 100000 in
theorem tk_X12_allHome : ∀ q ∈ tab_X12_allHome, decode cX12_allHome q.1 = .ok q.2 := by decide +kernel
set_option maxRecDepth 100000 in
theorem mk_X12_allHome : bmok TW cls_ MT M_X12_allHome := ⟨(TW_mk (tl_9 _ (List.mem_of_getElem? (i := 86) rfl)) rfl), (TW_mk (tl_1 _ (List.mem_of_getElem? (i := 18) rfl)) rfl), by decide +kernel, ⟨by decide +kernel, by decide +kernel, by decide +kernel⟩, fun h => absurd h (by decide), fun _ => ⟨(TW_mk (tl_9 _ (List.mem_of_getElem? (i := 84) rfl)) rfl), (TW_mk (tl_9 _ (List.mem_of_getElem? (i := 85) rfl)) rfl), TX12, 67, rfl⟩, tk_X12_allHome, pk_X12, by decide⟩
set_option maxRecDepth 100000 in
theorem tk_X12_odds : ∀ q ∈ tab_X12_odds, decode cX12_odds q.1 = .ok q.2 := by decide +kernel
set_option maxRecDepth 100000 in
theorem mk_X12_odds : bmok TW cls_ MT M_X12_odds := ⟨(TW_mk (tl_9 _ (List.mem_of_getElem? (i := 90) rfl)) rfl), (TW_mk (tl_1 _ (List.mem_of_getElem? (i := 18) rfl)) rfl), by decide +kernel, ⟨by decide +kernel, by decide +kernel, by decide +kernel⟩, fun h => absurd h (by decide), fun _ => ⟨(TW_mk (tl_9 _ (List.mem_of_getElem? (i := 88) rfl)) rfl), (TW_mk (tl_9 _ (List.mem_of_getElem? (i := 89) rfl)) rfl), TX12, 67, rfl⟩, tk_X12_odds, pk_X12, by decide⟩
set_option maxRecDepth 100000 in
theorem tk_X12_waiting : ∀ q ∈ tab_X12_waiting, decode cX12_waiting q.1 = .ok q.2 := by decide +kernel
set_option maxRecDepth 100000 in
theorem mk_X12_waiting : bmok TW cls_ MT M_X12_waiting := ⟨(TW_mk (tl_9 _ (List.mem_of_getElem? (i := 94) rfl)) rfl), (TW_mk (tl_1 _ (List.mem_of_getElem? (i := 18) rfl)) rfl), by decide +kernel, ⟨by decide +kernel, by decide +kernel, by decide +kernel⟩, fun h => absurd h (by decide), fun _ => ⟨(TW_mk (tl_9 _ (List.mem_of_getElem? (i := 92) rfl)) rfl), (TW_mk (tl_9 _ (List.mem_of_getElem? (i := 93) rfl)) rfl), TX12, 67, rfl⟩, tk_X12_waiting, pk_X12, by decide⟩
set_option maxRecDepth 100000 in
theorem tk_X12_follow : ∀ q ∈ tab_X12_follow, decode cX12_follow q.1 = .ok q.2 := by decide +kernel
set_option maxRecDepth 100000 in
theorem mk_X12_follow : bmok TW cls_ MT M_X12_follow := ⟨(TW_mk (tl_9 _ (List.mem_of_getElem? (i := 98) rfl)) rfl), (TW_mk (tl_1 _ (List.mem_of_getElem? (i := 18) rfl)) rfl), by decide +kernel, ⟨by decide +kernel, by decide +kernel, by decide +kernel⟩, fun h => absurd h (by decide), fun _ => ⟨(TW_mk (tl_9 _ (List.mem_of_getElem? (i := 96) rfl)) rfl), (TW_mk (tl_9 _ (List.mem_of_getElem? (i := 97) rfl)) rfl), TX12, 67, rfl⟩, tk_X12_follow, pk_X12, by decide⟩
set_option maxRecDepth 100000 in
theorem tk_X12_nears : ∀ q ∈ tab_X12_nears, decode cX12_nears q.1 = .ok q.2 := by decide +kernel
set_option maxRecDepth 100000 in
theorem mk_X12_nears : bmok TW cls_ MT M_X12_nears := ⟨(TW_mk (tl_9 _ (List.mem_of_getElem? (i := 115) rfl)) rfl), (TW_mk (tl_1 _ (List.mem_of_getElem? (i := 18) rfl)) rfl), by decide +kernel, ⟨by decide +kernel, by decide +kernel, by decide +kernel⟩, fun h => absurd h (by decide), fun _ => ⟨(TW_mk (tl_9 _ (List.mem_of_getElem? (i := 114) rfl)) rfl), (TW_mk (tp_10 (n := 67) (List.mem_of_getElem? (i := 3) rfl)) rfl), TX12, 67, rfl⟩, tk_X12_nears, pk_X12, by decide⟩
set_option maxRecDepth 100000 in
theorem tk_X12_goesOn : ∀ q ∈ tab_X12_goesOn, decode cX12_goesOn q.1 = .ok q.2 := by decide +kernel
set_option maxRecDepth 100000 in
theorem mk_X12_goesOn : bmok TW cls_ MT M_X12_goesOn := ⟨(TW_mk (tl_9 _ (List.mem_of_getElem? (i := 111) rfl)) rfl), (TW_mk (tl_1 _ (List.mem_of_getElem? (i := 18) rfl)) rfl), by decide +kernel, ⟨by decide +kernel, by decide +kernel, by decide +kernel⟩, fun h => absurd h (by decide), fun _ => ⟨(TW_mk (tl_9 _ (List.mem_of_getElem? (i := 110) rfl)) rfl), (TW_mk (tp_10 (n := 67) (List.mem_of_getElem? (i := 2) rfl)) rfl), TX12, 67, rfl⟩, tk_X12_goesOn, pk_X12, by decide⟩
set_option maxRecDepth 100000 in
theorem tk_X12_laysFar : ∀ q ∈ tab_X12_laysFar, decode cX12_laysFar q.1 = .ok q.2 := by decide +kernel
set_option maxRecDepth 100000 in
theorem mk_X12_laysFar : bmok TW cls_ MT M_X12_laysFar := ⟨(TW_mk (tl_9 _ (List.mem_of_getElem? (i := 106) rfl)) rfl), (TW_mk (tl_1 _ (List.mem_of_getElem? (i := 18) rfl)) rfl), by decide +kernel, ⟨by decide +kernel, by decide +kernel, by decide +kernel⟩, fun h => absurd h (by decide), fun _ => ⟨(TW_mk (tl_9 _ (List.mem_of_getElem? (i := 105) rfl)) rfl), (TW_mk (tp_10 (n := 67) (List.mem_of_getElem? (i := 1) rfl)) rfl), TX12, 67, rfl⟩, tk_X12_laysFar, pk_X12, by decide⟩
set_option maxRecDepth 100000 in
theorem tk_X12_nearest : ∀ q ∈ tab_X12_nearest, decode cX12_nearest q.1 = .ok q.2 := by decide +kernel
set_option maxRecDepth 100000 in
theorem mk_X12_nearest : bmok TW cls_ MT M_X12_nearest := ⟨(TW_mk (tl_9 _ (List.mem_of_getElem? (i := 119) rfl)) rfl), (TW_mk (tl_1 _ (List.mem_of_getElem? (i := 18) rfl)) rfl), by decide +kernel, ⟨by decide +kernel, by decide +kernel, by decide +kernel⟩, fun h => absurd h (by decide), fun _ => ⟨(TW_mk (tl_9 _ (List.mem_of_getElem? (i := 118) rfl)) rfl), (TW_mk (tp_10 (n := 67) (List.mem_of_getElem? (i := 4) rfl)) rfl), TX12, 67, rfl⟩, tk_X12_nearest, pk_X12, by decide⟩
set_option maxRecDepth 100000 in
theorem tk_X12_way : ∀ q ∈ tab_X12_way, decode cX12_way q.1 = .ok q.2 := by decide +kernel
set_option maxRecDepth 100000 in
theorem mk_X12_way : bmok TW cls_ MT M_X12_way := ⟨(TW_mk (tl_9 _ (List.mem_of_getElem? (i := 102) rfl)) rfl), (TW_mk (tl_1 _ (List.mem_of_getElem? (i := 18) rfl)) rfl), by decide +kernel, ⟨by decide +kernel, by decide +kernel, by decide +kernel⟩, fun h => absurd h (by decide), fun _ => ⟨(TW_mk (tl_9 _ (List.mem_of_getElem? (i := 100) rfl)) rfl), (TW_mk (tl_9 _ (List.mem_of_getElem? (i := 101) rfl)) rfl), TX12, 67, rfl⟩, tk_X12_way, pk_X12, by decide⟩
set_option maxRecDepth 100000 in
theorem tk_X12_reach : ∀ q ∈ tab_X12_reach, decode cX12_reach q.1 = .ok q.2 := by decide +kernel
set_option maxRecDepth 100000 in
theorem mk_X12_reach : bmok TW cls_ MT M_X12_reach := ⟨(TW_mk (tl_9 _ (List.mem_of_getElem? (i := 123) rfl)) rfl), (TW_mk (tl_1 _ (List.mem_of_getElem? (i := 18) rfl)) rfl), by decide +kernel, ⟨by decide +kernel, by decide +kernel, by decide +kernel⟩, fun h => absurd h (by decide), fun _ => ⟨(TW_mk (tl_9 _ (List.mem_of_getElem? (i := 121) rfl)) rfl), (TW_mk (tl_9 _ (List.mem_of_getElem? (i := 122) rfl)) rfl), TX12, 67, rfl⟩, tk_X12_reach, pk_X12, by decide⟩
set_option maxRecDepth 100000 in
theorem tk_X12_isSet : ∀ q ∈ tab_X12_isSet, decode cX12_isSet q.1 = .ok q.2 := by decide +kernel
set_option maxRecDepth 100000 in
theorem mk_X12_isSet : bmok TW cls_ MT M_X12_isSet := ⟨(TW_mk (tl_9 _ (List.mem_of_getElem? (i := 131) rfl)) rfl), (TW_mk (tl_1 _ (List.mem_of_getElem? (i := 18) rfl)) rfl), by decide +kernel, ⟨by decide +kernel, by decide +kernel, by decide +kernel⟩, fun h => absurd h (by decide), fun _ => ⟨(TW_mk (tl_9 _ (List.mem_of_getElem? (i := 130) rfl)) rfl), (TW_mk (tp_10 (n := 67) (List.mem_of_getElem? (i := 5) rfl)) rfl), TX12, 67, rfl⟩, tk_X12_isSet, pk_X12, by decide⟩
set_option maxRecDepth 100000 in
theorem tk_X12_areAtFoot : ∀ q ∈ tab_X12_areAtFoot, decode cX12_areAtFoot q.1 = .ok q.2 := by decide +kernel
set_option maxRecDepth 100000 in
theorem mk_X12_areAtFoot : bmok TW cls_ MT M_X12_areAtFoot := ⟨(TW_mk (tl_9 _ (List.mem_of_getElem? (i := 135) rfl)) rfl), (TW_mk (tl_1 _ (List.mem_of_getElem? (i := 18) rfl)) rfl), by decide +kernel, ⟨by decide +kernel, by decide +kernel, by decide +kernel⟩, fun h => absurd h (by decide), fun _ => ⟨(TW_mk (tl_9 _ (List.mem_of_getElem? (i := 134) rfl)) rfl), (TW_mk (tp_10 (n := 67) (List.mem_of_getElem? (i := 6) rfl)) rfl), TX12, 67, rfl⟩, tk_X12_areAtFoot, pk_X12, by decide⟩
set_option maxRecDepth 100000 in
theorem tk_X12_laysRow : ∀ q ∈ tab_X12_laysRow, decode cX12_laysRow q.1 = .ok q.2 := by decide +kernel
set_option maxRecDepth 100000 in
theorem mk_X12_laysRow : bmok TW cls_ MT M_X12_laysRow := ⟨(TW_mk (tl_9 _ (List.mem_of_getElem? (i := 143) rfl)) rfl), (TW_mk (tl_1 _ (List.mem_of_getElem? (i := 18) rfl)) rfl), by decide +kernel, ⟨by decide +kernel, by decide +kernel, by decide +kernel⟩, fun h => absurd h (by decide), fun _ => ⟨(TW_mk (tl_9 _ (List.mem_of_getElem? (i := 142) rfl)) rfl), (TW_mk (tp_10 (n := 67) (List.mem_of_getElem? (i := 8) rfl)) rfl), TX12, 67, rfl⟩, tk_X12_laysRow, pk_X12, by decide⟩
set_option maxRecDepth 100000 in
theorem tk_X12_turns : ∀ q ∈ tab_X12_turns, decode cX12_turns q.1 = .ok q.2 := by decide +kernel
set_option maxRecDepth 100000 in
theorem mk_X12_turns : bmok TW cls_ MT M_X12_turns := ⟨(TW_mk (tl_9 _ (List.mem_of_getElem? (i := 159) rfl)) rfl), (TW_mk (tl_1 _ (List.mem_of_getElem? (i := 18) rfl)) rfl), by decide +kernel, ⟨by decide +kernel, by decide +kernel, by decide +kernel⟩, fun h => absurd h (by decide), fun _ => ⟨(TW_mk (tl_9 _ (List.mem_of_getElem? (i := 158) rfl)) rfl), (TW_mk (tp_10 (n := 67) (List.mem_of_getElem? (i := 12) rfl)) rfl), TX12, 67, rfl⟩, tk_X12_turns, pk_X12, by decide⟩
set_option maxRecDepth 100000 in
theorem tk_X12_changes : ∀ q ∈ tab_X12_changes, decode cX12_changes q.1 = .ok q.2 := by decide +kernel
set_option maxRecDepth 100000 in
theorem mk_X12_changes : bmok TW cls_ MT M_X12_changes := ⟨(TW_mk (tl_9 _ (List.mem_of_getElem? (i := 163) rfl)) rfl), (TW_mk (tl_1 _ (List.mem_of_getElem? (i := 18) rfl)) rfl), by decide +kernel, ⟨by decide +kernel, by decide +kernel, by decide +kernel⟩, fun h => absurd h (by decide), fun _ => ⟨(TW_mk (tl_9 _ (List.mem_of_getElem? (i := 162) rfl)) rfl), (TW_mk (tp_10 (n := 67) (List.mem_of_getElem? (i := 13) rfl)) rfl), TX12, 67, rfl⟩, tk_X12_changes, pk_X12, by decide⟩
set_option maxRecDepth 100000 in
theorem tk_X12_leaves : ∀ q ∈ tab_X12_leaves, decode cX12_leaves q.1 = .ok q.2 := by decide +kernel
set_option maxRecDepth 100000 in
theorem mk_X12_leaves : bmok TW cls_ MT M_X12_leaves := ⟨(TW_mk (tl_9 _ (List.mem_of_getElem? (i := 151) rfl)) rfl), (TW_mk (tl_1 _ (List.mem_of_getElem? (i := 18) rfl)) rfl), by decide +kernel, ⟨by decide +kernel, by decide +kernel, by decide +kernel⟩, fun h => absurd h (by decide), fun _ => ⟨(TW_mk (tl_9 _ (List.mem_of_getElem? (i := 150) rfl)) rfl), (TW_mk (tp_10 (n := 67) (List.mem_of_getElem? (i := 10) rfl)) rfl), TX12, 67, rfl⟩, tk_X12_leaves, pk_X12, by decide⟩
set_option maxRecDepth 100000 in
theorem tk_X12_rowGoes : ∀ q ∈ tab_X12_rowGoes, decode cX12_rowGoes q.1 = .ok q.2 := by decide +kernel
set_option maxRecDepth 100000 in
theorem mk_X12_rowGoes : bmok TW cls_ MT M_X12_rowGoes := ⟨(TW_mk (tl_9 _ (List.mem_of_getElem? (i := 147) rfl)) rfl), (TW_mk (tl_1 _ (List.mem_of_getElem? (i := 18) rfl)) rfl), by decide +kernel, ⟨by decide +kernel, by decide +kernel, by decide +kernel⟩, fun h => absurd h (by decide), fun _ => ⟨(TW_mk (tl_9 _ (List.mem_of_getElem? (i := 146) rfl)) rfl), (TW_mk (tp_10 (n := 67) (List.mem_of_getElem? (i := 9) rfl)) rfl), TX12, 67, rfl⟩, tk_X12_rowGoes, pk_X12, by decide⟩
set_option maxRecDepth 100000 in
theorem tk_X12_areHome : ∀ q ∈ tab_X12_areHome, decode cX12_areHome q.1 = .ok q.2 := by decide +kernel
set_option maxRecDepth 100000 in
theorem mk_X12_areHome : bmok TW cls_ MT M_X12_areHome := ⟨(TW_mk (tl_9 _ (List.mem_of_getElem? (i := 155) rfl)) rfl), (TW_mk (tl_1 _ (List.mem_of_getElem? (i := 18) rfl)) rfl), by decide +kernel, ⟨by decide +kernel, by decide +kernel, by decide +kernel⟩, fun h => absurd h (by decide), fun _ => ⟨(TW_mk (tl_9 _ (List.mem_of_getElem? (i := 154) rfl)) rfl), (TW_mk (tp_10 (n := 67) (List.mem_of_getElem? (i := 11) rfl)) rfl), TX12, 67, rfl⟩, tk_X12_areHome, pk_X12, by decide⟩
set_option maxRecDepth 100000 in
theorem tk_X12_goodRows : ∀ q ∈ tab_X12_goodRows, decode cX12_goodRows q.1 = .ok q.2 := by decide +kernel
set_option maxRecDepth 100000 in
theorem mk_X12_goodRows : bmok TW cls_ MT M_X12_goodRows := ⟨(TW_mk (tl_9 _ (List.mem_of_getElem? (i := 139) rfl)) rfl), (TW_mk (tl_1 _ (List.mem_of_getElem? (i := 18) rfl)) rfl), by decide +kernel, ⟨by decide +kernel, by decide +kernel, by decide +kernel⟩, fun h => absurd h (by decide), fun _ => ⟨(TW_mk (tl_9 _ (List.mem_of_getElem? (i := 138) rfl)) rfl), (TW_mk (tp_10 (n := 67) (List.mem_of_getElem? (i := 7) rfl)) rfl), TX12, 67, rfl⟩, tk_X12_goodRows, pk_X12, by decide⟩
set_option maxRecDepth 100000 in
theorem tk_X12_orders : ∀ q ∈ tab_X12_orders, decode cX12_orders q.1 = .ok q.2 := by decide +kernel
set_option maxRecDepth 100000 in
theorem mk_X12_orders : bmok TW cls_ MT M_X12_orders := ⟨(TW_mk (tl_9 _ (List.mem_of_getElem? (i := 127) rfl)) rfl), (TW_mk (tl_1 _ (List.mem_of_getElem? (i := 18) rfl)) rfl), by decide +kernel, ⟨by decide +kernel, by decide +kernel, by decide +kernel⟩, fun h => absurd h (by decide), fun _ => ⟨(TW_mk (tl_9 _ (List.mem_of_getElem? (i := 125) rfl)) rfl), (TW_mk (tl_9 _ (List.mem_of_getElem? (i := 126) rfl)) rfl), TX12, 67, rfl⟩, tk_X12_orders, pk_X12, by decide⟩
set_option maxRecDepth 100000 in
theorem tk_X12_orderAt : ∀ q ∈ tab_X12_orderAt, decode cX12_orderAt q.1 = .ok q.2 := by decide +kernel
set_option maxRecDepth 100000 in
theorem mk_X12_orderAt : bmok TW cls_ MT M_X12_orderAt := ⟨(TW_mk (tl_9 _ (List.mem_of_getElem? (i := 167) rfl)) rfl), (TW_mk (tl_1 _ (List.mem_of_getElem? (i := 18) rfl)) rfl), by decide +kernel, ⟨by decide +kernel, by decide +kernel, by decide +kernel⟩, fun h => absurd h (by decide), fun _ => ⟨(TW_mk (tl_9 _ (List.mem_of_getElem? (i := 165) rfl)) rfl), (TW_mk (tl_9 _ (List.mem_of_getElem? (i := 166) rfl)) rfl), TX12, 67, rfl⟩, tk_X12_orderAt, pk_X12, by decide⟩
set_option maxRecDepth 100000 in
theorem tk_X12_ones : ∀ q ∈ tab_X12_ones, decode cX12_ones q.1 = .ok q.2 := by decide +kernel
set_option maxRecDepth 100000 in
theorem mk_X12_ones : bmok TW cls_ MT M_X12_ones := ⟨(TW_mk (tl_9 _ (List.mem_of_getElem? (i := 182) rfl)) rfl), (TW_mk (tl_1 _ (List.mem_of_getElem? (i := 18) rfl)) rfl), by decide +kernel, ⟨by decide +kernel, by decide +kernel, by decide +kernel⟩, fun _ => (TW_mk (tl_9 _ (List.mem_of_getElem? (i := 181) rfl)) rfl), fun h => absurd h (by decide), tk_X12_ones, pk_X12, by decide⟩
set_option maxRecDepth 100000 in
theorem tk_X12_goodBy : ∀ q ∈ tab_X12_goodBy, decode cX12_goodBy q.1 = .ok q.2 := by decide +kernel
set_option maxRecDepth 100000 in
theorem mk_X12_goodBy : bmok TW cls_ MT M_X12_goodBy := ⟨(TW_mk (tl_9 _ (List.mem_of_getElem? (i := 186) rfl)) rfl), (TW_mk (tl_1 _ (List.mem_of_getElem? (i := 18) rfl)) rfl), by decide +kernel, ⟨by decide +kernel, by decide +kernel, by decide +kernel⟩, fun h => absurd h (by decide), fun _ => ⟨(TW_mk (tl_9 _ (List.mem_of_getElem? (i := 185) rfl)) rfl), (TW_mk (tp_11 (n := 67) (List.mem_of_getElem? (i := 0) rfl)) rfl), TX12, 67, rfl⟩, tk_X12_goodBy, pk_X12, by decide⟩
set_option maxRecDepth 100000 in
theorem tk_X12_rowWith : ∀ q ∈ tab_X12_rowWith, decode cX12_rowWith q.1 = .ok q.2 := by decide +kernel
set_option maxRecDepth 100000 in
theorem mk_X12_rowWith : bmok TW cls_ MT M_X12_rowWith := ⟨(TW_mk (tl_9 _ (List.mem_of_getElem? (i := 179) rfl)) rfl), (TW_mk (tl_1 _ (List.mem_of_getElem? (i := 18) rfl)) rfl), by decide +kernel, ⟨by decide +kernel, by decide +kernel, by decide +kernel⟩, fun h => absurd h (by decide), fun _ => ⟨(TW_mk (tl_9 _ (List.mem_of_getElem? (i := 178) rfl)) rfl), (TW_mk (tp_10 (n := 67) (List.mem_of_getElem? (i := 15) rfl)) rfl), TX12, 67, rfl⟩, tk_X12_rowWith, pk_X12, by decide⟩
set_option maxRecDepth 100000 in
theorem tk_X12_fewestHired : ∀ q ∈ tab_X12_fewestHired, decode cX12_fewestHired q.1 = .ok q.2 := by decide +kernel
set_option maxRecDepth 100000 in
theorem mk_X12_fewestHired : bmok TW cls_ MT M_X12_fewestHired := ⟨(TW_mk (tl_9 _ (List.mem_of_getElem? (i := 175) rfl)) rfl), (TW_mk (tl_1 _ (List.mem_of_getElem? (i := 18) rfl)) rfl), by decide +kernel, ⟨by decide +kernel, by decide +kernel, by decide +kernel⟩, fun h => absurd h (by decide), fun _ => ⟨(TW_mk (tl_9 _ (List.mem_of_getElem? (i := 174) rfl)) rfl), (TW_mk (tp_10 (n := 67) (List.mem_of_getElem? (i := 14) rfl)) rfl), TX12, 67, rfl⟩, tk_X12_fewestHired, pk_X12, by decide⟩
set_option maxRecDepth 100000 in
theorem tk_X12_wishers : ∀ q ∈ tab_X12_wishers, decode cX12_wishers q.1 = .ok q.2 := by decide +kernel
set_option maxRecDepth 100000 in
theorem mk_X12_wishers : bmok TW cls_ MT M_X12_wishers := ⟨(TW_mk (tl_9 _ (List.mem_of_getElem? (i := 171) rfl)) rfl), (TW_mk (tl_1 _ (List.mem_of_getElem? (i := 18) rfl)) rfl), by decide +kernel, ⟨by decide +kernel, by decide +kernel, by decide +kernel⟩, fun h => absurd h (by decide), fun _ => ⟨(TW_mk (tl_9 _ (List.mem_of_getElem? (i := 169) rfl)) rfl), (TW_mk (tl_9 _ (List.mem_of_getElem? (i := 170) rfl)) rfl), TX12, 67, rfl⟩, tk_X12_wishers, pk_X12, by decide⟩
set_option maxRecDepth 100000 in
theorem tk_X12_wisherAt : ∀ q ∈ tab_X12_wisherAt, decode cX12_wisherAt q.1 = .ok q.2 := by decide +kernel
set_option maxRecDepth 100000 in
theorem mk_X12_wisherAt : bmok TW cls_ MT M_X12_wisherAt := ⟨(TW_mk (tl_9 _ (List.mem_of_getElem? (i := 190) rfl)) rfl), (TW_mk (tl_1 _ (List.mem_of_getElem? (i := 18) rfl)) rfl), by decide +kernel, ⟨by decide +kernel, by decide +kernel, by decide +kernel⟩, fun h => absurd h (by decide), fun _ => ⟨(TW_mk (tl_9 _ (List.mem_of_getElem? (i := 188) rfl)) rfl), (TW_mk (tl_9 _ (List.mem_of_getElem? (i := 189) rfl)) rfl), TX12, 67, rfl⟩, tk_X12_wisherAt, pk_X12, by decide⟩
set_option maxRecDepth 100000 in
theorem tk_X12_joins : ∀ q ∈ tab_X12_joins, decode cX12_joins q.1 = .ok q.2 := by decide +kernel
set_option maxRecDepth 100000 in
theorem mk_X12_joins : bmok TW cls_ MT M_X12_joins := ⟨(TW_mk (tl_9 _ (List.mem_of_getElem? (i := 202) rfl)) rfl), (TW_mk (tl_1 _ (List.mem_of_getElem? (i := 18) rfl)) rfl), by decide +kernel, ⟨by decide +kernel, by decide +kernel, by decide +kernel⟩, fun h => absurd h (by decide), fun _ => ⟨(TW_mk (tl_9 _ (List.mem_of_getElem? (i := 201) rfl)) rfl), (TW_mk (tp_11 (n := 67) (List.mem_of_getElem? (i := 2) rfl)) rfl), TX12, 67, rfl⟩, tk_X12_joins, pk_X12, by decide⟩
set_option maxRecDepth 100000 in
theorem tk_X12_laysArcs : ∀ q ∈ tab_X12_laysArcs, decode cX12_laysArcs q.1 = .ok q.2 := by decide +kernel
set_option maxRecDepth 100000 in
theorem mk_X12_laysArcs : bmok TW cls_ MT M_X12_laysArcs := ⟨(TW_mk (tl_9 _ (List.mem_of_getElem? (i := 198) rfl)) rfl), (TW_mk (tl_1 _ (List.mem_of_getElem? (i := 18) rfl)) rfl), by decide +kernel, ⟨by decide +kernel, by decide +kernel, by decide +kernel⟩, fun h => absurd h (by decide), fun _ => ⟨(TW_mk (tl_9 _ (List.mem_of_getElem? (i := 197) rfl)) rfl), (TW_mk (tp_11 (n := 67) (List.mem_of_getElem? (i := 1) rfl)) rfl), TX12, 67, rfl⟩, tk_X12_laysArcs, pk_X12, by decide⟩
set_option maxRecDepth 100000 in
theorem tk_X12_moreOut : ∀ q ∈ tab_X12_moreOut, decode cX12_moreOut q.1 = .ok q.2 := by decide +kernel
set_option maxRecDepth 100000 in
theorem mk_X12_moreOut : bmok TW cls_ MT M_X12_moreOut := ⟨(TW_mk (tl_9 _ (List.mem_of_getElem? (i := 206) rfl)) rfl), (TW_mk (tl_1 _ (List.mem_of_getElem? (i := 18) rfl)) rfl), by decide +kernel, ⟨by decide +kernel, by decide +kernel, by decide +kernel⟩, fun h => absurd h (by decide), fun _ => ⟨(TW_mk (tl_9 _ (List.mem_of_getElem? (i := 205) rfl)) rfl), (TW_mk (tp_11 (n := 67) (List.mem_of_getElem? (i := 3) rfl)) rfl), TX12, 67, rfl⟩, tk_X12_moreOut, pk_X12, by decide⟩
set_option maxRecDepth 100000 in
theorem tk_X12_rings : ∀ q ∈ tab_X12_rings, decode cX12_rings q.1 = .ok q.2 := by decide +kernel
set_option maxRecDepth 100000 in
theorem mk_X12_rings : bmok TW cls_ MT M_X12_rings := ⟨(TW_mk (tl_9 _ (List.mem_of_getElem? (i := 194) rfl)) rfl), (TW_mk (tl_1 _ (List.mem_of_getElem? (i := 18) rfl)) rfl), by decide +kernel, ⟨by decide +kernel, by decide +kernel, by decide +kernel⟩, fun h => absurd h (by decide), fun _ => ⟨(TW_mk (tl_9 _ (List.mem_of_getElem? (i := 192) rfl)) rfl), (TW_mk (tl_9 _ (List.mem_of_getElem? (i := 193) rfl)) rfl), TX12, 67, rfl⟩, tk_X12_rings, pk_X12, by decide⟩
set_option maxRecDepth 100000 in
theorem tk_X12_gainOf : ∀ q ∈ tab_X12_gainOf, decode cX12_gainOf q.1 = .ok q.2 := by decide +kernel
set_option maxRecDepth 100000 in
theorem mk_X12_gainOf : bmok TW cls_ MT M_X12_gainOf := ⟨(TW_mk (tl_9 _ (List.mem_of_getElem? (i := 222) rfl)) rfl), (TW_mk (tl_1 _ (List.mem_of_getElem? (i := 18) rfl)) rfl), by decide +kernel, ⟨by decide +kernel, by decide +kernel, by decide +kernel⟩, fun h => absurd h (by decide), fun _ => ⟨(TW_mk (tl_9 _ (List.mem_of_getElem? (i := 221) rfl)) rfl), (TW_mk (tp_11 (n := 67) (List.mem_of_getElem? (i := 6) rfl)) rfl), TX12, 67, rfl⟩, tk_X12_gainOf, pk_X12, by decide⟩
set_option maxRecDepth 100000 in
theorem tk_X12_laysGains : ∀ q ∈ tab_X12_laysGains, decode cX12_laysGains q.1 = .ok q.2 := by decide +kernel
set_option maxRecDepth 100000 in
theorem mk_X12_laysGains : bmok TW cls_ MT M_X12_laysGains := ⟨(TW_mk (tl_9 _ (List.mem_of_getElem? (i := 218) rfl)) rfl), (TW_mk (tl_1 _ (List.mem_of_getElem? (i := 18) rfl)) rfl), by decide +kernel, ⟨by decide +kernel, by decide +kernel, by decide +kernel⟩, fun h => absurd h (by decide), fun _ => ⟨(TW_mk (tl_9 _ (List.mem_of_getElem? (i := 217) rfl)) rfl), (TW_mk (tp_11 (n := 67) (List.mem_of_getElem? (i := 5) rfl)) rfl), TX12, 67, rfl⟩, tk_X12_laysGains, pk_X12, by decide⟩
set_option maxRecDepth 100000 in
theorem tk_X12_isLate : ∀ q ∈ tab_X12_isLate, decode cX12_isLate q.1 = .ok q.2 := by decide +kernel
set_option maxRecDepth 100000 in
theorem mk_X12_isLate : bmok TW cls_ MT M_X12_isLate := ⟨(TW_mk (tl_9 _ (List.mem_of_getElem? (i := 214) rfl)) rfl), (TW_mk (tl_1 _ (List.mem_of_getElem? (i := 18) rfl)) rfl), by decide +kernel, ⟨by decide +kernel, by decide +kernel, by decide +kernel⟩, fun h => absurd h (by decide), fun _ => ⟨(TW_mk (tl_9 _ (List.mem_of_getElem? (i := 213) rfl)) rfl), (TW_mk (tp_11 (n := 67) (List.mem_of_getElem? (i := 4) rfl)) rfl), TX12, 67, rfl⟩, tk_X12_isLate, pk_X12, by decide⟩
set_option maxRecDepth 100000 in
theorem tk_X12_gain : ∀ q ∈ tab_X12_gain, decode cX12_gain q.1 = .ok q.2 := by decide +kernel
set_option maxRecDepth 100000 in
theorem mk_X12_gain : bmok TW cls_ MT M_X12_gain := ⟨(TW_mk (tl_9 _ (List.mem_of_getElem? (i := 210) rfl)) rfl), (TW_mk (tl_1 _ (List.mem_of_getElem? (i := 18) rfl)) rfl), by decide +kernel, ⟨by decide +kernel, by decide +kernel, by decide +kernel⟩, fun h => absurd h (by decide), fun _ => ⟨(TW_mk (tl_9 _ (List.mem_of_getElem? (i := 208) rfl)) rfl), (TW_mk (tl_9 _ (List.mem_of_getElem? (i := 209) rfl)) rfl), TX12, 67, rfl⟩, tk_X12_gain, pk_X12, by decide⟩
set_option maxRecDepth 100000 in
theorem tk_X12_worthOf : ∀ q ∈ tab_X12_worthOf, decode cX12_worthOf q.1 = .ok q.2 := by decide +kernel
set_option maxRecDepth 100000 in
theorem mk_X12_worthOf : bmok TW cls_ MT M_X12_worthOf := ⟨(TW_mk (tl_9 _ (List.mem_of_getElem? (i := 230) rfl)) rfl), (TW_mk (tl_1 _ (List.mem_of_getElem? (i := 18) rfl)) rfl), by decide +kernel, ⟨by decide +kernel, by decide +kernel, by decide +kernel⟩, fun h => absurd h (by decide), fun _ => ⟨(TW_mk (tl_9 _ (List.mem_of_getElem? (i := 229) rfl)) rfl), (TW_mk (tp_11 (n := 67) (List.mem_of_getElem? (i := 7) rfl)) rfl), TX12, 67, rfl⟩, tk_X12_worthOf, pk_X12, by decide⟩
set_option maxRecDepth 100000 in
theorem tk_X12_worth : ∀ q ∈ tab_X12_worth, decode cX12_worth q.1 = .ok q.2 := by decide +kernel
set_option maxRecDepth 100000 in
theorem mk_X12_worth : bmok TW cls_ MT M_X12_worth := ⟨(TW_mk (tl_9 _ (List.mem_of_getElem? (i := 226) rfl)) rfl), (TW_mk (tl_1 _ (List.mem_of_getElem? (i := 18) rfl)) rfl), by decide +kernel, ⟨by decide +kernel, by decide +kernel, by decide +kernel⟩, fun h => absurd h (by decide), fun _ => ⟨(TW_mk (tl_9 _ (List.mem_of_getElem? (i := 224) rfl)) rfl), (TW_mk (tl_9 _ (List.mem_of_getElem? (i := 225) rfl)) rfl), TX12, 67, rfl⟩, tk_X12_worth, pk_X12, by decide⟩
set_option maxRecDepth 100000 in
theorem tk_X12_isRest : ∀ q ∈ tab_X12_isRest, decode cX12_isRest q.1 = .ok q.2 := by decide +kernel
set_option maxRecDepth 100000 in
theorem mk_X12_isRest : bmok TW cls_ MT M_X12_isRest := ⟨(TW_mk (tl_9 _ (List.mem_of_getElem? (i := 238) rfl)) rfl), (TW_mk (tl_1 _ (List.mem_of_getElem? (i := 18) rfl)) rfl), by decide +kernel, ⟨by decide +kernel, by decide +kernel, by decide +kernel⟩, fun h => absurd h (by decide), fun _ => ⟨(TW_mk (tl_9 _ (List.mem_of_getElem? (i := 237) rfl)) rfl), (TW_mk (tp_11 (n := 67) (List.mem_of_getElem? (i := 8) rfl)) rfl), TX12, 67, rfl⟩, tk_X12_isRest, pk_X12, by decide⟩
set_option maxRecDepth 100000 in
theorem tk_X12_rests : ∀ q ∈ tab_X12_rests, decode cX12_rests q.1 = .ok q.2 := by decide +kernel
set_option maxRecDepth 100000 in
theorem mk_X12_rests : bmok TW cls_ MT M_X12_rests := ⟨(TW_mk (tl_9 _ (List.mem_of_getElem? (i := 234) rfl)) rfl), (TW_mk (tl_1 _ (List.mem_of_getElem? (i := 18) rfl)) rfl), by decide +kernel, ⟨by decide +kernel, by decide +kernel, by decide +kernel⟩, fun h => absurd h (by decide), fun _ => ⟨(TW_mk (tl_9 _ (List.mem_of_getElem? (i := 232) rfl)) rfl), (TW_mk (tl_9 _ (List.mem_of_getElem? (i := 233) rfl)) rfl), TX12, 67, rfl⟩, tk_X12_rests, pk_X12, by decide⟩
set_option maxRecDepth 100000 in
theorem tk_X12_best : ∀ q ∈ tab_X12_best, decode cX12_best q.1 = .ok q.2 := by decide +kernel
set_option maxRecDepth 100000 in
theorem mk_X12_best : bmok TW cls_ MT M_X12_best := ⟨(TW_mk (tl_10 _ (List.mem_of_getElem? (i := 2) rfl)) rfl), (TW_mk (tl_1 _ (List.mem_of_getElem? (i := 18) rfl)) rfl), by decide +kernel, ⟨by decide +kernel, by decide +kernel, by decide +kernel⟩, fun h => absurd h (by decide), fun _ => ⟨(TW_mk (tl_10 _ (List.mem_of_getElem? (i := 0) rfl)) rfl), (TW_mk (tl_10 _ (List.mem_of_getElem? (i := 1) rfl)) rfl), TX12, 67, rfl⟩, tk_X12_best, pk_X12, by decide⟩
set_option maxRecDepth 100000 in
theorem tk_X12_laysPrices : ∀ q ∈ tab_X12_laysPrices, decode cX12_laysPrices q.1 = .ok q.2 := by decide +kernel
set_option maxRecDepth 100000 in
theorem mk_X12_laysPrices : bmok TW cls_ MT M_X12_laysPrices := ⟨(TW_mk (tl_10 _ (List.mem_of_getElem? (i := 10) rfl)) rfl), (TW_mk (tl_1 _ (List.mem_of_getElem? (i := 18) rfl)) rfl), by decide +kernel, ⟨by decide +kernel, by decide +kernel, by decide +kernel⟩, fun h => absurd h (by decide), fun _ => ⟨(TW_mk (tl_10 _ (List.mem_of_getElem? (i := 9) rfl)) rfl), (TW_mk (tp_11 (n := 67) (List.mem_of_getElem? (i := 9) rfl)) rfl), TX12, 67, rfl⟩, tk_X12_laysPrices, pk_X12, by decide⟩
set_option maxRecDepth 100000 in
theorem tk_X12_prices : ∀ q ∈ tab_X12_prices, decode cX12_prices q.1 = .ok q.2 := by decide +kernel
set_option maxRecDepth 100000 in
theorem mk_X12_prices : bmok TW cls_ MT M_X12_prices := ⟨(TW_mk (tl_10 _ (List.mem_of_getElem? (i := 6) rfl)) rfl), (TW_mk (tl_1 _ (List.mem_of_getElem? (i := 18) rfl)) rfl), by decide +kernel, ⟨by decide +kernel, by decide +kernel, by decide +kernel⟩, fun h => absurd h (by decide), fun _ => ⟨(TW_mk (tl_10 _ (List.mem_of_getElem? (i := 4) rfl)) rfl), (TW_mk (tl_10 _ (List.mem_of_getElem? (i := 5) rfl)) rfl), TX12, 67, rfl⟩, tk_X12_prices, pk_X12, by decide⟩
set_option maxRecDepth 100000 in
theorem tk_X12_see : ∀ q ∈ tab_X12_see, decode cX12_see q.1 = .ok q.2 := by decide +kernel
set_option maxRecDepth 100000 in
theorem mk_X12_see : bmok TW cls_ MT M_X12_see := ⟨(TW_mk (tl_10 _ (List.mem_of_getElem? (i := 14) rfl)) rfl), (TW_mk (tl_1 _ (List.mem_of_getElem? (i := 18) rfl)) rfl), by decide +kernel, ⟨by decide +kernel, by decide +kernel, by decide +kernel⟩, fun h => absurd h (by decide), fun _ => ⟨(TW_mk (tl_10 _ (List.mem_of_getElem? (i := 12) rfl)) rfl), (TW_mk (tl_10 _ (List.mem_of_getElem? (i := 13) rfl)) rfl), TX12, 67, rfl⟩, tk_X12_see, pk_X12, by decide⟩
set_option maxRecDepth 100000 in
theorem tk_X12_say : ∀ q ∈ tab_X12_say, decode cX12_say q.1 = .ok q.2 := by decide +kernel
set_option maxRecDepth 100000 in
theorem mk_X12_say : bmok TW cls_ MT M_X12_say := ⟨(TW_mk (tl_10 _ (List.mem_of_getElem? (i := 18) rfl)) rfl), (TW_mk (tl_1 _ (List.mem_of_getElem? (i := 18) rfl)) rfl), by decide +kernel, ⟨by decide +kernel, by decide +kernel, by decide +kernel⟩, fun h => absurd h (by decide), fun _ => ⟨(TW_mk (tl_10 _ (List.mem_of_getElem? (i := 16) rfl)) rfl), (TW_mk (tl_10 _ (List.mem_of_getElem? (i := 17) rfl)) rfl), TX12, 67, rfl⟩, tk_X12_say, pk_X12, by decide⟩
set_option maxRecDepth 100000 in
theorem tk_X12_forget : ∀ q ∈ tab_X12_forget, decode cX12_forget q.1 = .ok q.2 := by decide +kernel
set_option maxRecDepth 100000 in
theorem mk_X12_forget : bmok TW cls_ MT M_X12_forget := ⟨(TW_mk (tl_10 _ (List.mem_of_getElem? (i := 22) rfl)) rfl), (TW_mk (tl_1 _ (List.mem_of_getElem? (i := 18) rfl)) rfl), by decide +kernel, ⟨by decide +kernel, by decide +kernel, by decide +kernel⟩, fun h => absurd h (by decide), fun _ => ⟨(TW_mk (tl_10 _ (List.mem_of_getElem? (i := 20) rfl)) rfl), (TW_mk (tl_10 _ (List.mem_of_getElem? (i := 21) rfl)) rfl), TX12, 67, rfl⟩, tk_X12_forget, pk_X12, by decide⟩
set_option maxRecDepth 100000 in
theorem tk_X12_knows : ∀ q ∈ tab_X12_knows, decode cX12_knows q.1 = .ok q.2 := by decide +kernel
set_option maxRecDepth 100000 in
theorem mk_X12_knows : bmok TW cls_ MT M_X12_knows := ⟨(TW_mk (tl_10 _ (List.mem_of_getElem? (i := 30) rfl)) rfl), (TW_mk (tl_1 _ (List.mem_of_getElem? (i := 18) rfl)) rfl), by decide +kernel, ⟨by decide +kernel, by decide +kernel, by decide +kernel⟩, fun h => absurd h (by decide), fun _ => ⟨(TW_mk (tl_10 _ (List.mem_of_getElem? (i := 29) rfl)) rfl), (TW_mk (tp_11 (n := 67) (List.mem_of_getElem? (i := 10) rfl)) rfl), TX12, 67, rfl⟩, tk_X12_knows, pk_X12, by decide⟩
set_option maxRecDepth 100000 in
theorem tk_X12_fits : ∀ q ∈ tab_X12_fits, decode cX12_fits q.1 = .ok q.2 := by decide +kernel
set_option maxRecDepth 100000 in
theorem mk_X12_fits : bmok TW cls_ MT M_X12_fits := ⟨(TW_mk (tl_10 _ (List.mem_of_getElem? (i := 26) rfl)) rfl), (TW_mk (tl_1 _ (List.mem_of_getElem? (i := 18) rfl)) rfl), by decide +kernel, ⟨by decide +kernel, by decide +kernel, by decide +kernel⟩, fun h => absurd h (by decide), fun _ => ⟨(TW_mk (tl_10 _ (List.mem_of_getElem? (i := 24) rfl)) rfl), (TW_mk (tl_10 _ (List.mem_of_getElem? (i := 25) rfl)) rfl), TX12, 67, rfl⟩, tk_X12_fits, pk_X12, by decide⟩
set_option maxRecDepth 100000 in
theorem tk_X12_sure : ∀ q ∈ tab_X12_sure, decode cX12_sure q.1 = .ok q.2 := by decide +kernel
set_option maxRecDepth 100000 in
theorem mk_X12_sure : bmok TW cls_ MT M_X12_sure := ⟨(TW_mk (tl_10 _ (List.mem_of_getElem? (i := 34) rfl)) rfl), (TW_mk (tl_1 _ (List.mem_of_getElem? (i := 18) rfl)) rfl), by decide +kernel, ⟨by decide +kernel, by decide +kernel, by decide +kernel⟩, fun h => absurd h (by decide), fun _ => ⟨(TW_mk (tl_10 _ (List.mem_of_getElem? (i := 32) rfl)) rfl), (TW_mk (tl_10 _ (List.mem_of_getElem? (i := 33) rfl)) rfl), TX12, 67, rfl⟩, tk_X12_sure, pk_X12, by decide⟩
set_option maxRecDepth 100000 in
theorem tk_X12_trust : ∀ q ∈ tab_X12_trust, decode cX12_trust q.1 = .ok q.2 := by decide +kernel
set_option maxRecDepth 100000 in
theorem mk_X12_trust : bmok TW cls_ MT M_X12_trust := ⟨(TW_mk (tl_10 _ (List.mem_of_getElem? (i := 38) rfl)) rfl), (TW_mk (tl_1 _ (List.mem_of_getElem? (i := 18) rfl)) rfl), by decide +kernel, ⟨by decide +kernel, by decide +kernel, by decide +kernel⟩, fun h => absurd h (by decide), fun _ => ⟨(TW_mk (tl_10 _ (List.mem_of_getElem? (i := 36) rfl)) rfl), (TW_mk (tl_10 _ (List.mem_of_getElem? (i := 37) rfl)) rfl), TX12, 67, rfl⟩, tk_X12_trust, pk_X12, by decide⟩
set_option maxRecDepth 100000 in
theorem tk_X12_hold : ∀ q ∈ tab_X12_hold, decode cX12_hold q.1 = .ok q.2 := by decide +kernel
set_option maxRecDepth 100000 in
theorem mk_X12_hold : bmok TW cls_ MT M_X12_hold := ⟨(TW_mk (tl_10 _ (List.mem_of_getElem? (i := 42) rfl)) rfl), (TW_mk (tl_1 _ (List.mem_of_getElem? (i := 18) rfl)) rfl), by decide +kernel, ⟨by decide +kernel, by decide +kernel, by decide +kernel⟩, fun h => absurd h (by decide), fun _ => ⟨(TW_mk (tl_10 _ (List.mem_of_getElem? (i := 40) rfl)) rfl), (TW_mk (tl_10 _ (List.mem_of_getElem? (i := 41) rfl)) rfl), TX12, 67, rfl⟩, tk_X12_hold, pk_X12, by decide⟩
set_option maxRecDepth 100000 in
theorem tk_X12_restore : ∀ q ∈ tab_X12_restore, decode cX12_restore q.1 = .ok q.2 := by decide +kernel
set_option maxRecDepth 100000 in
theorem mk_X12_restore : bmok TW cls_ MT M_X12_restore := ⟨(TW_mk (tl_10 _ (List.mem_of_getElem? (i := 46) rfl)) rfl), (TW_mk (tl_1 _ (List.mem_of_getElem? (i := 18) rfl)) rfl), by decide +kernel, ⟨by decide +kernel, by decide +kernel, by decide +kernel⟩, fun h => absurd h (by decide), fun _ => ⟨(TW_mk (tl_10 _ (List.mem_of_getElem? (i := 44) rfl)) rfl), (TW_mk (tl_10 _ (List.mem_of_getElem? (i := 45) rfl)) rfl), TX12, 67, rfl⟩, tk_X12_restore, pk_X12, by decide⟩
set_option maxRecDepth 100000 in
theorem tk_X12_heldMany : ∀ q ∈ tab_X12_heldMany, decode cX12_heldMany q.1 = .ok q.2 := by decide +kernel
set_option maxRecDepth 100000 in
theorem mk_X12_heldMany : bmok TW cls_ MT M_X12_heldMany := ⟨(TW_mk (tl_10 _ (List.mem_of_getElem? (i := 54) rfl)) rfl), (TW_mk (tl_1 _ (List.mem_of_getElem? (i := 18) rfl)) rfl), by decide +kernel, ⟨by decide +kernel, by decide +kernel, by decide +kernel⟩, fun h => absurd h (by decide), fun _ => ⟨(TW_mk (tl_10 _ (List.mem_of_getElem? (i := 53) rfl)) rfl), (TW_mk (tp_11 (n := 67) (List.mem_of_getElem? (i := 11) rfl)) rfl), TX12, 67, rfl⟩, tk_X12_heldMany, pk_X12, by decide⟩
set_option maxRecDepth 100000 in
theorem tk_X12_saidBy : ∀ q ∈ tab_X12_saidBy, decode cX12_saidBy q.1 = .ok q.2 := by decide +kernel
set_option maxRecDepth 100000 in
theorem mk_X12_saidBy : bmok TW cls_ MT M_X12_saidBy := ⟨(TW_mk (tl_10 _ (List.mem_of_getElem? (i := 58) rfl)) rfl), (TW_mk (tl_1 _ (List.mem_of_getElem? (i := 18) rfl)) rfl), by decide +kernel, ⟨by decide +kernel, by decide +kernel, by decide +kernel⟩, fun h => absurd h (by decide), fun _ => ⟨(TW_mk (tl_10 _ (List.mem_of_getElem? (i := 57) rfl)) rfl), (TW_mk (tp_11 (n := 67) (List.mem_of_getElem? (i := 12) rfl)) rfl), TX12, 67, rfl⟩, tk_X12_saidBy, pk_X12, by decide⟩
set_option maxRecDepth 100000 in
theorem tk_X12_count : ∀ q ∈ tab_X12_count, decode cX12_count q.1 = .ok q.2 := by decide +kernel
set_option maxRecDepth 100000 in
theorem mk_X12_count : bmok TW cls_ MT M_X12_count := ⟨(TW_mk (tl_10 _ (List.mem_of_getElem? (i := 50) rfl)) rfl), (TW_mk (tl_1 _ (List.mem_of_getElem? (i := 18) rfl)) rfl), by decide +kernel, ⟨by decide +kernel, by decide +kernel, by decide +kernel⟩, fun h => absurd h (by decide), fun _ => ⟨(TW_mk (tl_10 _ (List.mem_of_getElem? (i := 48) rfl)) rfl), (TW_mk (tl_10 _ (List.mem_of_getElem? (i := 49) rfl)) rfl), TX12, 67, rfl⟩, tk_X12_count, pk_X12, by decide⟩
set_option maxRecDepth 100000 in
theorem tk_J6_bitCount_0f7a4 : ∀ q ∈ tab_J6_bitCount_0f7a4, decode cJ6_bitCount_0f7a4 q.1 = .ok q.2 := by decide +kernel
set_option maxRecDepth 100000 in
theorem mk_J6_bitCount_0f7a4 : bmok TW cls_ MT M_J6_bitCount_0f7a4 := ⟨(TW_mk (tl_5 _ (List.mem_of_getElem? (i := 121) rfl)) rfl), (TW_mk (tl_1 _ (List.mem_of_getElem? (i := 21) rfl)) rfl), by decide +kernel, ⟨by decide +kernel, by decide +kernel, by decide +kernel⟩, fun _ => (TW_mk (tl_5 _ (List.mem_of_getElem? (i := 120) rfl)) rfl), fun h => absurd h (by decide), tk_J6_bitCount_0f7a4, pk_J6, by decide⟩
set_option maxRecDepth 100000 in
theorem tk_J9_floorMod_7cf53 : ∀ q ∈ tab_J9_floorMod_7cf53, decode cJ9_floorMod_7cf53 q.1 = .ok q.2 := by decide +kernel
set_option maxRecDepth 100000 in
theorem mk_J9_floorMod_7cf53 : bmok TW cls_ MT M_J9_floorMod_7cf53 := ⟨(TW_mk (tl_4 _ (List.mem_of_getElem? (i := 120) rfl)) rfl), (TW_mk (tl_1 _ (List.mem_of_getElem? (i := 19) rfl)) rfl), by decide +kernel, ⟨by decide +kernel, by decide +kernel, by decide +kernel⟩, fun _ => (TW_mk (tl_4 _ (List.mem_of_getElem? (i := 119) rfl)) rfl), fun h => absurd h (by decide), tk_J9_floorMod_7cf53, pk_J9, by decide⟩
set_option maxRecDepth 100000 in
theorem tk_J9_max_7cf53 : ∀ q ∈ tab_J9_max_7cf53, decode cJ9_max_7cf53 q.1 = .ok q.2 := by decide +kernel
set_option maxRecDepth 100000 in
theorem mk_J9_max_7cf53 : bmok TW cls_ MT M_J9_max_7cf53 := ⟨(TW_mk (tl_4 _ (List.mem_of_getElem? (i := 37) rfl)) rfl), (TW_mk (tl_1 _ (List.mem_of_getElem? (i := 19) rfl)) rfl), by decide +kernel, ⟨by decide +kernel, by decide +kernel, by decide +kernel⟩, fun _ => (TW_mk (tl_4 _ (List.mem_of_getElem? (i := 36) rfl)) rfl), fun h => absurd h (by decide), tk_J9_max_7cf53, pk_J9, by decide⟩
set_option maxRecDepth 100000 in
theorem tk_J9_min_7cf53 : ∀ q ∈ tab_J9_min_7cf53, decode cJ9_min_7cf53 q.1 = .ok q.2 := by decide +kernel
set_option maxRecDepth 100000 in
theorem mk_J9_min_7cf53 : bmok TW cls_ MT M_J9_min_7cf53 := ⟨(TW_mk (tl_3 _ (List.mem_of_getElem? (i := 138) rfl)) rfl), (TW_mk (tl_1 _ (List.mem_of_getElem? (i := 19) rfl)) rfl), by decide +kernel, ⟨by decide +kernel, by decide +kernel, by decide +kernel⟩, fun _ => (TW_mk (tl_3 _ (List.mem_of_getElem? (i := 137) rfl)) rfl), fun h => absurd h (by decide), tk_J9_min_7cf53, pk_J9, by decide⟩
set_option maxRecDepth 100000 in
theorem tk_J7_fill_53178 : ∀ q ∈ tab_J7_fill_53178, decode cJ7_fill_53178 q.1 = .ok q.2 := by decide +kernel
set_option maxRecDepth 100000 in
theorem mk_J7_fill_53178 : bmok TW cls_ MT M_J7_fill_53178 := ⟨(TW_mk (tl_1 _ (List.mem_of_getElem? (i := 66) rfl)) rfl), (TW_mk (tl_1 _ (List.mem_of_getElem? (i := 4) rfl)) rfl), by decide +kernel, ⟨by decide +kernel, by decide +kernel, by decide +kernel⟩, fun _ => (TW_mk (tl_1 _ (List.mem_of_getElem? (i := 65) rfl)) rfl), fun h => absurd h (by decide), tk_J7_fill_53178, pk_J7, by decide⟩
