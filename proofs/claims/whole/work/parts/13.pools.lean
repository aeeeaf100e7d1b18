set_option maxRecDepth 100000 in
theorem pk_X0_11 : bpok TW cls_ MT RX0 11 (.inl (0, 2, 3)) := ⟨RX0, TX0, 6, rfl, by decide, (TW_mk (tl_2 _ (List.mem_of_getElem? (i := 223) rfl)) rfl), by decide, fun h => absurd h (by decide), fun h => absurd h (by decide), fun h => absurd h (by decide)⟩
set_option maxRecDepth 100000 in
theorem pk_X0_17 : bpok TW cls_ MT RX0 17 (.inl (0, 3, 3)) := ⟨RX0, TX0, 6, rfl, by decide, (TW_mk (tl_2 _ (List.mem_of_getElem? (i := 224) rfl)) rfl), by decide, fun h => absurd h (by decide), fun h => absurd h (by decide), fun h => absurd h (by decide)⟩
set_option maxRecDepth 100000 in
theorem pk_X0_20 : bpok TW cls_ MT RX0 20 (.inl (0, 0, 3)) := ⟨RX0, TX0, 6, rfl, by decide, (TW_mk (tl_2 _ (List.mem_of_getElem? (i := 221) rfl)) rfl), by decide, fun h => absurd h (by decide), fun h => absurd h (by decide), fun h => absurd h (by decide)⟩
set_option maxRecDepth 100000 in
theorem pk_X0_24 : bpok TW cls_ MT RX0 24 (.inl (0, 1, 3)) := ⟨RX0, TX0, 6, rfl, by decide, (TW_mk (tl_2 _ (List.mem_of_getElem? (i := 222) rfl)) rfl), by decide, fun h => absurd h (by decide), fun h => absurd h (by decide), fun h => absurd h (by decide)⟩
set_option maxRecDepth 100000 in
theorem pk_X0_28 : bpok TW cls_ MT RX0 28 (.inl (5, 10, 0)) := ⟨RX5, TX5, 13, rfl, by decide, (TW_mk (tl_2 _ (List.mem_of_getElem? (i := 183) rfl)) rfl), by decide, fun _ => by decide +kernel, fun h => absurd h (by decide), fun h => absurd h (by decide)⟩
set_option maxRecDepth 100000 in
theorem pk_X0_32 : bpok TW cls_ MT RX0 32 (.inr (.inl 2)) := ⟨M_X0_isChoice, rfl, (TW_mk (tl_6 _ (List.mem_of_getElem? (i := 55) rfl)) rfl)⟩
set_option maxRecDepth 100000 in
theorem pk_X0_36 : bpok TW cls_ MT RX0 36 (.inr (.inl 4)) := ⟨M_X0_play, rfl, (TW_mk (tl_6 _ (List.mem_of_getElem? (i := 59) rfl)) rfl)⟩
set_option maxRecDepth 100000 in
theorem pk_X0_40 : bpok TW cls_ MT RX0 40 (.inl (0, 4, 0)) := ⟨RX0, TX0, 6, rfl, by decide, (TW_mk (tl_2 _ (List.mem_of_getElem? (i := 225) rfl)) rfl), by decide, fun _ => by decide +kernel, fun h => absurd h (by decide), fun h => absurd h (by decide)⟩
set_option maxRecDepth 100000 in
theorem pk_X0_43 : bpok TW cls_ MT RX0 43 (.inl (0, 5, 0)) := ⟨RX0, TX0, 6, rfl, by decide, (TW_mk (tl_2 _ (List.mem_of_getElem? (i := 226) rfl)) rfl), by decide, fun _ => by decide +kernel, fun h => absurd h (by decide), fun h => absurd h (by decide)⟩
set_option maxRecDepth 100000 in
theorem pk_X0_46 : bpok TW cls_ MT RX0 46 (.inl (5, 12, 0)) := ⟨RX5, TX5, 13, rfl, by decide, (TW_mk (tl_2 _ (List.mem_of_getElem? (i := 187) rfl)) rfl), by decide, fun _ => by decide +kernel, fun h => absurd h (by decide), fun h => absurd h (by decide)⟩
set_option maxRecDepth 100000 in
theorem pk_X0_49 : bpok TW cls_ MT RX0 49 (.inr (.inl 5)) := ⟨M_X0_crossAll, rfl, (TW_mk (tl_6 _ (List.mem_of_getElem? (i := 15) rfl)) rfl)⟩
set_option maxRecDepth 100000 in
theorem pk_X0_53 : bpok TW cls_ MT RX0 53 (.inr (.inl 343)) := ⟨M_J6_bitCount_0f7a4, rfl, (TW_mk (tl_6 _ (List.mem_of_getElem? (i := 25) rfl)) rfl)⟩
set_option maxRecDepth 100000 in
theorem pk_X0_59 : bpok TW cls_ MT RX0 59 (.inr (.inl 3)) := ⟨M_X0_takesPart, rfl, (TW_mk (tl_6 _ (List.mem_of_getElem? (i := 26) rfl)) rfl)⟩
set_option maxRecDepth 100000 in
theorem pk_X0_62 : bpok TW cls_ MT RX0 62 (.inr (.inl 29)) := ⟨M_X1_gainAs, rfl, (TW_mk (tl_6 _ (List.mem_of_getElem? (i := 30) rfl)) rfl)⟩
set_option maxRecDepth 100000 in
theorem pk_X0_68 : bpok TW cls_ MT RX0 68 (.inr (.inl 77)) := ⟨M_X5_wishAt, rfl, (TW_mk (tl_6 _ (List.mem_of_getElem? (i := 19) rfl)) rfl)⟩
set_option maxRecDepth 100000 in
theorem pk_X0_71 : bpok TW cls_ MT RX0 71 (.inr (.inl 6)) := ⟨M_X0_landAllAt, rfl, (TW_mk (tl_6 _ (List.mem_of_getElem? (i := 20) rfl)) rfl)⟩
set_option maxRecDepth 100000 in
theorem pk_X0_74 : bpok TW cls_ MT RX0 74 (.inr (.inl 78)) := ⟨M_X5_homeOf, rfl, (TW_mk (tl_6 _ (List.mem_of_getElem? (i := 24) rfl)) rfl)⟩
set_option maxRecDepth 100000 in
theorem pk_X0_77 : bpok TW cls_ MT RX0 77 (.inr (.inl 7)) := ⟨M_X0_gainOf, rfl, (TW_mk (tl_6 _ (List.mem_of_getElem? (i := 46) rfl)) rfl)⟩
set_option maxRecDepth 100000 in
theorem pk_X0_81 : bpok TW cls_ MT RX0 81 (.inr (.inl 9)) := ⟨M_X0_isRest, rfl, (TW_mk (tl_6 _ (List.mem_of_getElem? (i := 64) rfl)) rfl)⟩
set_option maxRecDepth 100000 in
theorem pk_X0_84 : bpok TW cls_ MT RX0 84 (.inr (.inl 8)) := ⟨M_X0_worthOf, rfl, (TW_mk (tl_6 _ (List.mem_of_getElem? (i := 80) rfl)) rfl)⟩
set_option maxRecDepth 100000 in
theorem pk_X0_87 : bpok TW cls_ MT RX0 87 (.inr (.inl 345)) := ⟨M_J9_max_7cf53, rfl, (TW_mk (tl_6 _ (List.mem_of_getElem? (i := 81) rfl)) rfl)⟩
set_option maxRecDepth 100000 in
theorem pk_X0_92 : bpok TW cls_ MT RX0 92 (.inr (.inr (.inl (1073741824)))) := (TW_mk (tl_6 _ (List.mem_of_getElem? (i := 86) rfl)) rfl)
set_option maxRecDepth 100000 in
theorem pk_X0_93 : bpok TW cls_ MT RX0 93 (.inr (.inl 346)) := ⟨M_J9_min_7cf53, rfl, (TW_mk (tl_6 _ (List.mem_of_getElem? (i := 87) rfl)) rfl)⟩
set_option maxRecDepth 100000 in
theorem pk_X0 : ∀ q ∈ pool_X0, bpok TW cls_ MT RX0 q.1 q.2 := List.forall_mem_cons.mpr ⟨pk_X0_11, List.forall_mem_cons.mpr ⟨pk_X0_17, List.forall_mem_cons.mpr ⟨pk_X0_20, List.forall_mem_cons.mpr ⟨pk_X0_24, List.forall_mem_cons.mpr ⟨pk_X0_28, List.forall_mem_cons.mpr ⟨pk_X0_32, List.forall_mem_cons.mpr ⟨pk_X0_36, List.forall_mem_cons.mpr ⟨pk_X0_40, List.forall_mem_cons.mpr ⟨pk_X0_43, List.forall_mem_cons.mpr ⟨pk_X0_46, List.forall_mem_cons.mpr ⟨pk_X0_49, List.forall_mem_cons.mpr ⟨pk_X0_53, List.forall_mem_cons.mpr ⟨pk_X0_59, List.forall_mem_cons.mpr ⟨pk_X0_62, List.forall_mem_cons.mpr ⟨pk_X0_68, List.forall_mem_cons.mpr ⟨pk_X0_71, List.forall_mem_cons.mpr ⟨pk_X0_74, List.forall_mem_cons.mpr ⟨pk_X0_77, List.forall_mem_cons.mpr ⟨pk_X0_81, List.forall_mem_cons.mpr ⟨pk_X0_84, List.forall_mem_cons.mpr ⟨pk_X0_87, List.forall_mem_cons.mpr ⟨pk_X0_92, List.forall_mem_cons.mpr ⟨pk_X0_93, fun _ h => absurd h List.not_mem_nil⟩⟩⟩⟩⟩⟩⟩⟩⟩⟩⟩⟩⟩⟩⟩⟩⟩⟩⟩⟩⟩⟩⟩
set_option maxRecDepth 100000 in
theorem pk_X1_9 : bpok TW cls_ MT RX1 9 (.inl (1, 5, 3)) := ⟨RX1, TX1, 12, rfl, by decide, (TW_mk (tl_2 _ (List.mem_of_getElem? (i := 89) rfl)) rfl), by decide, fun h => absurd h (by decide), fun h => absurd h (by decide), fun h => absurd h (by decide)⟩
set_option maxRecDepth 100000 in
theorem pk_X1_15 : bpok TW cls_ MT RX1 15 (.inl (1, 6, 3)) := ⟨RX1, TX1, 12, rfl, by decide, (TW_mk (tl_2 _ (List.mem_of_getElem? (i := 93) rfl)) rfl), by decide, fun h => absurd h (by decide), fun h => absurd h (by decide), fun h => absurd h (by decide)⟩
set_option maxRecDepth 100000 in
theorem pk_X1_18 : bpok TW cls_ MT RX1 18 (.inl (1, 7, 3)) := ⟨RX1, TX1, 12, rfl, by decide, (TW_mk (tl_2 _ (List.mem_of_getElem? (i := 95) rfl)) rfl), by decide, fun h => absurd h (by decide), fun h => absurd h (by decide), fun h => absurd h (by decide)⟩
set_option maxRecDepth 100000 in
theorem pk_X1_21 : bpok TW cls_ MT RX1 21 (.inl (1, 8, 3)) := ⟨RX1, TX1, 12, rfl, by decide, (TW_mk (tl_2 _ (List.mem_of_getElem? (i := 97) rfl)) rfl), by decide, fun h => absurd h (by decide), fun h => absurd h (by decide), fun h => absurd h (by decide)⟩
set_option maxRecDepth 100000 in
theorem pk_X1_24 : bpok TW cls_ MT RX1 24 (.inl (1, 9, 3)) := ⟨RX1, TX1, 12, rfl, by decide, (TW_mk (tl_2 _ (List.mem_of_getElem? (i := 99) rfl)) rfl), by decide, fun h => absurd h (by decide), fun h => absurd h (by decide), fun h => absurd h (by decide)⟩
set_option maxRecDepth 100000 in
theorem pk_X1_27 : bpok TW cls_ MT RX1 27 (.inl (1, 10, 3)) := ⟨RX1, TX1, 12, rfl, by decide, (TW_mk (tl_2 _ (List.mem_of_getElem? (i := 101) rfl)) rfl), by decide, fun h => absurd h (by decide), fun h => absurd h (by decide), fun h => absurd h (by decide)⟩
set_option maxRecDepth 100000 in
theorem pk_X1_30 : bpok TW cls_ MT RX1 30 (.inl (1, 11, 3)) := ⟨RX1, TX1, 12, rfl, by decide, (TW_mk (tl_2 _ (List.mem_of_getElem? (i := 103) rfl)) rfl), by decide, fun h => absurd h (by decide), fun h => absurd h (by decide), fun h => absurd h (by decide)⟩
set_option maxRecDepth 100000 in
theorem pk_X1_33 : bpok TW cls_ MT RX1 33 (.inl (1, 0, 2)) := ⟨RX1, TX1, 12, rfl, by decide, (TW_mk (tl_2 _ (List.mem_of_getElem? (i := 76) rfl)) rfl), by decide, fun h => absurd h (by decide), fun h => absurd h (by decide), fun _ => ⟨"WishBridges$Told", by decide +kernel⟩⟩
set_option maxRecDepth 100000 in
theorem pk_X1_37 : bpok TW cls_ MT RX1 37 (.inl (9, 18, 0)) := ⟨RX9, TX9, 20, rfl, by decide, (TW_mk (tl_1 _ (List.mem_of_getElem? (i := 130) rfl)) rfl), by decide, fun _ => by decide +kernel, fun h => absurd h (by decide), fun h => absurd h (by decide)⟩
set_option maxRecDepth 100000 in
theorem pk_X1_43 : bpok TW cls_ MT RX1 43 (.inl (1, 1, 0)) := ⟨RX1, TX1, 12, rfl, by decide, (TW_mk (tl_2 _ (List.mem_of_getElem? (i := 79) rfl)) rfl), by decide, fun _ => by decide +kernel, fun h => absurd h (by decide), fun h => absurd h (by decide)⟩
set_option maxRecDepth 100000 in
theorem pk_X1_44 : bpok TW cls_ MT RX1 44 (.inl (1, 2, 0)) := ⟨RX1, TX1, 12, rfl, by decide, (TW_mk (tl_2 _ (List.mem_of_getElem? (i := 81) rfl)) rfl), by decide, fun _ => by decide +kernel, fun h => absurd h (by decide), fun h => absurd h (by decide)⟩
set_option maxRecDepth 100000 in
theorem pk_X1_47 : bpok TW cls_ MT RX1 47 (.inl (1, 3, 0)) := ⟨RX1, TX1, 12, rfl, by decide, (TW_mk (tl_2 _ (List.mem_of_getElem? (i := 85) rfl)) rfl), by decide, fun _ => by decide +kernel, fun h => absurd h (by decide), fun h => absurd h (by decide)⟩
set_option maxRecDepth 100000 in
theorem pk_X1_50 : bpok TW cls_ MT RX1 50 (.inl (1, 4, 0)) := ⟨RX1, TX1, 12, rfl, by decide, (TW_mk (tl_2 _ (List.mem_of_getElem? (i := 87) rfl)) rfl), by decide, fun _ => by decide +kernel, fun h => absurd h (by decide), fun h => absurd h (by decide)⟩
set_option maxRecDepth 100000 in
theorem pk_X1_53 : bpok TW cls_ MT RX1 53 (.inl (9, 6, 3)) := ⟨RX9, TX9, 20, rfl, by decide, (TW_mk (tl_1 _ (List.mem_of_getElem? (i := 94) rfl)) rfl), by decide, fun h => absurd h (by decide), fun h => absurd h (by decide), fun h => absurd h (by decide)⟩
set_option maxRecDepth 100000 in
theorem pk_X1_56 : bpok TW cls_ MT RX1 56 (.inr (.inl 0)) := ⟨(TW_mk (tl_4 _ (List.mem_of_getElem? (i := 54) rfl)) rfl), (TW_mk (tl_4 _ (List.mem_of_getElem? (i := 56) rfl)) rfl), (TW_mk (tl_4 _ (List.mem_of_getElem? (i := 55) rfl)) rfl), (TW_mk (tl_1 _ (List.mem_of_getElem? (i := 20) rfl)) rfl)⟩
set_option maxRecDepth 100000 in
theorem pk_X1_62 : bpok TW cls_ MT RX1 62 (.inr (.inl 347)) := ⟨M_J7_fill_53178, rfl, (TW_mk (tl_4 _ (List.mem_of_getElem? (i := 57) rfl)) rfl)⟩
set_option maxRecDepth 100000 in
theorem pk_X1_68 : bpok TW cls_ MT RX1 68 (.inl (9, 7, 3)) := ⟨RX9, TX9, 20, rfl, by decide, (TW_mk (tl_1 _ (List.mem_of_getElem? (i := 96) rfl)) rfl), by decide, fun h => absurd h (by decide), fun h => absurd h (by decide), fun h => absurd h (by decide)⟩
set_option maxRecDepth 100000 in
theorem pk_X1_71 : bpok TW cls_ MT RX1 71 (.inl (9, 9, 3)) := ⟨RX9, TX9, 20, rfl, by decide, (TW_mk (tl_1 _ (List.mem_of_getElem? (i := 103) rfl)) rfl), by decide, fun h => absurd h (by decide), fun h => absurd h (by decide), fun h => absurd h (by decide)⟩
set_option maxRecDepth 100000 in
theorem pk_X1_72 : bpok TW cls_ MT RX1 72 (.inl (9, 3, 0)) := ⟨RX9, TX9, 20, rfl, by decide, (TW_mk (tl_1 _ (List.mem_of_getElem? (i := 84) rfl)) rfl), by decide, fun _ => by decide +kernel, fun h => absurd h (by decide), fun h => absurd h (by decide)⟩
set_option maxRecDepth 100000 in
theorem pk_X1_75 : bpok TW cls_ MT RX1 75 (.inl (9, 8, 3)) := ⟨RX9, TX9, 20, rfl, by decide, (TW_mk (tl_1 _ (List.mem_of_getElem? (i := 100) rfl)) rfl), by decide, fun h => absurd h (by decide), fun h => absurd h (by decide), fun h => absurd h (by decide)⟩
set_option maxRecDepth 100000 in
theorem pk_X1_78 : bpok TW cls_ MT RX1 78 (.inr (.inl 20)) := ⟨M_X1_isHome, rfl, (TW_mk (tl_4 _ (List.mem_of_getElem? (i := 207) rfl)) rfl)⟩
set_option maxRecDepth 100000 in
theorem pk_X1_82 : bpok TW cls_ MT RX1 82 (.inr (.inl 346)) := ⟨M_J9_min_7cf53, rfl, (TW_mk (tl_4 _ (List.mem_of_getElem? (i := 137) rfl)) rfl)⟩
set_option maxRecDepth 100000 in
theorem pk_X1_88 : bpok TW cls_ MT RX1 88 (.inr (.inl 345)) := ⟨M_J9_max_7cf53, rfl, (TW_mk (tl_4 _ (List.mem_of_getElem? (i := 138) rfl)) rfl)⟩
set_option maxRecDepth 100000 in
theorem pk_X1_91 : bpok TW cls_ MT RX1 91 (.inl (9, 19, 3)) := ⟨RX9, TX9, 20, rfl, by decide, (TW_mk (tl_1 _ (List.mem_of_getElem? (i := 136) rfl)) rfl), by decide, fun h => absurd h (by decide), fun h => absurd h (by decide), fun h => absurd h (by decide)⟩
set_option maxRecDepth 100000 in
theorem pk_X1_95 : bpok TW cls_ MT RX1 95 (.inl (2, 2, 3)) := ⟨RX2, TX2, 4, rfl, by decide, (TW_mk (tl_1 _ (List.mem_of_getElem? (i := 45) rfl)) rfl), by decide, fun h => absurd h (by decide), fun h => absurd h (by decide), fun h => absurd h (by decide)⟩
set_option maxRecDepth 100000 in
theorem pk_X1_100 : bpok TW cls_ MT RX1 100 (.inr (.inl 344)) := ⟨M_J9_floorMod_7cf53, rfl, (TW_mk (tl_4 _ (List.mem_of_getElem? (i := 118) rfl)) rfl)⟩
set_option maxRecDepth 100000 in
theorem pk_X1_103 : bpok TW cls_ MT RX1 103 (.inl (9, 10, 3)) := ⟨RX9, TX9, 20, rfl, by decide, (TW_mk (tl_1 _ (List.mem_of_getElem? (i := 106) rfl)) rfl), by decide, fun h => absurd h (by decide), fun h => absurd h (by decide), fun h => absurd h (by decide)⟩
set_option maxRecDepth 100000 in
theorem pk_X1_106 : bpok TW cls_ MT RX1 106 (.inr (.inl 24)) := ⟨M_X1_look, rfl, (TW_mk (tl_4 _ (List.mem_of_getElem? (i := 114) rfl)) rfl)⟩
set_option maxRecDepth 100000 in
theorem pk_X1_110 : bpok TW cls_ MT RX1 110 (.inr (.inl 41)) := ⟨M_X2_valueOf, rfl, (TW_mk (tl_4 _ (List.mem_of_getElem? (i := 121) rfl)) rfl)⟩
set_option maxRecDepth 100000 in
theorem pk_X1_114 : bpok TW cls_ MT RX1 114 (.inl (9, 0, 0)) := ⟨RX9, TX9, 20, rfl, by decide, (TW_mk (tl_1 _ (List.mem_of_getElem? (i := 73) rfl)) rfl), by decide, fun _ => by decide +kernel, fun h => absurd h (by decide), fun h => absurd h (by decide)⟩
set_option maxRecDepth 100000 in
theorem pk_X1_117 : bpok TW cls_ MT RX1 117 (.inr (.inl 25)) := ⟨M_X1_wishAs, rfl, (TW_mk (tl_4 _ (List.mem_of_getElem? (i := 110) rfl)) rfl)⟩
set_option maxRecDepth 100000 in
theorem pk_X1_121 : bpok TW cls_ MT RX1 121 (.inl (9, 11, 3)) := ⟨RX9, TX9, 20, rfl, by decide, (TW_mk (tl_1 _ (List.mem_of_getElem? (i := 109) rfl)) rfl), by decide, fun h => absurd h (by decide), fun h => absurd h (by decide), fun h => absurd h (by decide)⟩
set_option maxRecDepth 100000 in
theorem pk_X1_124 : bpok TW cls_ MT RX1 124 (.inr (.inl 23)) := ⟨M_X1_held, rfl, (TW_mk (tl_4 _ (List.mem_of_getElem? (i := 134) rfl)) rfl)⟩
set_option maxRecDepth 100000 in
theorem pk_X1_127 : bpok TW cls_ MT RX1 127 (.inl (9, 12, 0)) := ⟨RX9, TX9, 20, rfl, by decide, (TW_mk (tl_1 _ (List.mem_of_getElem? (i := 112) rfl)) rfl), by decide, fun _ => by decide +kernel, fun h => absurd h (by decide), fun h => absurd h (by decide)⟩
set_option maxRecDepth 100000 in
theorem pk_X1_130 : bpok TW cls_ MT RX1 130 (.inl (9, 13, 0)) := ⟨RX9, TX9, 20, rfl, by decide, (TW_mk (tl_1 _ (List.mem_of_getElem? (i := 115) rfl)) rfl), by decide, fun _ => by decide +kernel, fun h => absurd h (by decide), fun h => absurd h (by decide)⟩
set_option maxRecDepth 100000 in
theorem pk_X1_133 : bpok TW cls_ MT RX1 133 (.inl (9, 14, 0)) := ⟨RX9, TX9, 20, rfl, by decide, (TW_mk (tl_1 _ (List.mem_of_getElem? (i := 118) rfl)) rfl), by decide, fun _ => by decide +kernel, fun h => absurd h (by decide), fun h => absurd h (by decide)⟩
set_option maxRecDepth 100000 in
theorem pk_X1_136 : bpok TW cls_ MT RX1 136 (.inl (9, 5, 3)) := ⟨RX9, TX9, 20, rfl, by decide, (TW_mk (tl_1 _ (List.mem_of_getElem? (i := 92) rfl)) rfl), by decide, fun h => absurd h (by decide), fun h => absurd h (by decide), fun h => absurd h (by decide)⟩
set_option maxRecDepth 100000 in
theorem pk_X1_139 : bpok TW cls_ MT RX1 139 (.inr (.inl 27)) := ⟨M_X1_tollNow, rfl, (TW_mk (tl_4 _ (List.mem_of_getElem? (i := 147) rfl)) rfl)⟩
set_option maxRecDepth 100000 in
theorem pk_X1_142 : bpok TW cls_ MT RX1 142 (.inr (.inl 26)) := ⟨M_X1_wishNow, rfl, (TW_mk (tl_4 _ (List.mem_of_getElem? (i := 161) rfl)) rfl)⟩
set_option maxRecDepth 100000 in
theorem pk_X1_145 : bpok TW cls_ MT RX1 145 (.inr (.inl 33)) := ⟨M_X1_landAll, rfl, (TW_mk (tl_4 _ (List.mem_of_getElem? (i := 162) rfl)) rfl)⟩
set_option maxRecDepth 100000 in
theorem pk_X1_149 : bpok TW cls_ MT RX1 149 (.inr (.inr (.inl (1103515245)))) := (TW_mk (tl_4 _ (List.mem_of_getElem? (i := 177) rfl)) rfl)
set_option maxRecDepth 100000 in
theorem pk_X1_150 : bpok TW cls_ MT RX1 150 (.inr (.inl 34)) := ⟨M_X1_stirred, rfl, (TW_mk (tl_4 _ (List.mem_of_getElem? (i := 174) rfl)) rfl)⟩
set_option maxRecDepth 100000 in
theorem pk_X1_153 : bpok TW cls_ MT RX1 153 (.inl (9, 15, 0)) := ⟨RX9, TX9, 20, rfl, by decide, (TW_mk (tl_1 _ (List.mem_of_getElem? (i := 121) rfl)) rfl), by decide, fun _ => by decide +kernel, fun h => absurd h (by decide), fun h => absurd h (by decide)⟩
set_option maxRecDepth 100000 in
theorem pk_X1_156 : bpok TW cls_ MT RX1 156 (.inl (9, 2, 0)) := ⟨RX9, TX9, 20, rfl, by decide, (TW_mk (tl_1 _ (List.mem_of_getElem? (i := 82) rfl)) rfl), by decide, fun _ => by decide +kernel, fun h => absurd h (by decide), fun h => absurd h (by decide)⟩
set_option maxRecDepth 100000 in
theorem pk_X1_159 : bpok TW cls_ MT RX1 159 (.inr (.inl 35)) := ⟨M_X1_lot, rfl, (TW_mk (tl_4 _ (List.mem_of_getElem? (i := 170) rfl)) rfl)⟩
set_option maxRecDepth 100000 in
theorem pk_X1_162 : bpok TW cls_ MT RX1 162 (.inl (9, 16, 0)) := ⟨RX9, TX9, 20, rfl, by decide, (TW_mk (tl_1 _ (List.mem_of_getElem? (i := 125) rfl)) rfl), by decide, fun _ => by decide +kernel, fun h => absurd h (by decide), fun h => absurd h (by decide)⟩
set_option maxRecDepth 100000 in
theorem pk_X1_165 : bpok TW cls_ MT RX1 165 (.inr (.inl 38)) := ⟨M_X1_bridgeByRule, rfl, (TW_mk (tl_4 _ (List.mem_of_getElem? (i := 211) rfl)) rfl)⟩
set_option maxRecDepth 100000 in
theorem pk_X1_168 : bpok TW cls_ MT RX1 168 (.inr (.inl 32)) := ⟨M_X1_crossOver, rfl, (TW_mk (tl_4 _ (List.mem_of_getElem? (i := 220) rfl)) rfl)⟩
set_option maxRecDepth 100000 in
theorem pk_X1_171 : bpok TW cls_ MT RX1 171 (.inr (.inl 36)) := ⟨M_X1_hourPasses, rfl, (TW_mk (tl_4 _ (List.mem_of_getElem? (i := 221) rfl)) rfl)⟩
set_option maxRecDepth 100000 in
theorem pk_X1_174 : bpok TW cls_ MT RX1 174 (.inr (.inl 31)) := ⟨M_X1_couldCross, rfl, (TW_mk (tl_4 _ (List.mem_of_getElem? (i := 215) rfl)) rfl)⟩
set_option maxRecDepth 100000 in
theorem pk_X1_178 : bpok TW cls_ MT RX1 178 (.inr (.inl 28)) := ⟨M_X1_wouldGo, rfl, (TW_mk (tl_4 _ (List.mem_of_getElem? (i := 216) rfl)) rfl)⟩
set_option maxRecDepth 100000 in
theorem pk_X1 : ∀ q ∈ pool_X1, bpok TW cls_ MT RX1 q.1 q.2 := List.forall_mem_cons.mpr ⟨pk_X1_9, List.forall_mem_cons.mpr ⟨pk_X1_15, List.forall_mem_cons.mpr ⟨pk_X1_18, List.forall_mem_cons.mpr ⟨pk_X1_21, List.forall_mem_cons.mpr ⟨pk_X1_24, List.forall_mem_cons.mpr ⟨pk_X1_27, List.forall_mem_cons.mpr ⟨pk_X1_30, List.forall_mem_cons.mpr ⟨pk_X1_33, List.forall_mem_cons.mpr ⟨pk_X1_37, List.forall_mem_cons.mpr ⟨pk_X1_43, List.forall_mem_cons.mpr ⟨pk_X1_44, List.forall_mem_cons.mpr ⟨pk_X1_47, List.forall_mem_cons.mpr ⟨pk_X1_50, List.forall_mem_cons.mpr ⟨pk_X1_53, List.forall_mem_cons.mpr ⟨pk_X1_56, List.forall_mem_cons.mpr ⟨pk_X1_62, List.forall_mem_cons.mpr ⟨pk_X1_68, List.forall_mem_cons.mpr ⟨pk_X1_71, List.forall_mem_cons.mpr ⟨pk_X1_72, List.forall_mem_cons.mpr ⟨pk_X1_75, List.forall_mem_cons.mpr ⟨pk_X1_78, List.forall_mem_cons.mpr ⟨pk_X1_82, List.forall_mem_cons.mpr ⟨pk_X1_88, List.forall_mem_cons.mpr ⟨pk_X1_91, List.forall_mem_cons.mpr ⟨pk_X1_95, List.forall_mem_cons.mpr ⟨pk_X1_100, List.forall_mem_cons.mpr ⟨pk_X1_103, List.forall_mem_cons.mpr ⟨pk_X1_106, List.forall_mem_cons.mpr ⟨pk_X1_110, List.forall_mem_cons.mpr ⟨pk_X1_114, List.forall_mem_cons.mpr ⟨pk_X1_117, List.forall_mem_cons.mpr ⟨pk_X1_121, List.forall_mem_cons.mpr ⟨pk_X1_124, List.forall_mem_cons.mpr ⟨pk_X1_127, List.forall_mem_cons.mpr ⟨pk_X1_130, List.forall_mem_cons.mpr ⟨pk_X1_133, List.forall_mem_cons.mpr ⟨pk_X1_136, List.forall_mem_cons.mpr ⟨pk_X1_139, List.forall_mem_cons.mpr ⟨pk_X1_142, List.forall_mem_cons.mpr ⟨pk_X1_145, List.forall_mem_cons.mpr ⟨pk_X1_149, List.forall_mem_cons.mpr ⟨pk_X1_150, List.forall_mem_cons.mpr ⟨pk_X1_153, List.forall_mem_cons.mpr ⟨pk_X1_156, List.forall_mem_cons.mpr ⟨pk_X1_159, List.forall_mem_cons.mpr ⟨pk_X1_162, List.forall_mem_cons.mpr ⟨pk_X1_165, List.forall_mem_cons.mpr ⟨pk_X1_168, List.forall_mem_cons.mpr ⟨pk_X1_171, List.forall_mem_cons.mpr ⟨pk_X1_174, List.forall_mem_cons.mpr ⟨pk_X1_178, fun _ h => absurd h List.not_mem_nil⟩⟩⟩⟩⟩⟩⟩⟩⟩⟩⟩⟩⟩⟩⟩⟩⟩⟩⟩⟩⟩⟩⟩⟩⟩⟩⟩⟩⟩⟩⟩⟩⟩⟩⟩⟩⟩⟩⟩⟩⟩⟩⟩⟩⟩⟩⟩⟩⟩⟩⟩
set_option maxRecDepth 100000 in
theorem pk_X2_9 : bpok TW cls_ MT RX2 9 (.inl (2, 0, 3)) := ⟨RX2, TX2, 4, rfl, by decide, (TW_mk (tl_1 _ (List.mem_of_getElem? (i := 42) rfl)) rfl), by decide, fun h => absurd h (by decide), fun h => absurd h (by decide), fun h => absurd h (by decide)⟩
set_option maxRecDepth 100000 in
theorem pk_X2_15 : bpok TW cls_ MT RX2 15 (.inl (2, 1, 3)) := ⟨RX2, TX2, 4, rfl, by decide, (TW_mk (tl_1 _ (List.mem_of_getElem? (i := 43) rfl)) rfl), by decide, fun h => absurd h (by decide), fun h => absurd h (by decide), fun h => absurd h (by decide)⟩
set_option maxRecDepth 100000 in
theorem pk_X2_18 : bpok TW cls_ MT RX2 18 (.inl (2, 2, 3)) := ⟨RX2, TX2, 4, rfl, by decide, (TW_mk (tl_1 _ (List.mem_of_getElem? (i := 44) rfl)) rfl), by decide, fun h => absurd h (by decide), fun h => absurd h (by decide), fun h => absurd h (by decide)⟩
set_option maxRecDepth 100000 in
theorem pk_X2_21 : bpok TW cls_ MT RX2 21 (.inl (2, 3, 0)) := ⟨RX2, TX2, 4, rfl, by decide, (TW_mk (tl_1 _ (List.mem_of_getElem? (i := 46) rfl)) rfl), by decide, fun _ => by decide +kernel, fun h => absurd h (by decide), fun h => absurd h (by decide)⟩
set_option maxRecDepth 100000 in
theorem pk_X2_25 : bpok TW cls_ MT RX2 25 (.inr (.inl 345)) := ⟨M_J9_max_7cf53, rfl, (TW_mk (tl_4 _ (List.mem_of_getElem? (i := 125) rfl)) rfl)⟩
set_option maxRecDepth 100000 in
theorem pk_X2 : ∀ q ∈ pool_X2, bpok TW cls_ MT RX2 q.1 q.2 := List.forall_mem_cons.mpr ⟨pk_X2_9, List.forall_mem_cons.mpr ⟨pk_X2_15, List.forall_mem_cons.mpr ⟨pk_X2_18, List.forall_mem_cons.mpr ⟨pk_X2_21, List.forall_mem_cons.mpr ⟨pk_X2_25, fun _ h => absurd h List.not_mem_nil⟩⟩⟩⟩⟩
set_option maxRecDepth 100000 in
theorem pk_X3_9 : bpok TW cls_ MT RX3 9 (.inl (3, 1, 3)) := ⟨RX3, TX3, 9, rfl, by decide, (TW_mk (tl_3 _ (List.mem_of_getElem? (i := 7) rfl)) rfl), by decide, fun h => absurd h (by decide), fun h => absurd h (by decide), fun h => absurd h (by decide)⟩
set_option maxRecDepth 100000 in
theorem pk_X3_15 : bpok TW cls_ MT RX3 15 (.inl (3, 2, 3)) := ⟨RX3, TX3, 9, rfl, by decide, (TW_mk (tl_3 _ (List.mem_of_getElem? (i := 8) rfl)) rfl), by decide, fun h => absurd h (by decide), fun h => absurd h (by decide), fun h => absurd h (by decide)⟩
set_option maxRecDepth 100000 in
theorem pk_X3_18 : bpok TW cls_ MT RX3 18 (.inl (3, 3, 3)) := ⟨RX3, TX3, 9, rfl, by decide, (TW_mk (tl_3 _ (List.mem_of_getElem? (i := 9) rfl)) rfl), by decide, fun h => absurd h (by decide), fun h => absurd h (by decide), fun h => absurd h (by decide)⟩
set_option maxRecDepth 100000 in
theorem pk_X3_21 : bpok TW cls_ MT RX3 21 (.inl (3, 4, 3)) := ⟨RX3, TX3, 9, rfl, by decide, (TW_mk (tl_3 _ (List.mem_of_getElem? (i := 10) rfl)) rfl), by decide, fun h => absurd h (by decide), fun h => absurd h (by decide), fun h => absurd h (by decide)⟩
set_option maxRecDepth 100000 in
theorem pk_X3_24 : bpok TW cls_ MT RX3 24 (.inl (3, 7, 3)) := ⟨RX3, TX3, 9, rfl, by decide, (TW_mk (tl_3 _ (List.mem_of_getElem? (i := 13) rfl)) rfl), by decide, fun h => absurd h (by decide), fun h => absurd h (by decide), fun h => absurd h (by decide)⟩
set_option maxRecDepth 100000 in
theorem pk_X3_27 : bpok TW cls_ MT RX3 27 (.inl (3, 0, 3)) := ⟨RX3, TX3, 9, rfl, by decide, (TW_mk (tl_3 _ (List.mem_of_getElem? (i := 6) rfl)) rfl), by decide, fun h => absurd h (by decide), fun h => absurd h (by decide), fun h => absurd h (by decide)⟩
set_option maxRecDepth 100000 in
theorem pk_X3_31 : bpok TW cls_ MT RX3 31 (.inr (.inl 43)) := ⟨M_X3_lineUp, rfl, (TW_mk (tl_6 _ (List.mem_of_getElem? (i := 96) rfl)) rfl)⟩
set_option maxRecDepth 100000 in
theorem pk_X3_35 : bpok TW cls_ MT RX3 35 (.inl (1, 0, 2)) := ⟨RX1, TX1, 12, rfl, by decide, (TW_mk (tl_2 _ (List.mem_of_getElem? (i := 77) rfl)) rfl), by decide, fun h => absurd h (by decide), fun h => absurd h (by decide), fun _ => ⟨"WishBridges$Told", by decide +kernel⟩⟩
set_option maxRecDepth 100000 in
theorem pk_X3_41 : bpok TW cls_ MT RX3 41 (.inl (9, 0, 0)) := ⟨RX9, TX9, 20, rfl, by decide, (TW_mk (tl_1 _ (List.mem_of_getElem? (i := 68) rfl)) rfl), by decide, fun _ => by decide +kernel, fun h => absurd h (by decide), fun h => absurd h (by decide)⟩
set_option maxRecDepth 100000 in
theorem pk_X3_47 : bpok TW cls_ MT RX3 47 (.inl (3, 6, 0)) := ⟨RX3, TX3, 9, rfl, by decide, (TW_mk (tl_3 _ (List.mem_of_getElem? (i := 12) rfl)) rfl), by decide, fun _ => by decide +kernel, fun h => absurd h (by decide), fun h => absurd h (by decide)⟩
set_option maxRecDepth 100000 in
theorem pk_X3_48 : bpok TW cls_ MT RX3 48 (.inl (1, 5, 3)) := ⟨RX1, TX1, 12, rfl, by decide, (TW_mk (tl_2 _ (List.mem_of_getElem? (i := 91) rfl)) rfl), by decide, fun h => absurd h (by decide), fun h => absurd h (by decide), fun h => absurd h (by decide)⟩
set_option maxRecDepth 100000 in
theorem pk_X3_51 : bpok TW cls_ MT RX3 51 (.inr (.inl 44)) := ⟨M_X3_findNeeds, rfl, (TW_mk (tl_6 _ (List.mem_of_getElem? (i := 100) rfl)) rfl)⟩
set_option maxRecDepth 100000 in
theorem pk_X3_55 : bpok TW cls_ MT RX3 55 (.inr (.inl 45)) := ⟨M_X3_askFancies, rfl, (TW_mk (tl_6 _ (List.mem_of_getElem? (i := 104) rfl)) rfl)⟩
set_option maxRecDepth 100000 in
theorem pk_X3_58 : bpok TW cls_ MT RX3 58 (.inr (.inl 347)) := ⟨M_J7_fill_53178, rfl, (TW_mk (tl_6 _ (List.mem_of_getElem? (i := 112) rfl)) rfl)⟩
set_option maxRecDepth 100000 in
theorem pk_X3_64 : bpok TW cls_ MT RX3 64 (.inr (.inr (.inl (1073741824)))) := (TW_mk (tl_6 _ (List.mem_of_getElem? (i := 113) rfl)) rfl)
set_option maxRecDepth 100000 in
theorem pk_X3_65 : bpok TW cls_ MT RX3 65 (.inl (3, 8, 0)) := ⟨RX3, TX3, 9, rfl, by decide, (TW_mk (tl_3 _ (List.mem_of_getElem? (i := 15) rfl)) rfl), by decide, fun _ => by decide +kernel, fun h => absurd h (by decide), fun h => absurd h (by decide)⟩
set_option maxRecDepth 100000 in
theorem pk_X3_68 : bpok TW cls_ MT RX3 68 (.inr (.inl 46)) := ⟨M_X3_tryPrices, rfl, (TW_mk (tl_6 _ (List.mem_of_getElem? (i := 114) rfl)) rfl)⟩
set_option maxRecDepth 100000 in
theorem pk_X3_71 : bpok TW cls_ MT RX3 71 (.inr (.inl 47)) := ⟨M_X3_nextPrices, rfl, (TW_mk (tl_6 _ (List.mem_of_getElem? (i := 131) rfl)) rfl)⟩
set_option maxRecDepth 100000 in
theorem pk_X3_74 : bpok TW cls_ MT RX3 74 (.inl (3, 5, 0)) := ⟨RX3, TX3, 9, rfl, by decide, (TW_mk (tl_3 _ (List.mem_of_getElem? (i := 11) rfl)) rfl), by decide, fun _ => by decide +kernel, fun h => absurd h (by decide), fun h => absurd h (by decide)⟩
set_option maxRecDepth 100000 in
theorem pk_X3_77 : bpok TW cls_ MT RX3 77 (.inl (9, 8, 3)) := ⟨RX9, TX9, 20, rfl, by decide, (TW_mk (tl_1 _ (List.mem_of_getElem? (i := 98) rfl)) rfl), by decide, fun h => absurd h (by decide), fun h => absurd h (by decide), fun h => absurd h (by decide)⟩
set_option maxRecDepth 100000 in
theorem pk_X3_80 : bpok TW cls_ MT RX3 80 (.inl (1, 2, 0)) := ⟨RX1, TX1, 12, rfl, by decide, (TW_mk (tl_2 _ (List.mem_of_getElem? (i := 83) rfl)) rfl), by decide, fun _ => by decide +kernel, fun h => absurd h (by decide), fun h => absurd h (by decide)⟩
set_option maxRecDepth 100000 in
theorem pk_X3_83 : bpok TW cls_ MT RX3 83 (.inr (.inl 30)) := ⟨M_X1_fancyAs, rfl, (TW_mk (tl_6 _ (List.mem_of_getElem? (i := 108) rfl)) rfl)⟩
set_option maxRecDepth 100000 in
theorem pk_X3_87 : bpok TW cls_ MT RX3 87 (.inr (.inl 48)) := ⟨M_X3_allLeaveWhatIsNeeded, rfl, (TW_mk (tl_6 _ (List.mem_of_getElem? (i := 118) rfl)) rfl)⟩
set_option maxRecDepth 100000 in
theorem pk_X3_91 : bpok TW cls_ MT RX3 91 (.inr (.inl 0)) := ⟨(TW_mk (tl_6 _ (List.mem_of_getElem? (i := 130) rfl)) rfl), (TW_mk (tl_4 _ (List.mem_of_getElem? (i := 56) rfl)) rfl), (TW_mk (tl_4 _ (List.mem_of_getElem? (i := 55) rfl)) rfl), (TW_mk (tl_1 _ (List.mem_of_getElem? (i := 20) rfl)) rfl)⟩
set_option maxRecDepth 100000 in
theorem pk_X3_97 : bpok TW cls_ MT RX3 97 (.inr (.inl 49)) := ⟨M_X3_favourite, rfl, (TW_mk (tl_6 _ (List.mem_of_getElem? (i := 122) rfl)) rfl)⟩
set_option maxRecDepth 100000 in
theorem pk_X3_101 : bpok TW cls_ MT RX3 101 (.inr (.inl 50)) := ⟨M_X3_liking, rfl, (TW_mk (tl_6 _ (List.mem_of_getElem? (i := 126) rfl)) rfl)⟩
set_option maxRecDepth 100000 in
theorem pk_X3 : ∀ q ∈ pool_X3, bpok TW cls_ MT RX3 q.1 q.2 := List.forall_mem_cons.mpr ⟨pk_X3_9, List.forall_mem_cons.mpr ⟨pk_X3_15, List.forall_mem_cons.mpr ⟨pk_X3_18, List.forall_mem_cons.mpr ⟨pk_X3_21, List.forall_mem_cons.mpr ⟨pk_X3_24, List.forall_mem_cons.mpr ⟨pk_X3_27, List.forall_mem_cons.mpr ⟨pk_X3_31, List.forall_mem_cons.mpr ⟨pk_X3_35, List.forall_mem_cons.mpr ⟨pk_X3_41, List.forall_mem_cons.mpr ⟨pk_X3_47, List.forall_mem_cons.mpr ⟨pk_X3_48, List.forall_mem_cons.mpr ⟨pk_X3_51, List.forall_mem_cons.mpr ⟨pk_X3_55, List.forall_mem_cons.mpr ⟨pk_X3_58, List.forall_mem_cons.mpr ⟨pk_X3_64, List.forall_mem_cons.mpr ⟨pk_X3_65, List.forall_mem_cons.mpr ⟨pk_X3_68, List.forall_mem_cons.mpr ⟨pk_X3_71, List.forall_mem_cons.mpr ⟨pk_X3_74, List.forall_mem_cons.mpr ⟨pk_X3_77, List.forall_mem_cons.mpr ⟨pk_X3_80, List.forall_mem_cons.mpr ⟨pk_X3_83, List.forall_mem_cons.mpr ⟨pk_X3_87, List.forall_mem_cons.mpr ⟨pk_X3_91, List.forall_mem_cons.mpr ⟨pk_X3_97, List.forall_mem_cons.mpr ⟨pk_X3_101, fun _ h => absurd h List.not_mem_nil⟩⟩⟩⟩⟩⟩⟩⟩⟩⟩⟩⟩⟩⟩⟩⟩⟩⟩⟩⟩⟩⟩⟩⟩⟩⟩
set_option maxRecDepth 100000 in
theorem pk_X4_12 : bpok TW cls_ MT RX4 12 (.inl (4, 1, 3)) := ⟨RX4, TX4, 14, rfl, by decide, (TW_mk (tl_2 _ (List.mem_of_getElem? (i := 28) rfl)) rfl), by decide, fun h => absurd h (by decide), fun h => absurd h (by decide), fun h => absurd h (by decide)⟩
set_option maxRecDepth 100000 in
theorem pk_X4_18 : bpok TW cls_ MT RX4 18 (.inl (4, 8, 3)) := ⟨RX4, TX4, 14, rfl, by decide, (TW_mk (tl_2 _ (List.mem_of_getElem? (i := 35) rfl)) rfl), by decide, fun h => absurd h (by decide), fun h => absurd h (by decide), fun h => absurd h (by decide)⟩
set_option maxRecDepth 100000 in
theorem pk_X4_22 : bpok TW cls_ MT RX4 22 (.inl (4, 9, 3)) := ⟨RX4, TX4, 14, rfl, by decide, (TW_mk (tl_2 _ (List.mem_of_getElem? (i := 36) rfl)) rfl), by decide, fun h => absurd h (by decide), fun h => absurd h (by decide), fun h => absurd h (by decide)⟩
set_option maxRecDepth 100000 in
theorem pk_X4_26 : bpok TW cls_ MT RX4 26 (.inl (4, 10, 3)) := ⟨RX4, TX4, 14, rfl, by decide, (TW_mk (tl_2 _ (List.mem_of_getElem? (i := 37) rfl)) rfl), by decide, fun h => absurd h (by decide), fun h => absurd h (by decide), fun h => absurd h (by decide)⟩
set_option maxRecDepth 100000 in
theorem pk_X4_29 : bpok TW cls_ MT RX4 29 (.inl (4, 12, 3)) := ⟨RX4, TX4, 14, rfl, by decide, (TW_mk (tl_2 _ (List.mem_of_getElem? (i := 39) rfl)) rfl), by decide, fun h => absurd h (by decide), fun h => absurd h (by decide), fun h => absurd h (by decide)⟩
set_option maxRecDepth 100000 in
theorem pk_X4_32 : bpok TW cls_ MT RX4 32 (.inr (.inl 52)) := ⟨M_X4_begin, rfl, (TW_mk (tl_3 _ (List.mem_of_getElem? (i := 128) rfl)) rfl)⟩
set_option maxRecDepth 100000 in
theorem pk_X4_36 : bpok TW cls_ MT RX4 36 (.inl (4, 5, 0)) := ⟨RX4, TX4, 14, rfl, by decide, (TW_mk (tl_2 _ (List.mem_of_getElem? (i := 32) rfl)) rfl), by decide, fun _ => by decide +kernel, fun h => absurd h (by decide), fun h => absurd h (by decide)⟩
set_option maxRecDepth 100000 in
theorem pk_X4_40 : bpok TW cls_ MT RX4 40 (.inr (.inl 53)) := ⟨M_X4_kind, rfl, (TW_mk (tl_3 _ (List.mem_of_getElem? (i := 176) rfl)) rfl)⟩
set_option maxRecDepth 100000 in
theorem pk_X4_44 : bpok TW cls_ MT RX4 44 (.inr (.inl 63)) := ⟨M_X4_readBank, rfl, (TW_mk (tl_3 _ (List.mem_of_getElem? (i := 180) rfl)) rfl)⟩
set_option maxRecDepth 100000 in
theorem pk_X4_47 : bpok TW cls_ MT RX4 47 (.inr (.inl 64)) := ⟨M_X4_readPath, rfl, (TW_mk (tl_3 _ (List.mem_of_getElem? (i := 204) rfl)) rfl)⟩
set_option maxRecDepth 100000 in
theorem pk_X4_50 : bpok TW cls_ MT RX4 50 (.inr (.inl 65)) := ⟨M_X4_readBridge, rfl, (TW_mk (tl_3 _ (List.mem_of_getElem? (i := 224) rfl)) rfl)⟩
set_option maxRecDepth 100000 in
theorem pk_X4_53 : bpok TW cls_ MT RX4 53 (.inr (.inl 66)) := ⟨M_X4_readMan, rfl, (TW_mk (tl_3 _ (List.mem_of_getElem? (i := 232) rfl)) rfl)⟩
set_option maxRecDepth 100000 in
theorem pk_X4_56 : bpok TW cls_ MT RX4 56 (.inl (4, 2, 2)) := ⟨RX4, TX4, 14, rfl, by decide, (TW_mk (tl_2 _ (List.mem_of_getElem? (i := 29) rfl)) rfl), by decide, fun h => absurd h (by decide), fun h => absurd h (by decide), fun _ => ⟨"WishBridges$Told", by decide +kernel⟩⟩
set_option maxRecDepth 100000 in
theorem pk_X4_60 : bpok TW cls_ MT RX4 60 (.inl (9, 10, 3)) := ⟨RX9, TX9, 20, rfl, by decide, (TW_mk (tl_1 _ (List.mem_of_getElem? (i := 105) rfl)) rfl), by decide, fun h => absurd h (by decide), fun h => absurd h (by decide), fun h => absurd h (by decide)⟩
set_option maxRecDepth 100000 in
theorem pk_X4_65 : bpok TW cls_ MT RX4 65 (.inr (.inl 67)) := ⟨M_X4_readNamedLaw, rfl, (TW_mk (tl_4 _ (List.mem_of_getElem? (i := 0) rfl)) rfl)⟩
set_option maxRecDepth 100000 in
theorem pk_X4_69 : bpok TW cls_ MT RX4 69 (.inl (9, 11, 3)) := ⟨RX9, TX9, 20, rfl, by decide, (TW_mk (tl_1 _ (List.mem_of_getElem? (i := 108) rfl)) rfl), by decide, fun h => absurd h (by decide), fun h => absurd h (by decide), fun h => absurd h (by decide)⟩
set_option maxRecDepth 100000 in
theorem pk_X4_72 : bpok TW cls_ MT RX4 72 (.inr (.inl 62)) := ⟨M_X4_takePlainLaw, rfl, (TW_mk (tl_4 _ (List.mem_of_getElem? (i := 42) rfl)) rfl)⟩
set_option maxRecDepth 100000 in
theorem pk_X4_76 : bpok TW cls_ MT RX4 76 (.inl (9, 12, 0)) := ⟨RX9, TX9, 20, rfl, by decide, (TW_mk (tl_1 _ (List.mem_of_getElem? (i := 111) rfl)) rfl), by decide, fun _ => by decide +kernel, fun h => absurd h (by decide), fun h => absurd h (by decide)⟩
set_option maxRecDepth 100000 in
theorem pk_X4_79 : bpok TW cls_ MT RX4 79 (.inl (9, 13, 0)) := ⟨RX9, TX9, 20, rfl, by decide, (TW_mk (tl_1 _ (List.mem_of_getElem? (i := 114) rfl)) rfl), by decide, fun _ => by decide +kernel, fun h => absurd h (by decide), fun h => absurd h (by decide)⟩
set_option maxRecDepth 100000 in
theorem pk_X4_82 : bpok TW cls_ MT RX4 82 (.inl (9, 14, 0)) := ⟨RX9, TX9, 20, rfl, by decide, (TW_mk (tl_1 _ (List.mem_of_getElem? (i := 117) rfl)) rfl), by decide, fun _ => by decide +kernel, fun h => absurd h (by decide), fun h => absurd h (by decide)⟩
set_option maxRecDepth 100000 in
theorem pk_X4_85 : bpok TW cls_ MT RX4 85 (.inr (.inl 61)) := ⟨M_X4_takeSetting, rfl, (TW_mk (tl_4 _ (List.mem_of_getElem? (i := 46) rfl)) rfl)⟩
set_option maxRecDepth 100000 in
theorem pk_X4_89 : bpok TW cls_ MT RX4 89 (.inl (9, 15, 0)) := ⟨RX9, TX9, 20, rfl, by decide, (TW_mk (tl_1 _ (List.mem_of_getElem? (i := 120) rfl)) rfl), by decide, fun _ => by decide +kernel, fun h => absurd h (by decide), fun h => absurd h (by decide)⟩
set_option maxRecDepth 100000 in
theorem pk_X4_92 : bpok TW cls_ MT RX4 92 (.inl (9, 16, 0)) := ⟨RX9, TX9, 20, rfl, by decide, (TW_mk (tl_1 _ (List.mem_of_getElem? (i := 124) rfl)) rfl), by decide, fun _ => by decide +kernel, fun h => absurd h (by decide), fun h => absurd h (by decide)⟩
set_option maxRecDepth 100000 in
theorem pk_X4_95 : bpok TW cls_ MT RX4 95 (.inl (9, 17, 0)) := ⟨RX9, TX9, 20, rfl, by decide, (TW_mk (tl_1 _ (List.mem_of_getElem? (i := 128) rfl)) rfl), by decide, fun _ => by decide +kernel, fun h => absurd h (by decide), fun h => absurd h (by decide)⟩
set_option maxRecDepth 100000 in
theorem pk_X4_98 : bpok TW cls_ MT RX4 98 (.inl (9, 18, 0)) := ⟨RX9, TX9, 20, rfl, by decide, (TW_mk (tl_1 _ (List.mem_of_getElem? (i := 132) rfl)) rfl), by decide, fun _ => by decide +kernel, fun h => absurd h (by decide), fun h => absurd h (by decide)⟩
set_option maxRecDepth 100000 in
theorem pk_X4_101 : bpok TW cls_ MT RX4 101 (.inr (.inl 54)) := ⟨M_X4_fail, rfl, (TW_mk (tl_3 _ (List.mem_of_getElem? (i := 188) rfl)) rfl)⟩
set_option maxRecDepth 100000 in
theorem pk_X4_105 : bpok TW cls_ MT RX4 105 (.inl (4, 6, 0)) := ⟨RX4, TX4, 14, rfl, by decide, (TW_mk (tl_2 _ (List.mem_of_getElem? (i := 33) rfl)) rfl), by decide, fun _ => by decide +kernel, fun h => absurd h (by decide), fun h => absurd h (by decide)⟩
set_option maxRecDepth 100000 in
theorem pk_X4_108 : bpok TW cls_ MT RX4 108 (.inl (4, 7, 0)) := ⟨RX4, TX4, 14, rfl, by decide, (TW_mk (tl_2 _ (List.mem_of_getElem? (i := 34) rfl)) rfl), by decide, fun _ => by decide +kernel, fun h => absurd h (by decide), fun h => absurd h (by decide)⟩
set_option maxRecDepth 100000 in
theorem pk_X4_111 : bpok TW cls_ MT RX4 111 (.inl (4, 0, 0)) := ⟨RX4, TX4, 14, rfl, by decide, (TW_mk (tl_2 _ (List.mem_of_getElem? (i := 26) rfl)) rfl), by decide, fun _ => by decide +kernel, fun h => absurd h (by decide), fun h => absurd h (by decide)⟩
set_option maxRecDepth 100000 in
theorem pk_X4_114 : bpok TW cls_ MT RX4 114 (.inr (.inl 117)) := ⟨M_X8_cut, rfl, (TW_mk (tl_3 _ (List.mem_of_getElem? (i := 132) rfl)) rfl)⟩
set_option maxRecDepth 100000 in
theorem pk_X4_118 : bpok TW cls_ MT RX4 118 (.inr (.inl 125)) := ⟨M_X9_clear, rfl, (TW_mk (tl_3 _ (List.mem_of_getElem? (i := 175) rfl)) rfl)⟩
set_option maxRecDepth 100000 in
theorem pk_X4_121 : bpok TW cls_ MT RX4 121 (.inl (9, 19, 3)) := ⟨RX9, TX9, 20, rfl, by decide, (TW_mk (tl_1 _ (List.mem_of_getElem? (i := 135) rfl)) rfl), by decide, fun h => absurd h (by decide), fun h => absurd h (by decide), fun h => absurd h (by decide)⟩
set_option maxRecDepth 100000 in
theorem pk_X4_125 : bpok TW cls_ MT RX4 125 (.inl (4, 3, 2)) := ⟨RX4, TX4, 14, rfl, by decide, (TW_mk (tl_2 _ (List.mem_of_getElem? (i := 30) rfl)) rfl), by decide, fun h => absurd h (by decide), fun h => absurd h (by decide), fun _ => ⟨"WishBridges$Laws", by decide +kernel⟩⟩
set_option maxRecDepth 100000 in
theorem pk_X4_126 : bpok TW cls_ MT RX4 126 (.inl (4, 4, 0)) := ⟨RX4, TX4, 14, rfl, by decide, (TW_mk (tl_2 _ (List.mem_of_getElem? (i := 31) rfl)) rfl), by decide, fun _ => by decide +kernel, fun h => absurd h (by decide), fun h => absurd h (by decide)⟩
set_option maxRecDepth 100000 in
theorem pk_X4_129 : bpok TW cls_ MT RX4 129 (.inl (4, 11, 0)) := ⟨RX4, TX4, 14, rfl, by decide, (TW_mk (tl_2 _ (List.mem_of_getElem? (i := 38) rfl)) rfl), by decide, fun _ => by decide +kernel, fun h => absurd h (by decide), fun h => absurd h (by decide)⟩
set_option maxRecDepth 100000 in
theorem pk_X4_132 : bpok TW cls_ MT RX4 132 (.inl (8, 1, 3)) := ⟨RX8, TX8, 6, rfl, by decide, (TW_mk (tl_2 _ (List.mem_of_getElem? (i := 5) rfl)) rfl), by decide, fun h => absurd h (by decide), fun h => absurd h (by decide), fun h => absurd h (by decide)⟩
set_option maxRecDepth 100000 in
theorem pk_X4_135 : bpok TW cls_ MT RX4 135 (.inl (8, 3, 3)) := ⟨RX8, TX8, 6, rfl, by decide, (TW_mk (tl_2 _ (List.mem_of_getElem? (i := 9) rfl)) rfl), by decide, fun h => absurd h (by decide), fun h => absurd h (by decide), fun h => absurd h (by decide)⟩
set_option maxRecDepth 100000 in
theorem pk_X4_138 : bpok TW cls_ MT RX4 138 (.inr (.inl 56)) := ⟨M_X4_take, rfl, (TW_mk (tl_3 _ (List.mem_of_getElem? (i := 192) rfl)) rfl)⟩
set_option maxRecDepth 100000 in
theorem pk_X4_141 : bpok TW cls_ MT RX4 141 (.inl (8, 2, 3)) := ⟨RX8, TX8, 6, rfl, by decide, (TW_mk (tl_2 _ (List.mem_of_getElem? (i := 7) rfl)) rfl), by decide, fun h => absurd h (by decide), fun h => absurd h (by decide), fun h => absurd h (by decide)⟩
set_option maxRecDepth 100000 in
theorem pk_X4_144 : bpok TW cls_ MT RX4 144 (.inr (.inl 55)) := ⟨M_X4_note, rfl, (TW_mk (tl_3 _ (List.mem_of_getElem? (i := 200) rfl)) rfl)⟩
set_option maxRecDepth 100000 in
theorem pk_X4_148 : bpok TW cls_ MT RX4 148 (.inr (.inl 60)) := ⟨M_X4_takeInt, rfl, (TW_mk (tl_3 _ (List.mem_of_getElem? (i := 212) rfl)) rfl)⟩
set_option maxRecDepth 100000 in
theorem pk_X4_151 : bpok TW cls_ MT RX4 151 (.inr (.inl 68)) := ⟨M_X4_takeLaw, rfl, (TW_mk (tl_4 _ (List.mem_of_getElem? (i := 4) rfl)) rfl)⟩
set_option maxRecDepth 100000 in
theorem pk_X4_154 : bpok TW cls_ MT RX4 154 (.inl (9, 0, 0)) := ⟨RX9, TX9, 20, rfl, by decide, (TW_mk (tl_1 _ (List.mem_of_getElem? (i := 74) rfl)) rfl), by decide, fun _ => by decide +kernel, fun h => absurd h (by decide), fun h => absurd h (by decide)⟩
set_option maxRecDepth 100000 in
theorem pk_X4_157 : bpok TW cls_ MT RX4 157 (.inr (.inl 57)) := ⟨M_X4_takeFirst, rfl, (TW_mk (tl_3 _ (List.mem_of_getElem? (i := 184) rfl)) rfl)⟩
set_option maxRecDepth 100000 in
theorem pk_X4_161 : bpok TW cls_ MT RX4 161 (.inr (.inl 58)) := ⟨M_X4_takeNewName, rfl, (TW_mk (tl_3 _ (List.mem_of_getElem? (i := 196) rfl)) rfl)⟩
set_option maxRecDepth 100000 in
theorem pk_X4_164 : bpok TW cls_ MT RX4 164 (.inl (9, 1, 0)) := ⟨RX9, TX9, 20, rfl, by decide, (TW_mk (tl_1 _ (List.mem_of_getElem? (i := 76) rfl)) rfl), by decide, fun _ => by decide +kernel, fun h => absurd h (by decide), fun h => absurd h (by decide)⟩
set_option maxRecDepth 100000 in
theorem pk_X4_167 : bpok TW cls_ MT RX4 167 (.inr (.inl 59)) := ⟨M_X4_takeName, rfl, (TW_mk (tl_3 _ (List.mem_of_getElem? (i := 208) rfl)) rfl)⟩
set_option maxRecDepth 100000 in
theorem pk_X4_170 : bpok TW cls_ MT RX4 170 (.inr (.inl 126)) := ⟨M_X9_addPath, rfl, (TW_mk (tl_3 _ (List.mem_of_getElem? (i := 216) rfl)) rfl)⟩
set_option maxRecDepth 100000 in
theorem pk_X4_173 : bpok TW cls_ MT RX4 173 (.inl (9, 2, 0)) := ⟨RX9, TX9, 20, rfl, by decide, (TW_mk (tl_1 _ (List.mem_of_getElem? (i := 81) rfl)) rfl), by decide, fun _ => by decide +kernel, fun h => absurd h (by decide), fun h => absurd h (by decide)⟩
set_option maxRecDepth 100000 in
theorem pk_X4_176 : bpok TW cls_ MT RX4 176 (.inr (.inl 127)) := ⟨M_X9_addBridge, rfl, (TW_mk (tl_3 _ (List.mem_of_getElem? (i := 228) rfl)) rfl)⟩
set_option maxRecDepth 100000 in
theorem pk_X4_179 : bpok TW cls_ MT RX4 179 (.inl (9, 3, 0)) := ⟨RX9, TX9, 20, rfl, by decide, (TW_mk (tl_1 _ (List.mem_of_getElem? (i := 87) rfl)) rfl), by decide, fun _ => by decide +kernel, fun h => absurd h (by decide), fun h => absurd h (by decide)⟩
set_option maxRecDepth 100000 in
theorem pk_X4_182 : bpok TW cls_ MT RX4 182 (.inr (.inl 128)) := ⟨M_X9_addMan, rfl, (TW_mk (tl_3 _ (List.mem_of_getElem? (i := 236) rfl)) rfl)⟩
set_option maxRecDepth 100000 in
theorem pk_X4_185 : bpok TW cls_ MT RX4 185 (.inl (2, 3, 0)) := ⟨RX2, TX2, 4, rfl, by decide, (TW_mk (tl_1 _ (List.mem_of_getElem? (i := 48) rfl)) rfl), by decide, fun _ => by decide +kernel, fun h => absurd h (by decide), fun h => absurd h (by decide)⟩
set_option maxRecDepth 100000 in
theorem pk_X4_190 : bpok TW cls_ MT RX4 190 (.inr (.inl 69)) := ⟨M_X4_takeSum, rfl, (TW_mk (tl_4 _ (List.mem_of_getElem? (i := 8) rfl)) rfl)⟩
set_option maxRecDepth 100000 in
theorem pk_X4_193 : bpok TW cls_ MT RX4 193 (.inr (.inl 39)) := ⟨M_X2_add, rfl, (TW_mk (tl_4 _ (List.mem_of_getElem? (i := 20) rfl)) rfl)⟩
set_option maxRecDepth 100000 in
theorem pk_X4_196 : bpok TW cls_ MT RX4 196 (.inr (.inl 40)) := ⟨M_X2_aim, rfl, (TW_mk (tl_4 _ (List.mem_of_getElem? (i := 38) rfl)) rfl)⟩
set_option maxRecDepth 100000 in
theorem pk_X4_199 : bpok TW cls_ MT RX4 199 (.inl (4, 13, 0)) := ⟨RX4, TX4, 14, rfl, by decide, (TW_mk (tl_2 _ (List.mem_of_getElem? (i := 40) rfl)) rfl), by decide, fun _ => by decide +kernel, fun h => absurd h (by decide), fun h => absurd h (by decide)⟩
set_option maxRecDepth 100000 in
theorem pk_X4_202 : bpok TW cls_ MT RX4 202 (.inr (.inl 71)) := ⟨M_X4_takeSign, rfl, (TW_mk (tl_4 _ (List.mem_of_getElem? (i := 12) rfl)) rfl)⟩
set_option maxRecDepth 100000 in
theorem pk_X4_205 : bpok TW cls_ MT RX4 205 (.inr (.inl 70)) := ⟨M_X4_takeUnit, rfl, (TW_mk (tl_4 _ (List.mem_of_getElem? (i := 16) rfl)) rfl)⟩
set_option maxRecDepth 100000 in
theorem pk_X4_208 : bpok TW cls_ MT RX4 208 (.inr (.inl 72)) := ⟨M_X4_takeCloses, rfl, (TW_mk (tl_4 _ (List.mem_of_getElem? (i := 24) rfl)) rfl)⟩
set_option maxRecDepth 100000 in
theorem pk_X4_211 : bpok TW cls_ MT RX4 211 (.inr (.inl 73)) := ⟨M_X4_weightOf, rfl, (TW_mk (tl_4 _ (List.mem_of_getElem? (i := 32) rfl)) rfl)⟩
set_option maxRecDepth 100000 in
theorem pk_X4_214 : bpok TW cls_ MT RX4 214 (.inr (.inl 74)) := ⟨M_X4_settleSigns, rfl, (TW_mk (tl_4 _ (List.mem_of_getElem? (i := 28) rfl)) rfl)⟩
set_option maxRecDepth 100000 in
theorem pk_X4_217 : bpok TW cls_ MT RX4 217 (.inr (.inl 345)) := ⟨M_J9_max_7cf53, rfl, (TW_mk (tl_4 _ (List.mem_of_getElem? (i := 35) rfl)) rfl)⟩
set_option maxRecDepth 100000 in
theorem pk_X4 : ∀ q ∈ pool_X4, bpok TW cls_ MT RX4 q.1 q.2 := List.forall_mem_cons.mpr ⟨pk_X4_12, List.forall_mem_cons.mpr ⟨pk_X4_18, List.forall_mem_cons.mpr ⟨pk_X4_22, List.forall_mem_cons.mpr ⟨pk_X4_26, List.forall_mem_cons.mpr ⟨pk_X4_29, List.forall_mem_cons.mpr ⟨pk_X4_32, List.forall_mem_cons.mpr ⟨pk_X4_36, List.forall_mem_cons.mpr ⟨pk_X4_40, List.forall_mem_cons.mpr ⟨pk_X4_44, List.forall_mem_cons.mpr ⟨pk_X4_47, List.forall_mem_cons.mpr ⟨pk_X4_50, List.forall_mem_cons.mpr ⟨pk_X4_53, List.forall_mem_cons.mpr ⟨pk_X4_56, List.forall_mem_cons.mpr ⟨pk_X4_60, List.forall_mem_cons.mpr ⟨pk_X4_65, List.forall_mem_cons.mpr ⟨pk_X4_69, List.forall_mem_cons.mpr ⟨pk_X4_72, List.forall_mem_cons.mpr ⟨pk_X4_76, List.forall_mem_cons.mpr ⟨pk_X4_79, List.forall_mem_cons.mpr ⟨pk_X4_82, List.forall_mem_cons.mpr ⟨pk_X4_85, List.forall_mem_cons.mpr ⟨pk_X4_89, List.forall_mem_cons.mpr ⟨pk_X4_92, List.forall_mem_cons.mpr ⟨pk_X4_95, List.forall_mem_cons.mpr ⟨pk_X4_98, List.forall_mem_cons.mpr ⟨pk_X4_101, List.forall_mem_cons.mpr ⟨pk_X4_105, List.forall_mem_cons.mpr ⟨pk_X4_108, List.forall_mem_cons.mpr ⟨pk_X4_111, List.forall_mem_cons.mpr ⟨pk_X4_114, List.forall_mem_cons.mpr ⟨pk_X4_118, List.forall_mem_cons.mpr ⟨pk_X4_121, List.forall_mem_cons.mpr ⟨pk_X4_125, List.forall_mem_cons.mpr ⟨pk_X4_126, List.forall_mem_cons.mpr ⟨pk_X4_129, List.forall_mem_cons.mpr ⟨pk_X4_132, List.forall_mem_cons.mpr ⟨pk_X4_135, List.forall_mem_cons.mpr ⟨pk_X4_138, List.forall_mem_cons.mpr ⟨pk_X4_141, List.forall_mem_cons.mpr ⟨pk_X4_144, List.forall_mem_cons.mpr ⟨pk_X4_148, List.forall_mem_cons.mpr ⟨pk_X4_151, List.forall_mem_cons.mpr ⟨pk_X4_154, List.forall_mem_cons.mpr ⟨pk_X4_157, List.forall_mem_cons.mpr ⟨pk_X4_161, List.forall_mem_cons.mpr ⟨pk_X4_164, List.forall_mem_cons.mpr ⟨pk_X4_167, List.forall_mem_cons.mpr ⟨pk_X4_170, List.forall_mem_cons.mpr ⟨pk_X4_173, List.forall_mem_cons.mpr ⟨pk_X4_176, List.forall_mem_cons.mpr ⟨pk_X4_179, List.forall_mem_cons.mpr ⟨pk_X4_182, List.forall_mem_cons.mpr ⟨pk_X4_185, List.forall_mem_cons.mpr ⟨pk_X4_190, List.forall_mem_cons.mpr ⟨pk_X4_193, List.forall_mem_cons.mpr ⟨pk_X4_196, List.forall_mem_cons.mpr ⟨pk_X4_199, List.forall_mem_cons.mpr ⟨pk_X4_202, List.forall_mem_cons.mpr ⟨pk_X4_205, List.forall_mem_cons.mpr ⟨pk_X4_208, List.forall_mem_cons.mpr ⟨pk_X4_211, List.forall_mem_cons.mpr ⟨pk_X4_214, List.forall_mem_cons.mpr ⟨pk_X4_217, fun _ h => absurd h List.not_mem_nil⟩⟩⟩⟩⟩⟩⟩⟩⟩⟩⟩⟩⟩⟩⟩⟩⟩⟩⟩⟩⟩⟩⟩⟩⟩⟩⟩⟩⟩⟩⟩⟩⟩⟩⟩⟩⟩⟩⟩⟩⟩⟩⟩⟩⟩⟩⟩⟩⟩⟩⟩⟩⟩⟩⟩⟩⟩⟩⟩⟩⟩⟩⟩
set_option maxRecDepth 100000 in
theorem pk_X5_11 : bpok TW cls_ MT RX5 11 (.inl (5, 1, 3)) := ⟨RX5, TX5, 13, rfl, by decide, (TW_mk (tl_2 _ (List.mem_of_getElem? (i := 171) rfl)) rfl), by decide, fun h => absurd h (by decide), fun h => absurd h (by decide), fun h => absurd h (by decide)⟩
set_option maxRecDepth 100000 in
theorem pk_X5_15 : bpok TW cls_ MT RX5 15 (.inl (5, 2, 3)) := ⟨RX5, TX5, 13, rfl, by decide, (TW_mk (tl_2 _ (List.mem_of_getElem? (i := 172) rfl)) rfl), by decide, fun h => absurd h (by decide), fun h => absurd h (by decide), fun h => absurd h (by decide)⟩
set_option maxRecDepth 100000 in
theorem pk_X5_18 : bpok TW cls_ MT RX5 18 (.inl (5, 3, 3)) := ⟨RX5, TX5, 13, rfl, by decide, (TW_mk (tl_2 _ (List.mem_of_getElem? (i := 173) rfl)) rfl), by decide, fun h => absurd h (by decide), fun h => absurd h (by decide), fun h => absurd h (by decide)⟩
set_option maxRecDepth 100000 in
theorem pk_X5_21 : bpok TW cls_ MT RX5 21 (.inl (5, 4, 3)) := ⟨RX5, TX5, 13, rfl, by decide, (TW_mk (tl_2 _ (List.mem_of_getElem? (i := 174) rfl)) rfl), by decide, fun h => absurd h (by decide), fun h => absurd h (by decide), fun h => absurd h (by decide)⟩
set_option maxRecDepth 100000 in
theorem pk_X5_24 : bpok TW cls_ MT RX5 24 (.inl (5, 5, 3)) := ⟨RX5, TX5, 13, rfl, by decide, (TW_mk (tl_2 _ (List.mem_of_getElem? (i := 175) rfl)) rfl), by decide, fun h => absurd h (by decide), fun h => absurd h (by decide), fun h => absurd h (by decide)⟩
set_option maxRecDepth 100000 in
theorem pk_X5_27 : bpok TW cls_ MT RX5 27 (.inl (5, 6, 3)) := ⟨RX5, TX5, 13, rfl, by decide, (TW_mk (tl_2 _ (List.mem_of_getElem? (i := 176) rfl)) rfl), by decide, fun h => absurd h (by decide), fun h => absurd h (by decide), fun h => absurd h (by decide)⟩
set_option maxRecDepth 100000 in
theorem pk_X5_30 : bpok TW cls_ MT RX5 30 (.inl (5, 7, 3)) := ⟨RX5, TX5, 13, rfl, by decide, (TW_mk (tl_2 _ (List.mem_of_getElem? (i := 177) rfl)) rfl), by decide, fun h => absurd h (by decide), fun h => absurd h (by decide), fun h => absurd h (by decide)⟩
set_option maxRecDepth 100000 in
theorem pk_X5_33 : bpok TW cls_ MT RX5 33 (.inl (5, 8, 3)) := ⟨RX5, TX5, 13, rfl, by decide, (TW_mk (tl_2 _ (List.mem_of_getElem? (i := 178) rfl)) rfl), by decide, fun h => absurd h (by decide), fun h => absurd h (by decide), fun h => absurd h (by decide)⟩
set_option maxRecDepth 100000 in
theorem pk_X5_36 : bpok TW cls_ MT RX5 36 (.inl (5, 0, 3)) := ⟨RX5, TX5, 13, rfl, by decide, (TW_mk (tl_2 _ (List.mem_of_getElem? (i := 170) rfl)) rfl), by decide, fun h => absurd h (by decide), fun h => absurd h (by decide), fun h => absurd h (by decide)⟩
set_option maxRecDepth 100000 in
theorem pk_X5_40 : bpok TW cls_ MT RX5 40 (.inl (5, 10, 0)) := ⟨RX5, TX5, 13, rfl, by decide, (TW_mk (tl_2 _ (List.mem_of_getElem? (i := 182) rfl)) rfl), by decide, fun _ => by decide +kernel, fun h => absurd h (by decide), fun h => absurd h (by decide)⟩
set_option maxRecDepth 100000 in
theorem pk_X5_44 : bpok TW cls_ MT RX5 44 (.inr (.inl 343)) := ⟨M_J6_bitCount_0f7a4, rfl, (TW_mk (tl_5 _ (List.mem_of_getElem? (i := 119) rfl)) rfl)⟩
set_option maxRecDepth 100000 in
theorem pk_X5_50 : bpok TW cls_ MT RX5 50 (.inl (5, 11, 0)) := ⟨RX5, TX5, 13, rfl, by decide, (TW_mk (tl_2 _ (List.mem_of_getElem? (i := 184) rfl)) rfl), by decide, fun _ => by decide +kernel, fun h => absurd h (by decide), fun h => absurd h (by decide)⟩
set_option maxRecDepth 100000 in
theorem pk_X5_53 : bpok TW cls_ MT RX5 53 (.inl (1, 5, 3)) := ⟨RX1, TX1, 12, rfl, by decide, (TW_mk (tl_2 _ (List.mem_of_getElem? (i := 90) rfl)) rfl), by decide, fun h => absurd h (by decide), fun h => absurd h (by decide), fun h => absurd h (by decide)⟩
set_option maxRecDepth 100000 in
theorem pk_X5_58 : bpok TW cls_ MT RX5 58 (.inl (5, 12, 0)) := ⟨RX5, TX5, 13, rfl, by decide, (TW_mk (tl_2 _ (List.mem_of_getElem? (i := 186) rfl)) rfl), by decide, fun _ => by decide +kernel, fun h => absurd h (by decide), fun h => absurd h (by decide)⟩
set_option maxRecDepth 100000 in
theorem pk_X5_61 : bpok TW cls_ MT RX5 61 (.inr (.inl 346)) := ⟨M_J9_min_7cf53, rfl, (TW_mk (tl_5 _ (List.mem_of_getElem? (i := 125) rfl)) rfl)⟩
set_option maxRecDepth 100000 in
theorem pk_X5_67 : bpok TW cls_ MT RX5 67 (.inl (1, 0, 2)) := ⟨RX1, TX1, 12, rfl, by decide, (TW_mk (tl_2 _ (List.mem_of_getElem? (i := 78) rfl)) rfl), by decide, fun h => absurd h (by decide), fun h => absurd h (by decide), fun _ => ⟨"WishBridges$Told", by decide +kernel⟩⟩
set_option maxRecDepth 100000 in
theorem pk_X5_71 : bpok TW cls_ MT RX5 71 (.inl (9, 0, 0)) := ⟨RX9, TX9, 20, rfl, by decide, (TW_mk (tl_1 _ (List.mem_of_getElem? (i := 69) rfl)) rfl), by decide, fun _ => by decide +kernel, fun h => absurd h (by decide), fun h => absurd h (by decide)⟩
set_option maxRecDepth 100000 in
theorem pk_X5_76 : bpok TW cls_ MT RX5 76 (.inr (.inl 76)) := ⟨M_X5_wishCell, rfl, (TW_mk (tl_5 _ (List.mem_of_getElem? (i := 126) rfl)) rfl)⟩
set_option maxRecDepth 100000 in
theorem pk_X5_80 : bpok TW cls_ MT RX5 80 (.inl (1, 2, 0)) := ⟨RX1, TX1, 12, rfl, by decide, (TW_mk (tl_2 _ (List.mem_of_getElem? (i := 82) rfl)) rfl), by decide, fun _ => by decide +kernel, fun h => absurd h (by decide), fun h => absurd h (by decide)⟩
set_option maxRecDepth 100000 in
theorem pk_X5_83 : bpok TW cls_ MT RX5 83 (.inr (.inl 25)) := ⟨M_X1_wishAs, rfl, (TW_mk (tl_5 _ (List.mem_of_getElem? (i := 129) rfl)) rfl)⟩
set_option maxRecDepth 100000 in
theorem pk_X5_86 : bpok TW cls_ MT RX5 86 (.inl (9, 8, 3)) := ⟨RX9, TX9, 20, rfl, by decide, (TW_mk (tl_1 _ (List.mem_of_getElem? (i := 99) rfl)) rfl), by decide, fun h => absurd h (by decide), fun h => absurd h (by decide), fun h => absurd h (by decide)⟩
set_option maxRecDepth 100000 in
theorem pk_X5_89 : bpok TW cls_ MT RX5 89 (.inr (.inl 78)) := ⟨M_X5_homeOf, rfl, (TW_mk (tl_5 _ (List.mem_of_getElem? (i := 154) rfl)) rfl)⟩
set_option maxRecDepth 100000 in
theorem pk_X5_92 : bpok TW cls_ MT RX5 92 (.inr (.inl 82)) := ⟨M_X5_allLiveAt, rfl, (TW_mk (tl_5 _ (List.mem_of_getElem? (i := 158) rfl)) rfl)⟩
set_option maxRecDepth 100000 in
theorem pk_X5_96 : bpok TW cls_ MT RX5 96 (.inr (.inl 77)) := ⟨M_X5_wishAt, rfl, (TW_mk (tl_5 _ (List.mem_of_getElem? (i := 162) rfl)) rfl)⟩
set_option maxRecDepth 100000 in
theorem pk_X5_99 : bpok TW cls_ MT RX5 99 (.inr (.inl 79)) := ⟨M_X5_spotOf, rfl, (TW_mk (tl_5 _ (List.mem_of_getElem? (i := 135) rfl)) rfl)⟩
set_option maxRecDepth 100000 in
theorem pk_X5_102 : bpok TW cls_ MT RX5 102 (.inr (.inl 347)) := ⟨M_J7_fill_53178, rfl, (TW_mk (tl_5 _ (List.mem_of_getElem? (i := 134) rfl)) rfl)⟩
set_option maxRecDepth 100000 in
theorem pk_X5_108 : bpok TW cls_ MT RX5 108 (.inr (.inl 80)) := ⟨M_X5_isSubset, rfl, (TW_mk (tl_5 _ (List.mem_of_getElem? (i := 138) rfl)) rfl)⟩
set_option maxRecDepth 100000 in
theorem pk_X5_112 : bpok TW cls_ MT RX5 112 (.inr (.inl 85)) := ⟨M_X5_passOrdersOn, rfl, (TW_mk (tl_5 _ (List.mem_of_getElem? (i := 142) rfl)) rfl)⟩
set_option maxRecDepth 100000 in
theorem pk_X5_116 : bpok TW cls_ MT RX5 116 (.inr (.inl 81)) := ⟨M_X5_isLeft, rfl, (TW_mk (tl_5 _ (List.mem_of_getElem? (i := 146) rfl)) rfl)⟩
set_option maxRecDepth 100000 in
theorem pk_X5_119 : bpok TW cls_ MT RX5 119 (.inr (.inl 83)) := ⟨M_X5_spotAfter, rfl, (TW_mk (tl_5 _ (List.mem_of_getElem? (i := 150) rfl)) rfl)⟩
set_option maxRecDepth 100000 in
theorem pk_X5_123 : bpok TW cls_ MT RX5 123 (.inr (.inl 87)) := ⟨M_X5_spread, rfl, (TW_mk (tl_5 _ (List.mem_of_getElem? (i := 174) rfl)) rfl)⟩
set_option maxRecDepth 100000 in
theorem pk_X5_127 : bpok TW cls_ MT RX5 127 (.inr (.inl 88)) := ⟨M_X5_spotFree, rfl, (TW_mk (tl_5 _ (List.mem_of_getElem? (i := 178) rfl)) rfl)⟩
set_option maxRecDepth 100000 in
theorem pk_X5_130 : bpok TW cls_ MT RX5 130 (.inr (.inl 89)) := ⟨M_X5_spotPaid, rfl, (TW_mk (tl_5 _ (List.mem_of_getElem? (i := 182) rfl)) rfl)⟩
set_option maxRecDepth 100000 in
theorem pk_X5_133 : bpok TW cls_ MT RX5 133 (.inr (.inl 91)) := ⟨M_X5_isHopeful, rfl, (TW_mk (tl_5 _ (List.mem_of_getElem? (i := 194) rfl)) rfl)⟩
set_option maxRecDepth 100000 in
theorem pk_X5_137 : bpok TW cls_ MT RX5 137 (.inr (.inl 90)) := ⟨M_X5_findHopeful, rfl, (TW_mk (tl_5 _ (List.mem_of_getElem? (i := 190) rfl)) rfl)⟩
set_option maxRecDepth 100000 in
theorem pk_X5_141 : bpok TW cls_ MT RX5 141 (.inr (.inl 93)) := ⟨M_X5_findHires, rfl, (TW_mk (tl_5 _ (List.mem_of_getElem? (i := 198) rfl)) rfl)⟩
set_option maxRecDepth 100000 in
theorem pk_X5_144 : bpok TW cls_ MT RX5 144 (.inr (.inl 94)) := ⟨M_X5_leadsOn, rfl, (TW_mk (tl_5 _ (List.mem_of_getElem? (i := 202) rfl)) rfl)⟩
set_option maxRecDepth 100000 in
theorem pk_X5_147 : bpok TW cls_ MT RX5 147 (.inl (5, 9, 0)) := ⟨RX5, TX5, 13, rfl, by decide, (TW_mk (tl_2 _ (List.mem_of_getElem? (i := 180) rfl)) rfl), by decide, fun _ => by decide +kernel, fun h => absurd h (by decide), fun h => absurd h (by decide)⟩
set_option maxRecDepth 100000 in
theorem pk_X5_150 : bpok TW cls_ MT RX5 150 (.inr (.inl 96)) := ⟨M_X5_drawArcs, rfl, (TW_mk (tl_5 _ (List.mem_of_getElem? (i := 222) rfl)) rfl)⟩
set_option maxRecDepth 100000 in
theorem pk_X5_153 : bpok TW cls_ MT RX5 153 (.inr (.inl 98)) := ⟨M_X5_hasArcs, rfl, (TW_mk (tl_5 _ (List.mem_of_getElem? (i := 230) rfl)) rfl)⟩
set_option maxRecDepth 100000 in
theorem pk_X5_156 : bpok TW cls_ MT RX5 156 (.inr (.inl 99)) := ⟨M_X5_moreOut, rfl, (TW_mk (tl_5 _ (List.mem_of_getElem? (i := 234) rfl)) rfl)⟩
set_option maxRecDepth 100000 in
theorem pk_X5_159 : bpok TW cls_ MT RX5 159 (.inr (.inl 345)) := ⟨M_J9_max_7cf53, rfl, (TW_mk (tl_5 _ (List.mem_of_getElem? (i := 238) rfl)) rfl)⟩
set_option maxRecDepth 100000 in
theorem pk_X5_162 : bpok TW cls_ MT RX5 162 (.inr (.inl 100)) := ⟨M_X5_lastHelps, rfl, (TW_mk (tl_5 _ (List.mem_of_getElem? (i := 239) rfl)) rfl)⟩
set_option maxRecDepth 100000 in
theorem pk_X5_166 : bpok TW cls_ MT RX5 166 (.inr (.inl 97)) := ⟨M_X5_join, rfl, (TW_mk (tl_5 _ (List.mem_of_getElem? (i := 226) rfl)) rfl)⟩
set_option maxRecDepth 100000 in
theorem pk_X5 : ∀ q ∈ pool_X5, bpok TW cls_ MT RX5 q.1 q.2 := List.forall_mem_cons.mpr ⟨pk_X5_11, List.forall_mem_cons.mpr ⟨pk_X5_15, List.forall_mem_cons.mpr ⟨pk_X5_18, List.forall_mem_cons.mpr ⟨pk_X5_21, List.forall_mem_cons.mpr ⟨pk_X5_24, List.forall_mem_cons.mpr ⟨pk_X5_27, List.forall_mem_cons.mpr ⟨pk_X5_30, List.forall_mem_cons.mpr ⟨pk_X5_33, List.forall_mem_cons.mpr ⟨pk_X5_36, List.forall_mem_cons.mpr ⟨pk_X5_40, List.forall_mem_cons.mpr ⟨pk_X5_44, List.forall_mem_cons.mpr ⟨pk_X5_50, List.forall_mem_cons.mpr ⟨pk_X5_53, List.forall_mem_cons.mpr ⟨pk_X5_58, List.forall_mem_cons.mpr ⟨pk_X5_61, List.forall_mem_cons.mpr ⟨pk_X5_67, List.forall_mem_cons.mpr ⟨pk_X5_71, List.forall_mem_cons.mpr ⟨pk_X5_76, List.forall_mem_cons.mpr ⟨pk_X5_80, List.forall_mem_cons.mpr ⟨pk_X5_83, List.forall_mem_cons.mpr ⟨pk_X5_86, List.forall_mem_cons.mpr ⟨pk_X5_89, List.forall_mem_cons.mpr ⟨pk_X5_92, List.forall_mem_cons.mpr ⟨pk_X5_96, List.forall_mem_cons.mpr ⟨pk_X5_99, List.forall_mem_cons.mpr ⟨pk_X5_102, List.forall_mem_cons.mpr ⟨pk_X5_108, List.forall_mem_cons.mpr ⟨pk_X5_112, List.forall_mem_cons.mpr ⟨pk_X5_116, List.forall_mem_cons.mpr ⟨pk_X5_119, List.forall_mem_cons.mpr ⟨pk_X5_123, List.forall_mem_cons.mpr ⟨pk_X5_127, List.forall_mem_cons.mpr ⟨pk_X5_130, List.forall_mem_cons.mpr ⟨pk_X5_133, List.forall_mem_cons.mpr ⟨pk_X5_137, List.forall_mem_cons.mpr ⟨pk_X5_141, List.forall_mem_cons.mpr ⟨pk_X5_144, List.forall_mem_cons.mpr ⟨pk_X5_147, List.forall_mem_cons.mpr ⟨pk_X5_150, List.forall_mem_cons.mpr ⟨pk_X5_153, List.forall_mem_cons.mpr ⟨pk_X5_156, List.forall_mem_cons.mpr ⟨pk_X5_159, List.forall_mem_cons.mpr ⟨pk_X5_162, List.forall_mem_cons.mpr ⟨pk_X5_166, fun _ h => absurd h List.not_mem_nil⟩⟩⟩⟩⟩⟩⟩⟩⟩⟩⟩⟩⟩⟩⟩⟩⟩⟩⟩⟩⟩⟩⟩⟩⟩⟩⟩⟩⟩⟩⟩⟩⟩⟩⟩⟩⟩⟩⟩⟩⟩⟩⟩⟩
set_option maxRecDepth 100000 in
theorem pk_X6_11 : bpok TW cls_ MT RX6 11 (.inl (6, 0, 3)) := ⟨RX6, TX6, 5, rfl, by decide, (TW_mk (tl_3 _ (List.mem_of_getElem? (i := 47) rfl)) rfl), by decide, fun h => absurd h (by decide), fun h => absurd h (by decide), fun h => absurd h (by decide)⟩
set_option maxRecDepth 100000 in
theorem pk_X6_15 : bpok TW cls_ MT RX6 15 (.inl (6, 1, 3)) := ⟨RX6, TX6, 5, rfl, by decide, (TW_mk (tl_3 _ (List.mem_of_getElem? (i := 48) rfl)) rfl), by decide, fun h => absurd h (by decide), fun h => absurd h (by decide), fun h => absurd h (by decide)⟩
set_option maxRecDepth 100000 in
theorem pk_X6_18 : bpok TW cls_ MT RX6 18 (.inl (6, 2, 3)) := ⟨RX6, TX6, 5, rfl, by decide, (TW_mk (tl_3 _ (List.mem_of_getElem? (i := 49) rfl)) rfl), by decide, fun h => absurd h (by decide), fun h => absurd h (by decide), fun h => absurd h (by decide)⟩
set_option maxRecDepth 100000 in
theorem pk_X6_21 : bpok TW cls_ MT RX6 21 (.inl (6, 3, 3)) := ⟨RX6, TX6, 5, rfl, by decide, (TW_mk (tl_3 _ (List.mem_of_getElem? (i := 50) rfl)) rfl), by decide, fun h => absurd h (by decide), fun h => absurd h (by decide), fun h => absurd h (by decide)⟩
set_option maxRecDepth 100000 in
theorem pk_X6_24 : bpok TW cls_ MT RX6 24 (.inr (.inl 101)) := ⟨M_X6_clear, rfl, (TW_mk (tl_3 _ (List.mem_of_getElem? (i := 42) rfl)) rfl)⟩
set_option maxRecDepth 100000 in
theorem pk_X6_27 : bpok TW cls_ MT RX6 27 (.inl (6, 4, 0)) := ⟨RX6, TX6, 5, rfl, by decide, (TW_mk (tl_3 _ (List.mem_of_getElem? (i := 52) rfl)) rfl), by decide, fun _ => by decide +kernel, fun h => absurd h (by decide), fun h => absurd h (by decide)⟩
set_option maxRecDepth 100000 in
theorem pk_X6_31 : bpok TW cls_ MT RX6 31 (.inr (.inl 347)) := ⟨M_J7_fill_53178, rfl, (TW_mk (tl_3 _ (List.mem_of_getElem? (i := 46) rfl)) rfl)⟩
set_option maxRecDepth 100000 in
theorem pk_X6_37 : bpok TW cls_ MT RX6 37 (.inr (.inl 104)) := ⟨M_X6_learn, rfl, (TW_mk (tl_6 _ (List.mem_of_getElem? (i := 163) rfl)) rfl)⟩
set_option maxRecDepth 100000 in
theorem pk_X6_41 : bpok TW cls_ MT RX6 41 (.inl (9, 0, 0)) := ⟨RX9, TX9, 20, rfl, by decide, (TW_mk (tl_1 _ (List.mem_of_getElem? (i := 71) rfl)) rfl), by decide, fun _ => by decide +kernel, fun h => absurd h (by decide), fun h => absurd h (by decide)⟩
set_option maxRecDepth 100000 in
theorem pk_X6_45 : bpok TW cls_ MT RX6 45 (.inl (9, 3, 0)) := ⟨RX9, TX9, 20, rfl, by decide, (TW_mk (tl_1 _ (List.mem_of_getElem? (i := 85) rfl)) rfl), by decide, fun _ => by decide +kernel, fun h => absurd h (by decide), fun h => absurd h (by decide)⟩
set_option maxRecDepth 100000 in
theorem pk_X6 : ∀ q ∈ pool_X6, bpok TW cls_ MT RX6 q.1 q.2 := List.forall_mem_cons.mpr ⟨pk_X6_11, List.forall_mem_cons.mpr ⟨pk_X6_15, List.forall_mem_cons.mpr ⟨pk_X6_18, List.forall_mem_cons.mpr ⟨pk_X6_21, List.forall_mem_cons.mpr ⟨pk_X6_24, List.forall_mem_cons.mpr ⟨pk_X6_27, List.forall_mem_cons.mpr ⟨pk_X6_31, List.forall_mem_cons.mpr ⟨pk_X6_37, List.forall_mem_cons.mpr ⟨pk_X6_41, List.forall_mem_cons.mpr ⟨pk_X6_45, fun _ h => absurd h List.not_mem_nil⟩⟩⟩⟩⟩⟩⟩⟩⟩⟩
set_option maxRecDepth 100000 in
theorem pk_X7_11 : bpok TW cls_ MT RX7 11 (.inl (7, 0, 3)) := ⟨RX7, TX7, 4, rfl, by decide, (TW_mk (tl_2 _ (List.mem_of_getElem? (i := 136) rfl)) rfl), by decide, fun h => absurd h (by decide), fun h => absurd h (by decide), fun h => absurd h (by decide)⟩
set_option maxRecDepth 100000 in
theorem pk_X7_15 : bpok TW cls_ MT RX7 15 (.inl (7, 2, 0)) := ⟨RX7, TX7, 4, rfl, by decide, (TW_mk (tl_2 _ (List.mem_of_getElem? (i := 138) rfl)) rfl), by decide, fun _ => by decide +kernel, fun h => absurd h (by decide), fun h => absurd h (by decide)⟩
set_option maxRecDepth 100000 in
theorem pk_X7_19 : bpok TW cls_ MT RX7 19 (.inl (7, 3, 0)) := ⟨RX7, TX7, 4, rfl, by decide, (TW_mk (tl_2 _ (List.mem_of_getElem? (i := 140) rfl)) rfl), by decide, fun _ => by decide +kernel, fun h => absurd h (by decide), fun h => absurd h (by decide)⟩
set_option maxRecDepth 100000 in
theorem pk_X7_22 : bpok TW cls_ MT RX7 22 (.inl (7, 1, 0)) := ⟨RX7, TX7, 4, rfl, by decide, (TW_mk (tl_2 _ (List.mem_of_getElem? (i := 137) rfl)) rfl), by decide, fun _ => by decide +kernel, fun h => absurd h (by decide), fun h => absurd h (by decide)⟩
set_option maxRecDepth 100000 in
theorem pk_X7_25 : bpok TW cls_ MT RX7 25 (.inr (.inl 16)) := ⟨M_X1_putInto, rfl, (TW_mk (tl_4 _ (List.mem_of_getElem? (i := 152) rfl)) rfl)⟩
set_option maxRecDepth 100000 in
theorem pk_X7_29 : bpok TW cls_ MT RX7 29 (.inr (.inl 346)) := ⟨M_J9_min_7cf53, rfl, (TW_mk (tl_4 _ (List.mem_of_getElem? (i := 156) rfl)) rfl)⟩
set_option maxRecDepth 100000 in
theorem pk_X7_35 : bpok TW cls_ MT RX7 35 (.inr (.inl 17)) := ⟨M_X1_takeOutOf, rfl, (TW_mk (tl_4 _ (List.mem_of_getElem? (i := 230) rfl)) rfl)⟩
set_option maxRecDepth 100000 in
theorem pk_X7 : ∀ q ∈ pool_X7, bpok TW cls_ MT RX7 q.1 q.2 := List.forall_mem_cons.mpr ⟨pk_X7_11, List.forall_mem_cons.mpr ⟨pk_X7_15, List.forall_mem_cons.mpr ⟨pk_X7_19, List.forall_mem_cons.mpr ⟨pk_X7_22, List.forall_mem_cons.mpr ⟨pk_X7_25, List.forall_mem_cons.mpr ⟨pk_X7_29, List.forall_mem_cons.mpr ⟨pk_X7_35, fun _ h => absurd h List.not_mem_nil⟩⟩⟩⟩⟩⟩⟩
set_option maxRecDepth 100000 in
theorem pk_X8_9 : bpok TW cls_ MT RX8 9 (.inl (8, 0, 3)) := ⟨RX8, TX8, 6, rfl, by decide, (TW_mk (tl_2 _ (List.mem_of_getElem? (i := 3) rfl)) rfl), by decide, fun h => absurd h (by decide), fun h => absurd h (by decide), fun h => absurd h (by decide)⟩
set_option maxRecDepth 100000 in
theorem pk_X8_13 : bpok TW cls_ MT RX8 13 (.inl (8, 1, 3)) := ⟨RX8, TX8, 6, rfl, by decide, (TW_mk (tl_2 _ (List.mem_of_getElem? (i := 4) rfl)) rfl), by decide, fun h => absurd h (by decide), fun h => absurd h (by decide), fun h => absurd h (by decide)⟩
set_option maxRecDepth 100000 in
theorem pk_X8_17 : bpok TW cls_ MT RX8 17 (.inl (8, 2, 3)) := ⟨RX8, TX8, 6, rfl, by decide, (TW_mk (tl_2 _ (List.mem_of_getElem? (i := 6) rfl)) rfl), by decide, fun h => absurd h (by decide), fun h => absurd h (by decide), fun h => absurd h (by decide)⟩
set_option maxRecDepth 100000 in
theorem pk_X8_20 : bpok TW cls_ MT RX8 20 (.inl (8, 3, 3)) := ⟨RX8, TX8, 6, rfl, by decide, (TW_mk (tl_2 _ (List.mem_of_getElem? (i := 8) rfl)) rfl), by decide, fun h => absurd h (by decide), fun h => absurd h (by decide), fun h => absurd h (by decide)⟩
set_option maxRecDepth 100000 in
theorem pk_X8_35 : bpok TW cls_ MT RX8 35 (.inr (.inl 113)) := ⟨M_X8_withLetter, rfl, (TW_mk (tl_1 _ (List.mem_of_getElem? (i := 239) rfl)) rfl)⟩
set_option maxRecDepth 100000 in
theorem pk_X8_39 : bpok TW cls_ MT RX8 39 (.inr (.inr (.inr (32)))) := (TW_mk (tl_2 _ (List.mem_of_getElem? (i := 2) rfl)) rfl)
set_option maxRecDepth 100000 in
theorem pk_X8_41 : bpok TW cls_ MT RX8 41 (.inl (8, 4, 0)) := ⟨RX8, TX8, 6, rfl, by decide, (TW_mk (tl_2 _ (List.mem_of_getElem? (i := 10) rfl)) rfl), by decide, fun _ => by decide +kernel, fun h => absurd h (by decide), fun h => absurd h (by decide)⟩
set_option maxRecDepth 100000 in
theorem pk_X8_45 : bpok TW cls_ MT RX8 45 (.inr (.inl 346)) := ⟨M_J9_min_7cf53, rfl, (TW_mk (tl_3 _ (List.mem_of_getElem? (i := 136) rfl)) rfl)⟩
set_option maxRecDepth 100000 in
theorem pk_X8_51 : bpok TW cls_ MT RX8 51 (.inl (8, 5, 0)) := ⟨RX8, TX8, 6, rfl, by decide, (TW_mk (tl_2 _ (List.mem_of_getElem? (i := 11) rfl)) rfl), by decide, fun _ => by decide +kernel, fun h => absurd h (by decide), fun h => absurd h (by decide)⟩
set_option maxRecDepth 100000 in
theorem pk_X8_54 : bpok TW cls_ MT RX8 54 (.inr (.inl 118)) := ⟨M_X8_pastBlanks, rfl, (TW_mk (tl_3 _ (List.mem_of_getElem? (i := 139) rfl)) rfl)⟩
set_option maxRecDepth 100000 in
theorem pk_X8_58 : bpok TW cls_ MT RX8 58 (.inr (.inl 119)) := ⟨M_X8_cutOne, rfl, (TW_mk (tl_3 _ (List.mem_of_getElem? (i := 146) rfl)) rfl)⟩
set_option maxRecDepth 100000 in
theorem pk_X8_61 : bpok TW cls_ MT RX8 61 (.inr (.inl 116)) := ⟨M_X8_isBlank, rfl, (TW_mk (tl_3 _ (List.mem_of_getElem? (i := 143) rfl)) rfl)⟩
set_option maxRecDepth 100000 in
theorem pk_X8_65 : bpok TW cls_ MT RX8 65 (.inr (.inl 124)) := ⟨M_X8_put, rfl, (TW_mk (tl_3 _ (List.mem_of_getElem? (i := 150) rfl)) rfl)⟩
set_option maxRecDepth 100000 in
theorem pk_X8_69 : bpok TW cls_ MT RX8 69 (.inr (.inl 114)) := ⟨M_X8_isLetter, rfl, (TW_mk (tl_3 _ (List.mem_of_getElem? (i := 154) rfl)) rfl)⟩
set_option maxRecDepth 100000 in
theorem pk_X8_72 : bpok TW cls_ MT RX8 72 (.inr (.inl 120)) := ⟨M_X8_cutWord, rfl, (TW_mk (tl_3 _ (List.mem_of_getElem? (i := 157) rfl)) rfl)⟩
set_option maxRecDepth 100000 in
theorem pk_X8_75 : bpok TW cls_ MT RX8 75 (.inr (.inl 115)) := ⟨M_X8_isDigit, rfl, (TW_mk (tl_3 _ (List.mem_of_getElem? (i := 165) rfl)) rfl)⟩
set_option maxRecDepth 100000 in
theorem pk_X8_78 : bpok TW cls_ MT RX8 78 (.inr (.inl 121)) := ⟨M_X8_cutInt, rfl, (TW_mk (tl_3 _ (List.mem_of_getElem? (i := 168) rfl)) rfl)⟩
set_option maxRecDepth 100000 in
theorem pk_X8_81 : bpok TW cls_ MT RX8 81 (.inr (.inl 123)) := ⟨M_X8_signOf, rfl, (TW_mk (tl_3 _ (List.mem_of_getElem? (i := 172) rfl)) rfl)⟩
set_option maxRecDepth 100000 in
theorem pk_X8_85 : bpok TW cls_ MT RX8 85 (.inr (.inl 122)) := ⟨M_X8_kindOfWord, rfl, (TW_mk (tl_3 _ (List.mem_of_getElem? (i := 161) rfl)) rfl)⟩
set_option maxRecDepth 100000 in
theorem pk_X8 : ∀ q ∈ pool_X8, bpok TW cls_ MT RX8 q.1 q.2 := List.forall_mem_cons.mpr ⟨pk_X8_9, List.forall_mem_cons.mpr ⟨pk_X8_13, List.forall_mem_cons.mpr ⟨pk_X8_17, List.forall_mem_cons.mpr ⟨pk_X8_20, List.forall_mem_cons.mpr ⟨pk_X8_35, List.forall_mem_cons.mpr ⟨pk_X8_39, List.forall_mem_cons.mpr ⟨pk_X8_41, List.forall_mem_cons.mpr ⟨pk_X8_45, List.forall_mem_cons.mpr ⟨pk_X8_51, List.forall_mem_cons.mpr ⟨pk_X8_54, List.forall_mem_cons.mpr ⟨pk_X8_58, List.forall_mem_cons.mpr ⟨pk_X8_61, List.forall_mem_cons.mpr ⟨pk_X8_65, List.forall_mem_cons.mpr ⟨pk_X8_69, List.forall_mem_cons.mpr ⟨pk_X8_72, List.forall_mem_cons.mpr ⟨pk_X8_75, List.forall_mem_cons.mpr ⟨pk_X8_78, List.forall_mem_cons.mpr ⟨pk_X8_81, List.forall_mem_cons.mpr ⟨pk_X8_85, fun _ h => absurd h List.not_mem_nil⟩⟩⟩⟩⟩⟩⟩⟩⟩⟩⟩⟩⟩⟩⟩⟩⟩⟩⟩
set_option maxRecDepth 100000 in
theorem pk_X9_9 : bpok TW cls_ MT RX9 9 (.inl (9, 4, 3)) := ⟨RX9, TX9, 20, rfl, by decide, (TW_mk (tl_1 _ (List.mem_of_getElem? (i := 88) rfl)) rfl), by decide, fun h => absurd h (by decide), fun h => absurd h (by decide), fun h => absurd h (by decide)⟩
set_option maxRecDepth 100000 in
theorem pk_X9_15 : bpok TW cls_ MT RX9 15 (.inl (9, 5, 3)) := ⟨RX9, TX9, 20, rfl, by decide, (TW_mk (tl_1 _ (List.mem_of_getElem? (i := 89) rfl)) rfl), by decide, fun h => absurd h (by decide), fun h => absurd h (by decide), fun h => absurd h (by decide)⟩
set_option maxRecDepth 100000 in
theorem pk_X9_18 : bpok TW cls_ MT RX9 18 (.inl (9, 6, 3)) := ⟨RX9, TX9, 20, rfl, by decide, (TW_mk (tl_1 _ (List.mem_of_getElem? (i := 93) rfl)) rfl), by decide, fun h => absurd h (by decide), fun h => absurd h (by decide), fun h => absurd h (by decide)⟩
set_option maxRecDepth 100000 in
theorem pk_X9_21 : bpok TW cls_ MT RX9 21 (.inl (9, 7, 3)) := ⟨RX9, TX9, 20, rfl, by decide, (TW_mk (tl_1 _ (List.mem_of_getElem? (i := 95) rfl)) rfl), by decide, fun h => absurd h (by decide), fun h => absurd h (by decide), fun h => absurd h (by decide)⟩
set_option maxRecDepth 100000 in
theorem pk_X9_24 : bpok TW cls_ MT RX9 24 (.inl (9, 8, 3)) := ⟨RX9, TX9, 20, rfl, by decide, (TW_mk (tl_1 _ (List.mem_of_getElem? (i := 97) rfl)) rfl), by decide, fun h => absurd h (by decide), fun h => absurd h (by decide), fun h => absurd h (by decide)⟩
set_option maxRecDepth 100000 in
theorem pk_X9_27 : bpok TW cls_ MT RX9 27 (.inl (9, 9, 3)) := ⟨RX9, TX9, 20, rfl, by decide, (TW_mk (tl_1 _ (List.mem_of_getElem? (i := 102) rfl)) rfl), by decide, fun h => absurd h (by decide), fun h => absurd h (by decide), fun h => absurd h (by decide)⟩
set_option maxRecDepth 100000 in
theorem pk_X9_30 : bpok TW cls_ MT RX9 30 (.inl (9, 10, 3)) := ⟨RX9, TX9, 20, rfl, by decide, (TW_mk (tl_1 _ (List.mem_of_getElem? (i := 104) rfl)) rfl), by decide, fun h => absurd h (by decide), fun h => absurd h (by decide), fun h => absurd h (by decide)⟩
set_option maxRecDepth 100000 in
theorem pk_X9_33 : bpok TW cls_ MT RX9 33 (.inl (9, 11, 3)) := ⟨RX9, TX9, 20, rfl, by decide, (TW_mk (tl_1 _ (List.mem_of_getElem? (i := 107) rfl)) rfl), by decide, fun h => absurd h (by decide), fun h => absurd h (by decide), fun h => absurd h (by decide)⟩
set_option maxRecDepth 100000 in
theorem pk_X9_39 : bpok TW cls_ MT RX9 39 (.inl (9, 19, 3)) := ⟨RX9, TX9, 20, rfl, by decide, (TW_mk (tl_1 _ (List.mem_of_getElem? (i := 134) rfl)) rfl), by decide, fun h => absurd h (by decide), fun h => absurd h (by decide), fun h => absurd h (by decide)⟩
set_option maxRecDepth 100000 in
theorem pk_X9_43 : bpok TW cls_ MT RX9 43 (.inr (.inl 125)) := ⟨M_X9_clear, rfl, (TW_mk (tl_1 _ (List.mem_of_getElem? (i := 60) rfl)) rfl)⟩
set_option maxRecDepth 100000 in
theorem pk_X9_46 : bpok TW cls_ MT RX9 46 (.inl (9, 0, 0)) := ⟨RX9, TX9, 20, rfl, by decide, (TW_mk (tl_1 _ (List.mem_of_getElem? (i := 67) rfl)) rfl), by decide, fun _ => by decide +kernel, fun h => absurd h (by decide), fun h => absurd h (by decide)⟩
set_option maxRecDepth 100000 in
theorem pk_X9_50 : bpok TW cls_ MT RX9 50 (.inl (9, 1, 0)) := ⟨RX9, TX9, 20, rfl, by decide, (TW_mk (tl_1 _ (List.mem_of_getElem? (i := 75) rfl)) rfl), by decide, fun _ => by decide +kernel, fun h => absurd h (by decide), fun h => absurd h (by decide)⟩
set_option maxRecDepth 100000 in
theorem pk_X9_53 : bpok TW cls_ MT RX9 53 (.inl (9, 2, 0)) := ⟨RX9, TX9, 20, rfl, by decide, (TW_mk (tl_1 _ (List.mem_of_getElem? (i := 78) rfl)) rfl), by decide, fun _ => by decide +kernel, fun h => absurd h (by decide), fun h => absurd h (by decide)⟩
set_option maxRecDepth 100000 in
theorem pk_X9_56 : bpok TW cls_ MT RX9 56 (.inl (9, 3, 0)) := ⟨RX9, TX9, 20, rfl, by decide, (TW_mk (tl_1 _ (List.mem_of_getElem? (i := 83) rfl)) rfl), by decide, fun _ => by decide +kernel, fun h => absurd h (by decide), fun h => absurd h (by decide)⟩
set_option maxRecDepth 100000 in
theorem pk_X9_59 : bpok TW cls_ MT RX9 59 (.inr (.inl 347)) := ⟨M_J7_fill_53178, rfl, (TW_mk (tl_1 _ (List.mem_of_getElem? (i := 64) rfl)) rfl)⟩
set_option maxRecDepth 100000 in
theorem pk_X9_65 : bpok TW cls_ MT RX9 65 (.inl (9, 12, 0)) := ⟨RX9, TX9, 20, rfl, by decide, (TW_mk (tl_1 _ (List.mem_of_getElem? (i := 110) rfl)) rfl), by decide, fun _ => by decide +kernel, fun h => absurd h (by decide), fun h => absurd h (by decide)⟩
set_option maxRecDepth 100000 in
theorem pk_X9_68 : bpok TW cls_ MT RX9 68 (.inl (9, 13, 0)) := ⟨RX9, TX9, 20, rfl, by decide, (TW_mk (tl_1 _ (List.mem_of_getElem? (i := 113) rfl)) rfl), by decide, fun _ => by decide +kernel, fun h => absurd h (by decide), fun h => absurd h (by decide)⟩
set_option maxRecDepth 100000 in
theorem pk_X9_71 : bpok TW cls_ MT RX9 71 (.inl (9, 14, 0)) := ⟨RX9, TX9, 20, rfl, by decide, (TW_mk (tl_1 _ (List.mem_of_getElem? (i := 116) rfl)) rfl), by decide, fun _ => by decide +kernel, fun h => absurd h (by decide), fun h => absurd h (by decide)⟩
set_option maxRecDepth 100000 in
theorem pk_X9_74 : bpok TW cls_ MT RX9 74 (.inl (9, 15, 0)) := ⟨RX9, TX9, 20, rfl, by decide, (TW_mk (tl_1 _ (List.mem_of_getElem? (i := 119) rfl)) rfl), by decide, fun _ => by decide +kernel, fun h => absurd h (by decide), fun h => absurd h (by decide)⟩
set_option maxRecDepth 100000 in
theorem pk_X9_77 : bpok TW cls_ MT RX9 77 (.inl (9, 16, 0)) := ⟨RX9, TX9, 20, rfl, by decide, (TW_mk (tl_1 _ (List.mem_of_getElem? (i := 123) rfl)) rfl), by decide, fun _ => by decide +kernel, fun h => absurd h (by decide), fun h => absurd h (by decide)⟩
set_option maxRecDepth 100000 in
theorem pk_X9_80 : bpok TW cls_ MT RX9 80 (.inl (9, 17, 0)) := ⟨RX9, TX9, 20, rfl, by decide, (TW_mk (tl_1 _ (List.mem_of_getElem? (i := 127) rfl)) rfl), by decide, fun _ => by decide +kernel, fun h => absurd h (by decide), fun h => absurd h (by decide)⟩
set_option maxRecDepth 100000 in
theorem pk_X9_83 : bpok TW cls_ MT RX9 83 (.inl (9, 18, 0)) := ⟨RX9, TX9, 20, rfl, by decide, (TW_mk (tl_1 _ (List.mem_of_getElem? (i := 131) rfl)) rfl), by decide, fun _ => by decide +kernel, fun h => absurd h (by decide), fun h => absurd h (by decide)⟩
set_option maxRecDepth 100000 in
theorem pk_X9_86 : bpok TW cls_ MT RX9 86 (.inl (2, 3, 0)) := ⟨RX2, TX2, 4, rfl, by decide, (TW_mk (tl_1 _ (List.mem_of_getElem? (i := 47) rfl)) rfl), by decide, fun _ => by decide +kernel, fun h => absurd h (by decide), fun h => absurd h (by decide)⟩
set_option maxRecDepth 100000 in
theorem pk_X9_89 : bpok TW cls_ MT RX9 89 (.inr (.inl 129)) := ⟨M_X9_pathHours, rfl, (TW_mk (tl_3 _ (List.mem_of_getElem? (i := 220) rfl)) rfl)⟩
set_option maxRecDepth 100000 in
theorem pk_X9 : ∀ q ∈ pool_X9, bpok TW cls_ MT RX9 q.1 q.2 := List.forall_mem_cons.mpr ⟨pk_X9_9, List.forall_mem_cons.mpr ⟨pk_X9_15, List.forall_mem_cons.mpr ⟨pk_X9_18, List.forall_mem_cons.mpr ⟨pk_X9_21, List.forall_mem_cons.mpr ⟨pk_X9_24, List.forall_mem_cons.mpr ⟨pk_X9_27, List.forall_mem_cons.mpr ⟨pk_X9_30, List.forall_mem_cons.mpr ⟨pk_X9_33, List.forall_mem_cons.mpr ⟨pk_X9_39, List.forall_mem_cons.mpr ⟨pk_X9_43, List.forall_mem_cons.mpr ⟨pk_X9_46, List.forall_mem_cons.mpr ⟨pk_X9_50, List.forall_mem_cons.mpr ⟨pk_X9_53, List.forall_mem_cons.mpr ⟨pk_X9_56, List.forall_mem_cons.mpr ⟨pk_X9_59, List.forall_mem_cons.mpr ⟨pk_X9_65, List.forall_mem_cons.mpr ⟨pk_X9_68, List.forall_mem_cons.mpr ⟨pk_X9_71, List.forall_mem_cons.mpr ⟨pk_X9_74, List.forall_mem_cons.mpr ⟨pk_X9_77, List.forall_mem_cons.mpr ⟨pk_X9_80, List.forall_mem_cons.mpr ⟨pk_X9_83, List.forall_mem_cons.mpr ⟨pk_X9_86, List.forall_mem_cons.mpr ⟨pk_X9_89, fun _ h => absurd h List.not_mem_nil⟩⟩⟩⟩⟩⟩⟩⟩⟩⟩⟩⟩⟩⟩⟩⟩⟩⟩⟩⟩⟩⟩⟩⟩
set_option maxRecDepth 100000 in
theorem pk_X10_11 : bpok TW cls_ MT RX10 11 (.inl (10, 0, 3)) := ⟨RX10, TX10, 2, rfl, by decide, (TW_mk (tl_2 _ (List.mem_of_getElem? (i := 157) rfl)) rfl), by decide, fun h => absurd h (by decide), fun h => absurd h (by decide), fun h => absurd h (by decide)⟩
set_option maxRecDepth 100000 in
theorem pk_X10_15 : bpok TW cls_ MT RX10 15 (.inl (10, 1, 3)) := ⟨RX10, TX10, 2, rfl, by decide, (TW_mk (tl_2 _ (List.mem_of_getElem? (i := 158) rfl)) rfl), by decide, fun h => absurd h (by decide), fun h => absurd h (by decide), fun h => absurd h (by decide)⟩
set_option maxRecDepth 100000 in
theorem pk_X10_18 : bpok TW cls_ MT RX10 18 (.inr (.inr (.inl (1073741824)))) := (TW_mk (tl_5 _ (List.mem_of_getElem? (i := 62) rfl)) rfl)
set_option maxRecDepth 100000 in
theorem pk_X10_19 : bpok TW cls_ MT RX10 19 (.inr (.inl 347)) := ⟨M_J7_fill_53178, rfl, (TW_mk (tl_5 _ (List.mem_of_getElem? (i := 63) rfl)) rfl)⟩
set_option maxRecDepth 100000 in
theorem pk_X10_25 : bpok TW cls_ MT RX10 25 (.inr (.inl 131)) := ⟨M_X10_nearest, rfl, (TW_mk (tl_5 _ (List.mem_of_getElem? (i := 64) rfl)) rfl)⟩
set_option maxRecDepth 100000 in
theorem pk_X10_29 : bpok TW cls_ MT RX10 29 (.inr (.inl 132)) := ⟨M_X10_goByPaths, rfl, (TW_mk (tl_5 _ (List.mem_of_getElem? (i := 68) rfl)) rfl)⟩
set_option maxRecDepth 100000 in
theorem pk_X10_33 : bpok TW cls_ MT RX10 33 (.inr (.inl 133)) := ⟨M_X10_goByBridges, rfl, (TW_mk (tl_5 _ (List.mem_of_getElem? (i := 78) rfl)) rfl)⟩
set_option maxRecDepth 100000 in
theorem pk_X10_37 : bpok TW cls_ MT RX10 37 (.inl (9, 0, 0)) := ⟨RX9, TX9, 20, rfl, by decide, (TW_mk (tl_1 _ (List.mem_of_getElem? (i := 70) rfl)) rfl), by decide, fun _ => by decide +kernel, fun h => absurd h (by decide), fun h => absurd h (by decide)⟩
set_option maxRecDepth 100000 in
theorem pk_X10_43 : bpok TW cls_ MT RX10 43 (.inr (.inl 129)) := ⟨M_X9_pathHours, rfl, (TW_mk (tl_5 _ (List.mem_of_getElem? (i := 72) rfl)) rfl)⟩
set_option maxRecDepth 100000 in
theorem pk_X10_47 : bpok TW cls_ MT RX10 47 (.inr (.inl 134)) := ⟨M_X10_come, rfl, (TW_mk (tl_5 _ (List.mem_of_getElem? (i := 73) rfl)) rfl)⟩
set_option maxRecDepth 100000 in
theorem pk_X10_51 : bpok TW cls_ MT RX10 51 (.inl (9, 2, 0)) := ⟨RX9, TX9, 20, rfl, by decide, (TW_mk (tl_1 _ (List.mem_of_getElem? (i := 79) rfl)) rfl), by decide, fun _ => by decide +kernel, fun h => absurd h (by decide), fun h => absurd h (by decide)⟩
set_option maxRecDepth 100000 in
theorem pk_X10_54 : bpok TW cls_ MT RX10 54 (.inl (9, 5, 3)) := ⟨RX9, TX9, 20, rfl, by decide, (TW_mk (tl_1 _ (List.mem_of_getElem? (i := 90) rfl)) rfl), by decide, fun h => absurd h (by decide), fun h => absurd h (by decide), fun h => absurd h (by decide)⟩
set_option maxRecDepth 100000 in
theorem pk_X10_57 : bpok TW cls_ MT RX10 57 (.inr (.inl 346)) := ⟨M_J9_min_7cf53, rfl, (TW_mk (tl_5 _ (List.mem_of_getElem? (i := 77) rfl)) rfl)⟩
set_option maxRecDepth 100000 in
theorem pk_X10_62 : bpok TW cls_ MT RX10 62 (.inr (.inl 135)) := ⟨M_X10_costTo, rfl, (TW_mk (tl_5 _ (List.mem_of_getElem? (i := 86) rfl)) rfl)⟩
set_option maxRecDepth 100000 in
theorem pk_X10_66 : bpok TW cls_ MT RX10 66 (.inr (.inl 136)) := ⟨M_X10_hoursTo, rfl, (TW_mk (tl_5 _ (List.mem_of_getElem? (i := 102) rfl)) rfl)⟩
set_option maxRecDepth 100000 in
theorem pk_X10 : ∀ q ∈ pool_X10, bpok TW cls_ MT RX10 q.1 q.2 := List.forall_mem_cons.mpr ⟨pk_X10_11, List.forall_mem_cons.mpr ⟨pk_X10_15, List.forall_mem_cons.mpr ⟨pk_X10_18, List.forall_mem_cons.mpr ⟨pk_X10_19, List.forall_mem_cons.mpr ⟨pk_X10_25, List.forall_mem_cons.mpr ⟨pk_X10_29, List.forall_mem_cons.mpr ⟨pk_X10_33, List.forall_mem_cons.mpr ⟨pk_X10_37, List.forall_mem_cons.mpr ⟨pk_X10_43, List.forall_mem_cons.mpr ⟨pk_X10_47, List.forall_mem_cons.mpr ⟨pk_X10_51, List.forall_mem_cons.mpr ⟨pk_X10_54, List.forall_mem_cons.mpr ⟨pk_X10_57, List.forall_mem_cons.mpr ⟨pk_X10_62, List.forall_mem_cons.mpr ⟨pk_X10_66, fun _ h => absurd h List.not_mem_nil⟩⟩⟩⟩⟩⟩⟩⟩⟩⟩⟩⟩⟩⟩⟩
set_option maxRecDepth 100000 in
theorem pk_X11_9 : bpok TW cls_ MT RX11 9 (.inl (11, 0, 3)) := ⟨RX11, TX11, 14, rfl, by decide, (TW_mk (tl_3 _ (List.mem_of_getElem? (i := 65) rfl)) rfl), by decide, fun h => absurd h (by decide), fun h => absurd h (by decide), fun h => absurd h (by decide)⟩
set_option maxRecDepth 100000 in
theorem pk_X11_13 : bpok TW cls_ MT RX11 13 (.inl (11, 2, 0)) := ⟨RX11, TX11, 14, rfl, by decide, (TW_mk (tl_3 _ (List.mem_of_getElem? (i := 67) rfl)) rfl), by decide, fun _ => by decide +kernel, fun h => absurd h (by decide), fun h => absurd h (by decide)⟩
set_option maxRecDepth 100000 in
theorem pk_X11_20 : bpok TW cls_ MT RX11 20 (.inl (11, 3, 2)) := ⟨RX11, TX11, 14, rfl, by decide, (TW_mk (tl_3 _ (List.mem_of_getElem? (i := 68) rfl)) rfl), by decide, fun h => absurd h (by decide), fun h => absurd h (by decide), fun _ => ⟨"WishBridges$Told", by decide +kernel⟩⟩
set_option maxRecDepth 100000 in
theorem pk_X11_24 : bpok TW cls_ MT RX11 24 (.inl (11, 4, 2)) := ⟨RX11, TX11, 14, rfl, by decide, (TW_mk (tl_3 _ (List.mem_of_getElem? (i := 69) rfl)) rfl), by decide, fun h => absurd h (by decide), fun h => absurd h (by decide), fun _ => ⟨"WishBridges$Told", by decide +kernel⟩⟩
set_option maxRecDepth 100000 in
theorem pk_X11_30 : bpok TW cls_ MT RX11 30 (.inl (11, 5, 3)) := ⟨RX11, TX11, 14, rfl, by decide, (TW_mk (tl_3 _ (List.mem_of_getElem? (i := 70) rfl)) rfl), by decide, fun h => absurd h (by decide), fun h => absurd h (by decide), fun h => absurd h (by decide)⟩
set_option maxRecDepth 100000 in
theorem pk_X11_39 : bpok TW cls_ MT RX11 39 (.inl (11, 6, 3)) := ⟨RX11, TX11, 14, rfl, by decide, (TW_mk (tl_3 _ (List.mem_of_getElem? (i := 71) rfl)) rfl), by decide, fun h => absurd h (by decide), fun h => absurd h (by decide), fun h => absurd h (by decide)⟩
set_option maxRecDepth 100000 in
theorem pk_X11_43 : bpok TW cls_ MT RX11 43 (.inl (11, 7, 3)) := ⟨RX11, TX11, 14, rfl, by decide, (TW_mk (tl_3 _ (List.mem_of_getElem? (i := 72) rfl)) rfl), by decide, fun h => absurd h (by decide), fun h => absurd h (by decide), fun h => absurd h (by decide)⟩
set_option maxRecDepth 100000 in
theorem pk_X11_49 : bpok TW cls_ MT RX11 49 (.inl (11, 8, 3)) := ⟨RX11, TX11, 14, rfl, by decide, (TW_mk (tl_3 _ (List.mem_of_getElem? (i := 73) rfl)) rfl), by decide, fun h => absurd h (by decide), fun h => absurd h (by decide), fun h => absurd h (by decide)⟩
set_option maxRecDepth 100000 in
theorem pk_X11_56 : bpok TW cls_ MT RX11 56 (.inl (11, 9, 3)) := ⟨RX11, TX11, 14, rfl, by decide, (TW_mk (tl_3 _ (List.mem_of_getElem? (i := 74) rfl)) rfl), by decide, fun h => absurd h (by decide), fun h => absurd h (by decide), fun h => absurd h (by decide)⟩
set_option maxRecDepth 100000 in
theorem pk_X11_65 : bpok TW cls_ MT RX11 65 (.inl (11, 10, 3)) := ⟨RX11, TX11, 14, rfl, by decide, (TW_mk (tl_3 _ (List.mem_of_getElem? (i := 75) rfl)) rfl), by decide, fun h => absurd h (by decide), fun h => absurd h (by decide), fun h => absurd h (by decide)⟩
set_option maxRecDepth 100000 in
theorem pk_X11_74 : bpok TW cls_ MT RX11 74 (.inl (11, 11, 3)) := ⟨RX11, TX11, 14, rfl, by decide, (TW_mk (tl_3 _ (List.mem_of_getElem? (i := 76) rfl)) rfl), by decide, fun h => absurd h (by decide), fun h => absurd h (by decide), fun h => absurd h (by decide)⟩
set_option maxRecDepth 100000 in
theorem pk_X11_81 : bpok TW cls_ MT RX11 81 (.inl (11, 12, 3)) := ⟨RX11, TX11, 14, rfl, by decide, (TW_mk (tl_3 _ (List.mem_of_getElem? (i := 77) rfl)) rfl), by decide, fun h => absurd h (by decide), fun h => absurd h (by decide), fun h => absurd h (by decide)⟩
set_option maxRecDepth 100000 in
theorem pk_X11_88 : bpok TW cls_ MT RX11 88 (.inl (11, 13, 3)) := ⟨RX11, TX11, 14, rfl, by decide, (TW_mk (tl_3 _ (List.mem_of_getElem? (i := 78) rfl)) rfl), by decide, fun h => absurd h (by decide), fun h => absurd h (by decide), fun h => absurd h (by decide)⟩
set_option maxRecDepth 100000 in
theorem pk_X11_92 : bpok TW cls_ MT RX11 92 (.inl (11, 1, 0)) := ⟨RX11, TX11, 14, rfl, by decide, (TW_mk (tl_3 _ (List.mem_of_getElem? (i := 66) rfl)) rfl), by decide, fun _ => by decide +kernel, fun h => absurd h (by decide), fun h => absurd h (by decide)⟩
set_option maxRecDepth 100000 in
theorem pk_X11_95 : bpok TW cls_ MT RX11 95 (.inr (.inl 140)) := ⟨M_X11_putBytes, rfl, (TW_mk (tl_3 _ (List.mem_of_getElem? (i := 112) rfl)) rfl)⟩
set_option maxRecDepth 100000 in
theorem pk_X11_99 : bpok TW cls_ MT RX11 99 (.inr (.inl 51)) := ⟨M_X4_readInto, rfl, (TW_mk (tl_3 _ (List.mem_of_getElem? (i := 124) rfl)) rfl)⟩
set_option maxRecDepth 100000 in
theorem pk_X11_103 : bpok TW cls_ MT RX11 103 (.inl (4, 0, 0)) := ⟨RX4, TX4, 14, rfl, by decide, (TW_mk (tl_2 _ (List.mem_of_getElem? (i := 27) rfl)) rfl), by decide, fun _ => by decide +kernel, fun h => absurd h (by decide), fun h => absurd h (by decide)⟩
set_option maxRecDepth 100000 in
theorem pk_X11_106 : bpok TW cls_ MT RX11 106 (.inr (.inl 14)) := ⟨M_X1_begin, rfl, (TW_mk (tl_4 _ (List.mem_of_getElem? (i := 50) rfl)) rfl)⟩
set_option maxRecDepth 100000 in
theorem pk_X11_109 : bpok TW cls_ MT RX11 109 (.inr (.inl 108)) := ⟨M_X7_clear, rfl, (TW_mk (tl_4 _ (List.mem_of_getElem? (i := 58) rfl)) rfl)⟩
set_option maxRecDepth 100000 in
theorem pk_X11_112 : bpok TW cls_ MT RX11 112 (.inr (.inl 101)) := ⟨M_X6_clear, rfl, (TW_mk (tl_4 _ (List.mem_of_getElem? (i := 62) rfl)) rfl)⟩
set_option maxRecDepth 100000 in
theorem pk_X11_113 : bpok TW cls_ MT RX11 113 (.inl (9, 0, 0)) := ⟨RX9, TX9, 20, rfl, by decide, (TW_mk (tl_1 _ (List.mem_of_getElem? (i := 72) rfl)) rfl), by decide, fun _ => by decide +kernel, fun h => absurd h (by decide), fun h => absurd h (by decide)⟩
set_option maxRecDepth 100000 in
theorem pk_X11_116 : bpok TW cls_ MT RX11 116 (.inl (9, 2, 0)) := ⟨RX9, TX9, 20, rfl, by decide, (TW_mk (tl_1 _ (List.mem_of_getElem? (i := 80) rfl)) rfl), by decide, fun _ => by decide +kernel, fun h => absurd h (by decide), fun h => absurd h (by decide)⟩
set_option maxRecDepth 100000 in
theorem pk_X11_119 : bpok TW cls_ MT RX11 119 (.inl (9, 3, 0)) := ⟨RX9, TX9, 20, rfl, by decide, (TW_mk (tl_1 _ (List.mem_of_getElem? (i := 86) rfl)) rfl), by decide, fun _ => by decide +kernel, fun h => absurd h (by decide), fun h => absurd h (by decide)⟩
set_option maxRecDepth 100000 in
theorem pk_X11_122 : bpok TW cls_ MT RX11 122 (.inr (.inl 144)) := ⟨M_X11_isBank, rfl, (TW_mk (tl_4 _ (List.mem_of_getElem? (i := 71) rfl)) rfl)⟩
set_option maxRecDepth 100000 in
theorem pk_X11_126 : bpok TW cls_ MT RX11 126 (.inr (.inl 18)) := ⟨M_X1_menAt, rfl, (TW_mk (tl_4 _ (List.mem_of_getElem? (i := 75) rfl)) rfl)⟩
set_option maxRecDepth 100000 in
theorem pk_X11_130 : bpok TW cls_ MT RX11 130 (.inr (.inl 145)) := ⟨M_X11_isBridge, rfl, (TW_mk (tl_4 _ (List.mem_of_getElem? (i := 83) rfl)) rfl)⟩
set_option maxRecDepth 100000 in
theorem pk_X11_133 : bpok TW cls_ MT RX11 133 (.inl (9, 5, 3)) := ⟨RX9, TX9, 20, rfl, by decide, (TW_mk (tl_1 _ (List.mem_of_getElem? (i := 91) rfl)) rfl), by decide, fun h => absurd h (by decide), fun h => absurd h (by decide), fun h => absurd h (by decide)⟩
set_option maxRecDepth 100000 in
theorem pk_X11_137 : bpok TW cls_ MT RX11 137 (.inl (1, 5, 3)) := ⟨RX1, TX1, 12, rfl, by decide, (TW_mk (tl_2 _ (List.mem_of_getElem? (i := 92) rfl)) rfl), by decide, fun h => absurd h (by decide), fun h => absurd h (by decide), fun h => absurd h (by decide)⟩
set_option maxRecDepth 100000 in
theorem pk_X11_140 : bpok TW cls_ MT RX11 140 (.inr (.inl 147)) := ⟨M_X11_orNot, rfl, (TW_mk (tl_4 _ (List.mem_of_getElem? (i := 87) rfl)) rfl)⟩
set_option maxRecDepth 100000 in
theorem pk_X11_143 : bpok TW cls_ MT RX11 143 (.inr (.inl 19)) := ⟨M_X1_menOn, rfl, (TW_mk (tl_4 _ (List.mem_of_getElem? (i := 90) rfl)) rfl)⟩
set_option maxRecDepth 100000 in
theorem pk_X11_146 : bpok TW cls_ MT RX11 146 (.inl (1, 6, 3)) := ⟨RX1, TX1, 12, rfl, by decide, (TW_mk (tl_2 _ (List.mem_of_getElem? (i := 94) rfl)) rfl), by decide, fun h => absurd h (by decide), fun h => absurd h (by decide), fun h => absurd h (by decide)⟩
set_option maxRecDepth 100000 in
theorem pk_X11_149 : bpok TW cls_ MT RX11 149 (.inr (.inl 146)) := ⟨M_X11_isMan, rfl, (TW_mk (tl_4 _ (List.mem_of_getElem? (i := 98) rfl)) rfl)⟩
set_option maxRecDepth 100000 in
theorem pk_X11_152 : bpok TW cls_ MT RX11 152 (.inl (1, 7, 3)) := ⟨RX1, TX1, 12, rfl, by decide, (TW_mk (tl_2 _ (List.mem_of_getElem? (i := 96) rfl)) rfl), by decide, fun h => absurd h (by decide), fun h => absurd h (by decide), fun h => absurd h (by decide)⟩
set_option maxRecDepth 100000 in
theorem pk_X11_155 : bpok TW cls_ MT RX11 155 (.inl (9, 8, 3)) := ⟨RX9, TX9, 20, rfl, by decide, (TW_mk (tl_1 _ (List.mem_of_getElem? (i := 101) rfl)) rfl), by decide, fun h => absurd h (by decide), fun h => absurd h (by decide), fun h => absurd h (by decide)⟩
set_option maxRecDepth 100000 in
theorem pk_X11_158 : bpok TW cls_ MT RX11 158 (.inl (1, 9, 3)) := ⟨RX1, TX1, 12, rfl, by decide, (TW_mk (tl_2 _ (List.mem_of_getElem? (i := 100) rfl)) rfl), by decide, fun h => absurd h (by decide), fun h => absurd h (by decide), fun h => absurd h (by decide)⟩
set_option maxRecDepth 100000 in
theorem pk_X11_161 : bpok TW cls_ MT RX11 161 (.inl (1, 10, 3)) := ⟨RX1, TX1, 12, rfl, by decide, (TW_mk (tl_2 _ (List.mem_of_getElem? (i := 102) rfl)) rfl), by decide, fun h => absurd h (by decide), fun h => absurd h (by decide), fun h => absurd h (by decide)⟩
set_option maxRecDepth 100000 in
theorem pk_X11_164 : bpok TW cls_ MT RX11 164 (.inl (1, 11, 3)) := ⟨RX1, TX1, 12, rfl, by decide, (TW_mk (tl_2 _ (List.mem_of_getElem? (i := 104) rfl)) rfl), by decide, fun h => absurd h (by decide), fun h => absurd h (by decide), fun h => absurd h (by decide)⟩
set_option maxRecDepth 100000 in
theorem pk_X11_167 : bpok TW cls_ MT RX11 167 (.inl (1, 8, 3)) := ⟨RX1, TX1, 12, rfl, by decide, (TW_mk (tl_2 _ (List.mem_of_getElem? (i := 98) rfl)) rfl), by decide, fun h => absurd h (by decide), fun h => absurd h (by decide), fun h => absurd h (by decide)⟩
set_option maxRecDepth 100000 in
theorem pk_X11_170 : bpok TW cls_ MT RX11 170 (.inr (.inl 26)) := ⟨M_X1_wishNow, rfl, (TW_mk (tl_4 _ (List.mem_of_getElem? (i := 106) rfl)) rfl)⟩
set_option maxRecDepth 100000 in
theorem pk_X11_174 : bpok TW cls_ MT RX11 174 (.inr (.inl 27)) := ⟨M_X1_tollNow, rfl, (TW_mk (tl_4 _ (List.mem_of_getElem? (i := 130) rfl)) rfl)⟩
set_option maxRecDepth 100000 in
theorem pk_X11_177 : bpok TW cls_ MT RX11 177 (.inr (.inl 31)) := ⟨M_X1_couldCross, rfl, (TW_mk (tl_4 _ (List.mem_of_getElem? (i := 143) rfl)) rfl)⟩
set_option maxRecDepth 100000 in
theorem pk_X11_181 : bpok TW cls_ MT RX11 181 (.inr (.inl 109)) := ⟨M_X7_keep, rfl, (TW_mk (tl_4 _ (List.mem_of_getElem? (i := 148) rfl)) rfl)⟩
set_option maxRecDepth 100000 in
theorem pk_X11_184 : bpok TW cls_ MT RX11 184 (.inr (.inl 32)) := ⟨M_X1_crossOver, rfl, (TW_mk (tl_4 _ (List.mem_of_getElem? (i := 157) rfl)) rfl)⟩
set_option maxRecDepth 100000 in
theorem pk_X11_187 : bpok TW cls_ MT RX11 187 (.inr (.inl 36)) := ⟨M_X1_hourPasses, rfl, (TW_mk (tl_4 _ (List.mem_of_getElem? (i := 166) rfl)) rfl)⟩
set_option maxRecDepth 100000 in
theorem pk_X11_190 : bpok TW cls_ MT RX11 190 (.inr (.inl 15)) := ⟨M_X1_copyFrom, rfl, (TW_mk (tl_4 _ (List.mem_of_getElem? (i := 182) rfl)) rfl)⟩
set_option maxRecDepth 100000 in
theorem pk_X11_193 : bpok TW cls_ MT RX11 193 (.inl (1, 3, 0)) := ⟨RX1, TX1, 12, rfl, by decide, (TW_mk (tl_2 _ (List.mem_of_getElem? (i := 86) rfl)) rfl), by decide, fun _ => by decide +kernel, fun h => absurd h (by decide), fun h => absurd h (by decide)⟩
set_option maxRecDepth 100000 in
theorem pk_X11_196 : bpok TW cls_ MT RX11 196 (.inl (9, 17, 0)) := ⟨RX9, TX9, 20, rfl, by decide, (TW_mk (tl_1 _ (List.mem_of_getElem? (i := 129) rfl)) rfl), by decide, fun _ => by decide +kernel, fun h => absurd h (by decide), fun h => absurd h (by decide)⟩
set_option maxRecDepth 100000 in
theorem pk_X11_199 : bpok TW cls_ MT RX11 199 (.inl (1, 4, 0)) := ⟨RX1, TX1, 12, rfl, by decide, (TW_mk (tl_2 _ (List.mem_of_getElem? (i := 88) rfl)) rfl), by decide, fun _ => by decide +kernel, fun h => absurd h (by decide), fun h => absurd h (by decide)⟩
set_option maxRecDepth 100000 in
theorem pk_X11_202 : bpok TW cls_ MT RX11 202 (.inr (.inl 129)) := ⟨M_X9_pathHours, rfl, (TW_mk (tl_4 _ (List.mem_of_getElem? (i := 194) rfl)) rfl)⟩
set_option maxRecDepth 100000 in
theorem pk_X11_205 : bpok TW cls_ MT RX11 205 (.inl (1, 2, 0)) := ⟨RX1, TX1, 12, rfl, by decide, (TW_mk (tl_2 _ (List.mem_of_getElem? (i := 84) rfl)) rfl), by decide, fun _ => by decide +kernel, fun h => absurd h (by decide), fun h => absurd h (by decide)⟩
set_option maxRecDepth 100000 in
theorem pk_X11_208 : bpok TW cls_ MT RX11 208 (.inr (.inl 37)) := ⟨M_X1_ruleHour, rfl, (TW_mk (tl_4 _ (List.mem_of_getElem? (i := 203) rfl)) rfl)⟩
set_option maxRecDepth 100000 in
theorem pk_X11_211 : bpok TW cls_ MT RX11 211 (.inr (.inl 110)) := ⟨M_X7_takeBack, rfl, (TW_mk (tl_4 _ (List.mem_of_getElem? (i := 226) rfl)) rfl)⟩
set_option maxRecDepth 100000 in
theorem pk_X11_215 : bpok TW cls_ MT RX11 215 (.inr (.inl 21)) := ⟨M_X1_homeBits, rfl, (TW_mk (tl_4 _ (List.mem_of_getElem? (i := 238) rfl)) rfl)⟩
set_option maxRecDepth 100000 in
theorem pk_X11_219 : bpok TW cls_ MT RX11 219 (.inr (.inl 161)) := ⟨M_X11_isFar, rfl, (TW_mk (tl_5 _ (List.mem_of_getElem? (i := 6) rfl)) rfl)⟩
set_option maxRecDepth 100000 in
theorem pk_X11_222 : bpok TW cls_ MT RX11 222 (.inr (.inl 162)) := ⟨M_X11_dreamHours, rfl, (TW_mk (tl_5 _ (List.mem_of_getElem? (i := 9) rfl)) rfl)⟩
set_option maxRecDepth 100000 in
theorem pk_X11_225 : bpok TW cls_ MT RX11 225 (.inr (.inl 22)) := ⟨M_X1_allCoins, rfl, (TW_mk (tl_5 _ (List.mem_of_getElem? (i := 21) rfl)) rfl)⟩
set_option maxRecDepth 100000 in
theorem pk_X11_228 : bpok TW cls_ MT RX11 228 (.inr (.inl 168)) := ⟨M_X11_hoursTillHome, rfl, (TW_mk (tl_5 _ (List.mem_of_getElem? (i := 29) rfl)) rfl)⟩
set_option maxRecDepth 100000 in
theorem pk_X11_231 : bpok TW cls_ MT RX11 231 (.inl (9, 15, 0)) := ⟨RX9, TX9, 20, rfl, by decide, (TW_mk (tl_1 _ (List.mem_of_getElem? (i := 122) rfl)) rfl), by decide, fun _ => by decide +kernel, fun h => absurd h (by decide), fun h => absurd h (by decide)⟩
set_option maxRecDepth 100000 in
theorem pk_X11_234 : bpok TW cls_ MT RX11 234 (.inl (9, 16, 0)) := ⟨RX9, TX9, 20, rfl, by decide, (TW_mk (tl_1 _ (List.mem_of_getElem? (i := 126) rfl)) rfl), by decide, fun _ => by decide +kernel, fun h => absurd h (by decide), fun h => absurd h (by decide)⟩
set_option maxRecDepth 100000 in
theorem pk_X11_237 : bpok TW cls_ MT RX11 237 (.inl (9, 18, 0)) := ⟨RX9, TX9, 20, rfl, by decide, (TW_mk (tl_1 _ (List.mem_of_getElem? (i := 133) rfl)) rfl), by decide, fun _ => by decide +kernel, fun h => absurd h (by decide), fun h => absurd h (by decide)⟩
set_option maxRecDepth 100000 in
theorem pk_X11_240 : bpok TW cls_ MT RX11 240 (.inr (.inl 170)) := ⟨M_X11_isHomeBySeed, rfl, (TW_mk (tl_5 _ (List.mem_of_getElem? (i := 41) rfl)) rfl)⟩
set_option maxRecDepth 100000 in
theorem pk_X11_244 : bpok TW cls_ MT RX11 244 (.inl (1, 1, 0)) := ⟨RX1, TX1, 12, rfl, by decide, (TW_mk (tl_2 _ (List.mem_of_getElem? (i := 80) rfl)) rfl), by decide, fun _ => by decide +kernel, fun h => absurd h (by decide), fun h => absurd h (by decide)⟩
set_option maxRecDepth 100000 in
theorem pk_X11_245 : bpok TW cls_ MT RX11 245 (.inr (.inl 20)) := ⟨M_X1_isHome, rfl, (TW_mk (tl_5 _ (List.mem_of_getElem? (i := 45) rfl)) rfl)⟩
set_option maxRecDepth 100000 in
theorem pk_X11_248 : bpok TW cls_ MT RX11 248 (.inr (.inl 130)) := ⟨M_X10_search, rfl, (TW_mk (tl_5 _ (List.mem_of_getElem? (i := 58) rfl)) rfl)⟩
set_option maxRecDepth 100000 in
theorem pk_X11_252 : bpok TW cls_ MT RX11 252 (.inr (.inl 136)) := ⟨M_X10_hoursTo, rfl, (TW_mk (tl_5 _ (List.mem_of_getElem? (i := 82) rfl)) rfl)⟩
set_option maxRecDepth 100000 in
theorem pk_X11_255 : bpok TW cls_ MT RX11 255 (.inr (.inl 137)) := ⟨M_X10_crossingsTo, rfl, (TW_mk (tl_5 _ (List.mem_of_getElem? (i := 90) rfl)) rfl)⟩
set_option maxRecDepth 100000 in
theorem pk_X11_258 : bpok TW cls_ MT RX11 258 (.inr (.inl 138)) := ⟨M_X10_within, rfl, (TW_mk (tl_5 _ (List.mem_of_getElem? (i := 98) rfl)) rfl)⟩
set_option maxRecDepth 100000 in
theorem pk_X11_262 : bpok TW cls_ MT RX11 262 (.inr (.inl 175)) := ⟨M_X11_isSet, rfl, (TW_mk (tl_5 _ (List.mem_of_getElem? (i := 111) rfl)) rfl)⟩
set_option maxRecDepth 100000 in
theorem pk_X11_265 : bpok TW cls_ MT RX11 265 (.inr (.inl 176)) := ⟨M_X11_rowFault, rfl, (TW_mk (tl_5 _ (List.mem_of_getElem? (i := 107) rfl)) rfl)⟩
set_option maxRecDepth 100000 in
theorem pk_X11_268 : bpok TW cls_ MT RX11 268 (.inr (.inl 75)) := ⟨M_X5_prepare, rfl, (TW_mk (tl_5 _ (List.mem_of_getElem? (i := 115) rfl)) rfl)⟩
set_option maxRecDepth 100000 in
theorem pk_X11_272 : bpok TW cls_ MT RX11 272 (.inr (.inl 84)) := ⟨M_X5_countOrders, rfl, (TW_mk (tl_5 _ (List.mem_of_getElem? (i := 130) rfl)) rfl)⟩
set_option maxRecDepth 100000 in
theorem pk_X11_275 : bpok TW cls_ MT RX11 275 (.inr (.inl 86)) := ⟨M_X5_fewestWishers, rfl, (TW_mk (tl_5 _ (List.mem_of_getElem? (i := 170) rfl)) rfl)⟩
set_option maxRecDepth 100000 in
theorem pk_X11_278 : bpok TW cls_ MT RX11 278 (.inl (5, 11, 0)) := ⟨RX5, TX5, 13, rfl, by decide, (TW_mk (tl_2 _ (List.mem_of_getElem? (i := 185) rfl)) rfl), by decide, fun _ => by decide +kernel, fun h => absurd h (by decide), fun h => absurd h (by decide)⟩
set_option maxRecDepth 100000 in
theorem pk_X11_281 : bpok TW cls_ MT RX11 281 (.inr (.inl 92)) := ⟨M_X5_findRow, rfl, (TW_mk (tl_5 _ (List.mem_of_getElem? (i := 186) rfl)) rfl)⟩
set_option maxRecDepth 100000 in
theorem pk_X11_284 : bpok TW cls_ MT RX11 284 (.inl (5, 8, 3)) := ⟨RX5, TX5, 13, rfl, by decide, (TW_mk (tl_2 _ (List.mem_of_getElem? (i := 179) rfl)) rfl), by decide, fun h => absurd h (by decide), fun h => absurd h (by decide), fun h => absurd h (by decide)⟩
set_option maxRecDepth 100000 in
theorem pk_X11_287 : bpok TW cls_ MT RX11 287 (.inl (5, 9, 0)) := ⟨RX5, TX5, 13, rfl, by decide, (TW_mk (tl_2 _ (List.mem_of_getElem? (i := 181) rfl)) rfl), by decide, fun _ => by decide +kernel, fun h => absurd h (by decide), fun h => absurd h (by decide)⟩
set_option maxRecDepth 100000 in
theorem pk_X11_290 : bpok TW cls_ MT RX11 290 (.inr (.inl 95)) := ⟨M_X5_ringsOf, rfl, (TW_mk (tl_5 _ (List.mem_of_getElem? (i := 218) rfl)) rfl)⟩
set_option maxRecDepth 100000 in
theorem pk_X11_293 : bpok TW cls_ MT RX11 293 (.inr (.inl 182)) := ⟨M_X11_isGame, rfl, (TW_mk (tl_6 _ (List.mem_of_getElem? (i := 7) rfl)) rfl)⟩
set_option maxRecDepth 100000 in
theorem pk_X11_296 : bpok TW cls_ MT RX11 296 (.inr (.inl 4)) := ⟨M_X0_play, rfl, (TW_mk (tl_6 _ (List.mem_of_getElem? (i := 11) rfl)) rfl)⟩
set_option maxRecDepth 100000 in
theorem pk_X11_299 : bpok TW cls_ MT RX11 299 (.inr (.inl 7)) := ⟨M_X0_gainOf, rfl, (TW_mk (tl_6 _ (List.mem_of_getElem? (i := 34) rfl)) rfl)⟩
set_option maxRecDepth 100000 in
theorem pk_X11_302 : bpok TW cls_ MT RX11 302 (.inr (.inl 8)) := ⟨M_X0_worthOf, rfl, (TW_mk (tl_6 _ (List.mem_of_getElem? (i := 42) rfl)) rfl)⟩
set_option maxRecDepth 100000 in
theorem pk_X11_305 : bpok TW cls_ MT RX11 305 (.inr (.inl 1)) := ⟨M_X0_playAll, rfl, (TW_mk (tl_6 _ (List.mem_of_getElem? (i := 51) rfl)) rfl)⟩
set_option maxRecDepth 100000 in
theorem pk_X11_308 : bpok TW cls_ MT RX11 308 (.inr (.inl 10)) := ⟨M_X0_countRests, rfl, (TW_mk (tl_6 _ (List.mem_of_getElem? (i := 60) rfl)) rfl)⟩
set_option maxRecDepth 100000 in
theorem pk_X11_311 : bpok TW cls_ MT RX11 311 (.inr (.inl 11)) := ⟨M_X0_restAt, rfl, (TW_mk (tl_6 _ (List.mem_of_getElem? (i := 68) rfl)) rfl)⟩
set_option maxRecDepth 100000 in
theorem pk_X11_314 : bpok TW cls_ MT RX11 314 (.inr (.inl 12)) := ⟨M_X0_mostWorth, rfl, (TW_mk (tl_6 _ (List.mem_of_getElem? (i := 76) rfl)) rfl)⟩
set_option maxRecDepth 100000 in
theorem pk_X11_317 : bpok TW cls_ MT RX11 317 (.inr (.inl 13)) := ⟨M_X0_leastRestingWorth, rfl, (TW_mk (tl_6 _ (List.mem_of_getElem? (i := 82) rfl)) rfl)⟩
set_option maxRecDepth 100000 in
theorem pk_X11_320 : bpok TW cls_ MT RX11 320 (.inr (.inl 42)) := ⟨M_X3_search, rfl, (TW_mk (tl_6 _ (List.mem_of_getElem? (i := 92) rfl)) rfl)⟩
set_option maxRecDepth 100000 in
theorem pk_X11_322 : bpok TW cls_ MT RX11 322 (.inl (3, 8, 0)) := ⟨RX3, TX3, 9, rfl, by decide, (TW_mk (tl_3 _ (List.mem_of_getElem? (i := 16) rfl)) rfl), by decide, fun _ => by decide +kernel, fun h => absurd h (by decide), fun h => absurd h (by decide)⟩
set_option maxRecDepth 100000 in
theorem pk_X11_325 : bpok TW cls_ MT RX11 325 (.inl (3, 7, 3)) := ⟨RX3, TX3, 9, rfl, by decide, (TW_mk (tl_3 _ (List.mem_of_getElem? (i := 14) rfl)) rfl), by decide, fun h => absurd h (by decide), fun h => absurd h (by decide), fun h => absurd h (by decide)⟩
set_option maxRecDepth 100000 in
theorem pk_X11_328 : bpok TW cls_ MT RX11 328 (.inr (.inl 102)) := ⟨M_X6_add, rfl, (TW_mk (tl_6 _ (List.mem_of_getElem? (i := 139) rfl)) rfl)⟩
set_option maxRecDepth 100000 in
theorem pk_X11_331 : bpok TW cls_ MT RX11 331 (.inl (6, 3, 3)) := ⟨RX6, TX6, 5, rfl, by decide, (TW_mk (tl_3 _ (List.mem_of_getElem? (i := 51) rfl)) rfl), by decide, fun h => absurd h (by decide), fun h => absurd h (by decide), fun h => absurd h (by decide)⟩
set_option maxRecDepth 100000 in
theorem pk_X11_334 : bpok TW cls_ MT RX11 334 (.inl (6, 4, 0)) := ⟨RX6, TX6, 5, rfl, by decide, (TW_mk (tl_3 _ (List.mem_of_getElem? (i := 53) rfl)) rfl), by decide, fun _ => by decide +kernel, fun h => absurd h (by decide), fun h => absurd h (by decide)⟩
set_option maxRecDepth 100000 in
theorem pk_X11_337 : bpok TW cls_ MT RX11 337 (.inr (.inl 191)) := ⟨M_X11_isKnown, rfl, (TW_mk (tl_6 _ (List.mem_of_getElem? (i := 155) rfl)) rfl)⟩
set_option maxRecDepth 100000 in
theorem pk_X11_340 : bpok TW cls_ MT RX11 340 (.inr (.inl 105)) := ⟨M_X6_waysToFit, rfl, (TW_mk (tl_6 _ (List.mem_of_getElem? (i := 159) rfl)) rfl)⟩
set_option maxRecDepth 100000 in
theorem pk_X11_344 : bpok TW cls_ MT RX11 344 (.inr (.inl 106)) := ⟨M_X6_sureWish, rfl, (TW_mk (tl_6 _ (List.mem_of_getElem? (i := 171) rfl)) rfl)⟩
set_option maxRecDepth 100000 in
theorem pk_X11_348 : bpok TW cls_ MT RX11 348 (.inr (.inl 107)) := ⟨M_X6_trueOnes, rfl, (TW_mk (tl_6 _ (List.mem_of_getElem? (i := 179) rfl)) rfl)⟩
set_option maxRecDepth 100000 in
theorem pk_X11_351 : bpok TW cls_ MT RX11 351 (.inr (.inl 111)) := ⟨M_X7_putInSlot, rfl, (TW_mk (tl_6 _ (List.mem_of_getElem? (i := 187) rfl)) rfl)⟩
set_option maxRecDepth 100000 in
theorem pk_X11_355 : bpok TW cls_ MT RX11 355 (.inr (.inl 112)) := ⟨M_X7_goOnFrom, rfl, (TW_mk (tl_6 _ (List.mem_of_getElem? (i := 195) rfl)) rfl)⟩
set_option maxRecDepth 100000 in
theorem pk_X11_358 : bpok TW cls_ MT RX11 358 (.inl (9, 1, 0)) := ⟨RX9, TX9, 20, rfl, by decide, (TW_mk (tl_1 _ (List.mem_of_getElem? (i := 77) rfl)) rfl), by decide, fun _ => by decide +kernel, fun h => absurd h (by decide), fun h => absurd h (by decide)⟩
set_option maxRecDepth 100000 in
theorem pk_X11_361 : bpok TW cls_ MT RX11 361 (.inl (7, 2, 0)) := ⟨RX7, TX7, 4, rfl, by decide, (TW_mk (tl_2 _ (List.mem_of_getElem? (i := 139) rfl)) rfl), by decide, fun _ => by decide +kernel, fun h => absurd h (by decide), fun h => absurd h (by decide)⟩
set_option maxRecDepth 100000 in
theorem pk_X11_364 : bpok TW cls_ MT RX11 364 (.inl (7, 3, 0)) := ⟨RX7, TX7, 4, rfl, by decide, (TW_mk (tl_2 _ (List.mem_of_getElem? (i := 141) rfl)) rfl), by decide, fun _ => by decide +kernel, fun h => absurd h (by decide), fun h => absurd h (by decide)⟩
set_option maxRecDepth 100000 in
theorem pk_X11_367 : bpok TW cls_ MT RX11 367 (.inr (.inl 343)) := ⟨M_J6_bitCount_0f7a4, rfl, (TW_mk (tl_6 _ (List.mem_of_getElem? (i := 203) rfl)) rfl)⟩
set_option maxRecDepth 100000 in
theorem pk_X11_372 : bpok TW cls_ MT RX11 372 (.inr (.inl 103)) := ⟨M_X6_sayers, rfl, (TW_mk (tl_6 _ (List.mem_of_getElem? (i := 204) rfl)) rfl)⟩
set_option maxRecDepth 100000 in
theorem pk_X11 : ∀ q ∈ pool_X11, bpok TW cls_ MT RX11 q.1 q.2 := List.forall_mem_cons.mpr ⟨pk_X11_9, List.forall_mem_cons.mpr ⟨pk_X11_13, List.forall_mem_cons.mpr ⟨pk_X11_20, List.forall_mem_cons.mpr ⟨pk_X11_24, List.forall_mem_cons.mpr ⟨pk_X11_30, List.forall_mem_cons.mpr ⟨pk_X11_39, List.forall_mem_cons.mpr ⟨pk_X11_43, List.forall_mem_cons.mpr ⟨pk_X11_49, List.forall_mem_cons.mpr ⟨pk_X11_56, List.forall_mem_cons.mpr ⟨pk_X11_65, List.forall_mem_cons.mpr ⟨pk_X11_74, List.forall_mem_cons.mpr ⟨pk_X11_81, List.forall_mem_cons.mpr ⟨pk_X11_88, List.forall_mem_cons.mpr ⟨pk_X11_92, List.forall_mem_cons.mpr ⟨pk_X11_95, List.forall_mem_cons.mpr ⟨pk_X11_99, List.forall_mem_cons.mpr ⟨pk_X11_103, List.forall_mem_cons.mpr ⟨pk_X11_106, List.forall_mem_cons.mpr ⟨pk_X11_109, List.forall_mem_cons.mpr ⟨pk_X11_112, List.forall_mem_cons.mpr ⟨pk_X11_113, List.forall_mem_cons.mpr ⟨pk_X11_116, List.forall_mem_cons.mpr ⟨pk_X11_119, List.forall_mem_cons.mpr ⟨pk_X11_122, List.forall_mem_cons.mpr ⟨pk_X11_126, List.forall_mem_cons.mpr ⟨pk_X11_130, List.forall_mem_cons.mpr ⟨pk_X11_133, List.forall_mem_cons.mpr ⟨pk_X11_137, List.forall_mem_cons.mpr ⟨pk_X11_140, List.forall_mem_cons.mpr ⟨pk_X11_143, List.forall_mem_cons.mpr ⟨pk_X11_146, List.forall_mem_cons.mpr ⟨pk_X11_149, List.forall_mem_cons.mpr ⟨pk_X11_152, List.forall_mem_cons.mpr ⟨pk_X11_155, List.forall_mem_cons.mpr ⟨pk_X11_158, List.forall_mem_cons.mpr ⟨pk_X11_161, List.forall_mem_cons.mpr ⟨pk_X11_164, List.forall_mem_cons.mpr ⟨pk_X11_167, List.forall_mem_cons.mpr ⟨pk_X11_170, List.forall_mem_cons.mpr ⟨pk_X11_174, List.forall_mem_cons.mpr ⟨pk_X11_177, List.forall_mem_cons.mpr ⟨pk_X11_181, List.forall_mem_cons.mpr ⟨pk_X11_184, List.forall_mem_cons.mpr ⟨pk_X11_187, List.forall_mem_cons.mpr ⟨pk_X11_190, List.forall_mem_cons.mpr ⟨pk_X11_193, List.forall_mem_cons.mpr ⟨pk_X11_196, List.forall_mem_cons.mpr ⟨pk_X11_199, List.forall_mem_cons.mpr ⟨pk_X11_202, List.forall_mem_cons.mpr ⟨pk_X11_205, List.forall_mem_cons.mpr ⟨pk_X11_208, List.forall_mem_cons.mpr ⟨pk_X11_211, List.forall_mem_cons.mpr ⟨pk_X11_215, List.forall_mem_cons.mpr ⟨pk_X11_219, List.forall_mem_cons.mpr ⟨pk_X11_222, List.forall_mem_cons.mpr ⟨pk_X11_225, List.forall_mem_cons.mpr ⟨pk_X11_228, List.forall_mem_cons.mpr ⟨pk_X11_231, List.forall_mem_cons.mpr ⟨pk_X11_234, List.forall_mem_cons.mpr ⟨pk_X11_237, List.forall_mem_cons.mpr ⟨pk_X11_240, List.forall_mem_cons.mpr ⟨pk_X11_244, List.forall_mem_cons.mpr ⟨pk_X11_245, List.forall_mem_cons.mpr ⟨pk_X11_248, List.forall_mem_cons.mpr ⟨pk_X11_252, List.forall_mem_cons.mpr ⟨pk_X11_255, List.forall_mem_cons.mpr ⟨pk_X11_258, List.forall_mem_cons.mpr ⟨pk_X11_262, List.forall_mem_cons.mpr ⟨pk_X11_265, List.forall_mem_cons.mpr ⟨pk_X11_268, List.forall_mem_cons.mpr ⟨pk_X11_272, List.forall_mem_cons.mpr ⟨pk_X11_275, List.forall_mem_cons.mpr ⟨pk_X11_278, List.forall_mem_cons.mpr ⟨pk_X11_281, List.forall_mem_cons.mpr ⟨pk_X11_284, List.forall_mem_cons.mpr ⟨pk_X11_287, List.forall_mem_cons.mpr ⟨pk_X11_290, List.forall_mem_cons.mpr ⟨pk_X11_293, List.forall_mem_cons.mpr ⟨pk_X11_296, List.forall_mem_cons.mpr ⟨pk_X11_299, List.forall_mem_cons.mpr ⟨pk_X11_302, List.forall_mem_cons.mpr ⟨pk_X11_305, List.forall_mem_cons.mpr ⟨pk_X11_308, List.forall_mem_cons.mpr ⟨pk_X11_311, List.forall_mem_cons.mpr ⟨pk_X11_314, List.forall_mem_cons.mpr ⟨pk_X11_317, List.forall_mem_cons.mpr ⟨pk_X11_320, List.forall_mem_cons.mpr ⟨pk_X11_322, List.forall_mem_cons.mpr ⟨pk_X11_325, List.forall_mem_cons.mpr ⟨pk_X11_328, List.forall_mem_cons.mpr ⟨pk_X11_331, List.forall_mem_cons.mpr ⟨pk_X11_334, List.forall_mem_cons.mpr ⟨pk_X11_337, List.forall_mem_cons.mpr ⟨pk_X11_340, List.forall_mem_cons.mpr ⟨pk_X11_344, List.forall_mem_cons.mpr ⟨pk_X11_348, List.forall_mem_cons.mpr ⟨pk_X11_351, List.forall_mem_cons.mpr ⟨pk_X11_355, List.forall_mem_cons.mpr ⟨pk_X11_358, List.forall_mem_cons.mpr ⟨pk_X11_361, List.forall_mem_cons.mpr ⟨pk_X11_364, List.forall_mem_cons.mpr ⟨pk_X11_367, List.forall_mem_cons.mpr ⟨pk_X11_372, fun _ h => absurd h List.not_mem_nil⟩⟩⟩⟩⟩⟩⟩⟩⟩⟩⟩⟩⟩⟩⟩⟩⟩⟩⟩⟩⟩⟩⟩⟩⟩⟩⟩⟩⟩⟩⟩⟩⟩⟩⟩⟩⟩⟩⟩⟩⟩⟩⟩⟩⟩⟩⟩⟩⟩⟩⟩⟩⟩⟩⟩⟩⟩⟩⟩⟩⟩⟩⟩⟩⟩⟩⟩⟩⟩⟩⟩⟩⟩⟩⟩⟩⟩⟩⟩⟩⟩⟩⟩⟩⟩⟩⟩⟩⟩⟩⟩⟩⟩⟩⟩⟩⟩⟩⟩⟩⟩⟩⟩
set_option maxRecDepth 100000 in
theorem pk_X12_7 : bpok TW cls_ MT RX12 7 (.inl (12, 1, 3)) := ⟨RX12, TX12, 67, rfl, by decide, (TW_mk (tl_6 _ (List.mem_of_getElem? (i := 227) rfl)) rfl), by decide, fun h => absurd h (by decide), fun h => absurd h (by decide), fun h => absurd h (by decide)⟩
set_option maxRecDepth 100000 in
theorem pk_X12_13 : bpok TW cls_ MT RX12 13 (.inl (12, 3, 3)) := ⟨RX12, TX12, 67, rfl, by decide, (TW_mk (tl_6 _ (List.mem_of_getElem? (i := 229) rfl)) rfl), by decide, fun h => absurd h (by decide), fun h => absurd h (by decide), fun h => absurd h (by decide)⟩
set_option maxRecDepth 100000 in
theorem pk_X12_16 : bpok TW cls_ MT RX12 16 (.inl (12, 4, 3)) := ⟨RX12, TX12, 67, rfl, by decide, (TW_mk (tl_6 _ (List.mem_of_getElem? (i := 230) rfl)) rfl), by decide, fun h => absurd h (by decide), fun h => absurd h (by decide), fun h => absurd h (by decide)⟩
set_option maxRecDepth 100000 in
theorem pk_X12_19 : bpok TW cls_ MT RX12 19 (.inl (12, 5, 3)) := ⟨RX12, TX12, 67, rfl, by decide, (TW_mk (tl_6 _ (List.mem_of_getElem? (i := 231) rfl)) rfl), by decide, fun h => absurd h (by decide), fun h => absurd h (by decide), fun h => absurd h (by decide)⟩
set_option maxRecDepth 100000 in
theorem pk_X12_22 : bpok TW cls_ MT RX12 22 (.inl (12, 6, 3)) := ⟨RX12, TX12, 67, rfl, by decide, (TW_mk (tl_6 _ (List.mem_of_getElem? (i := 232) rfl)) rfl), by decide, fun h => absurd h (by decide), fun h => absurd h (by decide), fun h => absurd h (by decide)⟩
set_option maxRecDepth 100000 in
theorem pk_X12_26 : bpok TW cls_ MT RX12 26 (.inl (12, 9, 0)) := ⟨RX12, TX12, 67, rfl, by decide, (TW_mk (tl_6 _ (List.mem_of_getElem? (i := 235) rfl)) rfl), by decide, fun _ => by decide +kernel, fun h => absurd h (by decide), fun h => absurd h (by decide)⟩
set_option maxRecDepth 100000 in
theorem pk_X12_30 : bpok TW cls_ MT RX12 30 (.inl (12, 12, 3)) := ⟨RX12, TX12, 67, rfl, by decide, (TW_mk (tl_6 _ (List.mem_of_getElem? (i := 238) rfl)) rfl), by decide, fun h => absurd h (by decide), fun h => absurd h (by decide), fun h => absurd h (by decide)⟩
set_option maxRecDepth 100000 in
theorem pk_X12_33 : bpok TW cls_ MT RX12 33 (.inl (12, 13, 3)) := ⟨RX12, TX12, 67, rfl, by decide, (TW_mk (tl_6 _ (List.mem_of_getElem? (i := 239) rfl)) rfl), by decide, fun h => absurd h (by decide), fun h => absurd h (by decide), fun h => absurd h (by decide)⟩
set_option maxRecDepth 100000 in
theorem pk_X12_36 : bpok TW cls_ MT RX12 36 (.inl (12, 14, 3)) := ⟨RX12, TX12, 67, rfl, by decide, (TW_mk (tl_7 _ (List.mem_of_getElem? (i := 0) rfl)) rfl), by decide, fun h => absurd h (by decide), fun h => absurd h (by decide), fun h => absurd h (by decide)⟩
set_option maxRecDepth 100000 in
theorem pk_X12_39 : bpok TW cls_ MT RX12 39 (.inl (12, 15, 3)) := ⟨RX12, TX12, 67, rfl, by decide, (TW_mk (tl_7 _ (List.mem_of_getElem? (i := 1) rfl)) rfl), by decide, fun h => absurd h (by decide), fun h => absurd h (by decide), fun h => absurd h (by decide)⟩
set_option maxRecDepth 100000 in
theorem pk_X12_42 : bpok TW cls_ MT RX12 42 (.inl (12, 16, 3)) := ⟨RX12, TX12, 67, rfl, by decide, (TW_mk (tl_7 _ (List.mem_of_getElem? (i := 2) rfl)) rfl), by decide, fun h => absurd h (by decide), fun h => absurd h (by decide), fun h => absurd h (by decide)⟩
set_option maxRecDepth 100000 in
theorem pk_X12_45 : bpok TW cls_ MT RX12 45 (.inl (12, 17, 3)) := ⟨RX12, TX12, 67, rfl, by decide, (TW_mk (tl_7 _ (List.mem_of_getElem? (i := 3) rfl)) rfl), by decide, fun h => absurd h (by decide), fun h => absurd h (by decide), fun h => absurd h (by decide)⟩
set_option maxRecDepth 100000 in
theorem pk_X12_48 : bpok TW cls_ MT RX12 48 (.inl (12, 18, 3)) := ⟨RX12, TX12, 67, rfl, by decide, (TW_mk (tl_7 _ (List.mem_of_getElem? (i := 4) rfl)) rfl), by decide, fun h => absurd h (by decide), fun h => absurd h (by decide), fun h => absurd h (by decide)⟩
set_option maxRecDepth 100000 in
theorem pk_X12_51 : bpok TW cls_ MT RX12 51 (.inl (12, 19, 3)) := ⟨RX12, TX12, 67, rfl, by decide, (TW_mk (tl_7 _ (List.mem_of_getElem? (i := 5) rfl)) rfl), by decide, fun h => absurd h (by decide), fun h => absurd h (by decide), fun h => absurd h (by decide)⟩
set_option maxRecDepth 100000 in
theorem pk_X12_54 : bpok TW cls_ MT RX12 54 (.inl (12, 20, 3)) := ⟨RX12, TX12, 67, rfl, by decide, (TW_mk (tl_7 _ (List.mem_of_getElem? (i := 6) rfl)) rfl), by decide, fun h => absurd h (by decide), fun h => absurd h (by decide), fun h => absurd h (by decide)⟩
set_option maxRecDepth 100000 in
theorem pk_X12_57 : bpok TW cls_ MT RX12 57 (.inl (12, 21, 3)) := ⟨RX12, TX12, 67, rfl, by decide, (TW_mk (tl_7 _ (List.mem_of_getElem? (i := 7) rfl)) rfl), by decide, fun h => absurd h (by decide), fun h => absurd h (by decide), fun h => absurd h (by decide)⟩
set_option maxRecDepth 100000 in
theorem pk_X12_60 : bpok TW cls_ MT RX12 60 (.inl (12, 22, 3)) := ⟨RX12, TX12, 67, rfl, by decide, (TW_mk (tl_7 _ (List.mem_of_getElem? (i := 8) rfl)) rfl), by decide, fun h => absurd h (by decide), fun h => absurd h (by decide), fun h => absurd h (by decide)⟩
set_option maxRecDepth 100000 in
theorem pk_X12_63 : bpok TW cls_ MT RX12 63 (.inl (12, 23, 3)) := ⟨RX12, TX12, 67, rfl, by decide, (TW_mk (tl_7 _ (List.mem_of_getElem? (i := 9) rfl)) rfl), by decide, fun h => absurd h (by decide), fun h => absurd h (by decide), fun h => absurd h (by decide)⟩
set_option maxRecDepth 100000 in
theorem pk_X12_66 : bpok TW cls_ MT RX12 66 (.inl (12, 24, 3)) := ⟨RX12, TX12, 67, rfl, by decide, (TW_mk (tl_7 _ (List.mem_of_getElem? (i := 10) rfl)) rfl), by decide, fun h => absurd h (by decide), fun h => absurd h (by decide), fun h => absurd h (by decide)⟩
set_option maxRecDepth 100000 in
theorem pk_X12_69 : bpok TW cls_ MT RX12 69 (.inl (12, 25, 3)) := ⟨RX12, TX12, 67, rfl, by decide, (TW_mk (tl_7 _ (List.mem_of_getElem? (i := 11) rfl)) rfl), by decide, fun h => absurd h (by decide), fun h => absurd h (by decide), fun h => absurd h (by decide)⟩
set_option maxRecDepth 100000 in
theorem pk_X12_72 : bpok TW cls_ MT RX12 72 (.inl (12, 26, 3)) := ⟨RX12, TX12, 67, rfl, by decide, (TW_mk (tl_7 _ (List.mem_of_getElem? (i := 12) rfl)) rfl), by decide, fun h => absurd h (by decide), fun h => absurd h (by decide), fun h => absurd h (by decide)⟩
set_option maxRecDepth 100000 in
theorem pk_X12_75 : bpok TW cls_ MT RX12 75 (.inl (12, 27, 3)) := ⟨RX12, TX12, 67, rfl, by decide, (TW_mk (tl_7 _ (List.mem_of_getElem? (i := 13) rfl)) rfl), by decide, fun h => absurd h (by decide), fun h => absurd h (by decide), fun h => absurd h (by decide)⟩
set_option maxRecDepth 100000 in
theorem pk_X12_78 : bpok TW cls_ MT RX12 78 (.inl (12, 28, 3)) := ⟨RX12, TX12, 67, rfl, by decide, (TW_mk (tl_7 _ (List.mem_of_getElem? (i := 14) rfl)) rfl), by decide, fun h => absurd h (by decide), fun h => absurd h (by decide), fun h => absurd h (by decide)⟩
set_option maxRecDepth 100000 in
theorem pk_X12_81 : bpok TW cls_ MT RX12 81 (.inl (12, 29, 3)) := ⟨RX12, TX12, 67, rfl, by decide, (TW_mk (tl_7 _ (List.mem_of_getElem? (i := 15) rfl)) rfl), by decide, fun h => absurd h (by decide), fun h => absurd h (by decide), fun h => absurd h (by decide)⟩
set_option maxRecDepth 100000 in
theorem pk_X12_84 : bpok TW cls_ MT RX12 84 (.inl (12, 30, 3)) := ⟨RX12, TX12, 67, rfl, by decide, (TW_mk (tl_7 _ (List.mem_of_getElem? (i := 16) rfl)) rfl), by decide, fun h => absurd h (by decide), fun h => absurd h (by decide), fun h => absurd h (by decide)⟩
set_option maxRecDepth 100000 in
theorem pk_X12_87 : bpok TW cls_ MT RX12 87 (.inl (12, 32, 3)) := ⟨RX12, TX12, 67, rfl, by decide, (TW_mk (tl_7 _ (List.mem_of_getElem? (i := 18) rfl)) rfl), by decide, fun h => absurd h (by decide), fun h => absurd h (by decide), fun h => absurd h (by decide)⟩
set_option maxRecDepth 100000 in
theorem pk_X12_90 : bpok TW cls_ MT RX12 90 (.inl (12, 33, 3)) := ⟨RX12, TX12, 67, rfl, by decide, (TW_mk (tl_7 _ (List.mem_of_getElem? (i := 19) rfl)) rfl), by decide, fun h => absurd h (by decide), fun h => absurd h (by decide), fun h => absurd h (by decide)⟩
set_option maxRecDepth 100000 in
theorem pk_X12_93 : bpok TW cls_ MT RX12 93 (.inl (12, 34, 3)) := ⟨RX12, TX12, 67, rfl, by decide, (TW_mk (tl_7 _ (List.mem_of_getElem? (i := 20) rfl)) rfl), by decide, fun h => absurd h (by decide), fun h => absurd h (by decide), fun h => absurd h (by decide)⟩
set_option maxRecDepth 100000 in
theorem pk_X12_96 : bpok TW cls_ MT RX12 96 (.inl (12, 37, 3)) := ⟨RX12, TX12, 67, rfl, by decide, (TW_mk (tl_7 _ (List.mem_of_getElem? (i := 23) rfl)) rfl), by decide, fun h => absurd h (by decide), fun h => absurd h (by decide), fun h => absurd h (by decide)⟩
set_option maxRecDepth 100000 in
theorem pk_X12_99 : bpok TW cls_ MT RX12 99 (.inl (12, 39, 3)) := ⟨RX12, TX12, 67, rfl, by decide, (TW_mk (tl_7 _ (List.mem_of_getElem? (i := 25) rfl)) rfl), by decide, fun h => absurd h (by decide), fun h => absurd h (by decide), fun h => absurd h (by decide)⟩
set_option maxRecDepth 100000 in
theorem pk_X12_102 : bpok TW cls_ MT RX12 102 (.inl (12, 43, 3)) := ⟨RX12, TX12, 67, rfl, by decide, (TW_mk (tl_7 _ (List.mem_of_getElem? (i := 29) rfl)) rfl), by decide, fun h => absurd h (by decide), fun h => absurd h (by decide), fun h => absurd h (by decide)⟩
set_option maxRecDepth 100000 in
theorem pk_X12_106 : bpok TW cls_ MT RX12 106 (.inl (12, 44, 3)) := ⟨RX12, TX12, 67, rfl, by decide, (TW_mk (tl_7 _ (List.mem_of_getElem? (i := 30) rfl)) rfl), by decide, fun h => absurd h (by decide), fun h => absurd h (by decide), fun h => absurd h (by decide)⟩
set_option maxRecDepth 100000 in
theorem pk_X12_109 : bpok TW cls_ MT RX12 109 (.inl (12, 45, 3)) := ⟨RX12, TX12, 67, rfl, by decide, (TW_mk (tl_7 _ (List.mem_of_getElem? (i := 31) rfl)) rfl), by decide, fun h => absurd h (by decide), fun h => absurd h (by decide), fun h => absurd h (by decide)⟩
set_option maxRecDepth 100000 in
theorem pk_X12_112 : bpok TW cls_ MT RX12 112 (.inl (12, 48, 3)) := ⟨RX12, TX12, 67, rfl, by decide, (TW_mk (tl_7 _ (List.mem_of_getElem? (i := 34) rfl)) rfl), by decide, fun h => absurd h (by decide), fun h => absurd h (by decide), fun h => absurd h (by decide)⟩
set_option maxRecDepth 100000 in
theorem pk_X12_115 : bpok TW cls_ MT RX12 115 (.inl (12, 50, 3)) := ⟨RX12, TX12, 67, rfl, by decide, (TW_mk (tl_7 _ (List.mem_of_getElem? (i := 36) rfl)) rfl), by decide, fun h => absurd h (by decide), fun h => absurd h (by decide), fun h => absurd h (by decide)⟩
set_option maxRecDepth 100000 in
theorem pk_X12_118 : bpok TW cls_ MT RX12 118 (.inl (12, 51, 3)) := ⟨RX12, TX12, 67, rfl, by decide, (TW_mk (tl_7 _ (List.mem_of_getElem? (i := 37) rfl)) rfl), by decide, fun h => absurd h (by decide), fun h => absurd h (by decide), fun h => absurd h (by decide)⟩
set_option maxRecDepth 100000 in
theorem pk_X12_121 : bpok TW cls_ MT RX12 121 (.inl (12, 52, 3)) := ⟨RX12, TX12, 67, rfl, by decide, (TW_mk (tl_7 _ (List.mem_of_getElem? (i := 38) rfl)) rfl), by decide, fun h => absurd h (by decide), fun h => absurd h (by decide), fun h => absurd h (by decide)⟩
set_option maxRecDepth 100000 in
theorem pk_X12_124 : bpok TW cls_ MT RX12 124 (.inl (12, 54, 3)) := ⟨RX12, TX12, 67, rfl, by decide, (TW_mk (tl_7 _ (List.mem_of_getElem? (i := 40) rfl)) rfl), by decide, fun h => absurd h (by decide), fun h => absurd h (by decide), fun h => absurd h (by decide)⟩
set_option maxRecDepth 100000 in
theorem pk_X12_127 : bpok TW cls_ MT RX12 127 (.inl (12, 56, 3)) := ⟨RX12, TX12, 67, rfl, by decide, (TW_mk (tl_7 _ (List.mem_of_getElem? (i := 42) rfl)) rfl), by decide, fun h => absurd h (by decide), fun h => absurd h (by decide), fun h => absurd h (by decide)⟩
set_option maxRecDepth 100000 in
theorem pk_X12_130 : bpok TW cls_ MT RX12 130 (.inl (12, 57, 3)) := ⟨RX12, TX12, 67, rfl, by decide, (TW_mk (tl_7 _ (List.mem_of_getElem? (i := 43) rfl)) rfl), by decide, fun h => absurd h (by decide), fun h => absurd h (by decide), fun h => absurd h (by decide)⟩
set_option maxRecDepth 100000 in
theorem pk_X12_133 : bpok TW cls_ MT RX12 133 (.inl (12, 58, 3)) := ⟨RX12, TX12, 67, rfl, by decide, (TW_mk (tl_7 _ (List.mem_of_getElem? (i := 44) rfl)) rfl), by decide, fun h => absurd h (by decide), fun h => absurd h (by decide), fun h => absurd h (by decide)⟩
set_option maxRecDepth 100000 in
theorem pk_X12_136 : bpok TW cls_ MT RX12 136 (.inl (12, 59, 3)) := ⟨RX12, TX12, 67, rfl, by decide, (TW_mk (tl_7 _ (List.mem_of_getElem? (i := 45) rfl)) rfl), by decide, fun h => absurd h (by decide), fun h => absurd h (by decide), fun h => absurd h (by decide)⟩
set_option maxRecDepth 100000 in
theorem pk_X12_139 : bpok TW cls_ MT RX12 139 (.inl (12, 60, 3)) := ⟨RX12, TX12, 67, rfl, by decide, (TW_mk (tl_7 _ (List.mem_of_getElem? (i := 46) rfl)) rfl), by decide, fun h => absurd h (by decide), fun h => absurd h (by decide), fun h => absurd h (by decide)⟩
set_option maxRecDepth 100000 in
theorem pk_X12_142 : bpok TW cls_ MT RX12 142 (.inl (12, 61, 3)) := ⟨RX12, TX12, 67, rfl, by decide, (TW_mk (tl_7 _ (List.mem_of_getElem? (i := 47) rfl)) rfl), by decide, fun h => absurd h (by decide), fun h => absurd h (by decide), fun h => absurd h (by decide)⟩
set_option maxRecDepth 100000 in
theorem pk_X12_145 : bpok TW cls_ MT RX12 145 (.inl (12, 63, 3)) := ⟨RX12, TX12, 67, rfl, by decide, (TW_mk (tl_7 _ (List.mem_of_getElem? (i := 49) rfl)) rfl), by decide, fun h => absurd h (by decide), fun h => absurd h (by decide), fun h => absurd h (by decide)⟩
set_option maxRecDepth 100000 in
theorem pk_X12_148 : bpok TW cls_ MT RX12 148 (.inl (12, 64, 3)) := ⟨RX12, TX12, 67, rfl, by decide, (TW_mk (tl_7 _ (List.mem_of_getElem? (i := 50) rfl)) rfl), by decide, fun h => absurd h (by decide), fun h => absurd h (by decide), fun h => absurd h (by decide)⟩
set_option maxRecDepth 100000 in
theorem pk_X12_151 : bpok TW cls_ MT RX12 151 (.inl (12, 65, 3)) := ⟨RX12, TX12, 67, rfl, by decide, (TW_mk (tl_7 _ (List.mem_of_getElem? (i := 51) rfl)) rfl), by decide, fun h => absurd h (by decide), fun h => absurd h (by decide), fun h => absurd h (by decide)⟩
set_option maxRecDepth 100000 in
theorem pk_X12_154 : bpok TW cls_ MT RX12 154 (.inl (12, 66, 3)) := ⟨RX12, TX12, 67, rfl, by decide, (TW_mk (tl_7 _ (List.mem_of_getElem? (i := 52) rfl)) rfl), by decide, fun h => absurd h (by decide), fun h => absurd h (by decide), fun h => absurd h (by decide)⟩
set_option maxRecDepth 100000 in
theorem pk_X12_157 : bpok TW cls_ MT RX12 157 (.inr (.inl 236)) := ⟨M_X12_clears, rfl, (TW_mk (tl_6 _ (List.mem_of_getElem? (i := 214) rfl)) rfl)⟩
set_option maxRecDepth 100000 in
theorem pk_X12_160 : bpok TW cls_ MT RX12 160 (.inr (.inl 238)) := ⟨M_X12_lays, rfl, (TW_mk (tl_6 _ (List.mem_of_getElem? (i := 218) rfl)) rfl)⟩
set_option maxRecDepth 100000 in
theorem pk_X12_163 : bpok TW cls_ MT RX12 163 (.inr (.inl 242)) := ⟨M_X12_begins, rfl, (TW_mk (tl_6 _ (List.mem_of_getElem? (i := 222) rfl)) rfl)⟩
set_option maxRecDepth 100000 in
theorem pk_X12_166 : bpok TW cls_ MT RX12 166 (.inl (12, 0, 0)) := ⟨RX12, TX12, 67, rfl, by decide, (TW_mk (tl_6 _ (List.mem_of_getElem? (i := 226) rfl)) rfl), by decide, fun _ => by decide +kernel, fun h => absurd h (by decide), fun h => absurd h (by decide)⟩
set_option maxRecDepth 100000 in
theorem pk_X12_169 : bpok TW cls_ MT RX12 169 (.inr (.inl 199)) := ⟨M_X12_typed, rfl, (TW_mk (tl_7 _ (List.mem_of_getElem? (i := 193) rfl)) rfl)⟩
set_option maxRecDepth 100000 in
theorem pk_X12_173 : bpok TW cls_ MT RX12 173 (.inr (.inl 201)) := ⟨M_X12_byteAt, rfl, (TW_mk (tl_7 _ (List.mem_of_getElem? (i := 209) rfl)) rfl)⟩
set_option maxRecDepth 100000 in
theorem pk_X12_177 : bpok TW cls_ MT RX12 177 (.inl (12, 2, 0)) := ⟨RX12, TX12, 67, rfl, by decide, (TW_mk (tl_6 _ (List.mem_of_getElem? (i := 228) rfl)) rfl), by decide, fun _ => by decide +kernel, fun h => absurd h (by decide), fun h => absurd h (by decide)⟩
set_option maxRecDepth 100000 in
theorem pk_X12_180 : bpok TW cls_ MT RX12 180 (.inr (.inr (.inr (40484)))) := (TW_mk (tl_7 _ (List.mem_of_getElem? (i := 226) rfl)) rfl)
set_option maxRecDepth 100000 in
theorem pk_X12_182 : bpok TW cls_ MT RX12 182 (.inr (.inr (.inr (316205)))) := (TW_mk (tl_7 _ (List.mem_of_getElem? (i := 227) rfl)) rfl)
set_option maxRecDepth 100000 in
theorem pk_X12_184 : bpok TW cls_ MT RX12 184 (.inr (.inr (.inr (38444009)))) := (TW_mk (tl_7 _ (List.mem_of_getElem? (i := 228) rfl)) rfl)
set_option maxRecDepth 100000 in
theorem pk_X12_186 : bpok TW cls_ MT RX12 186 (.inr (.inr (.inr (9518)))) := (TW_mk (tl_7 _ (List.mem_of_getElem? (i := 229) rfl)) rfl)
set_option maxRecDepth 100000 in
theorem pk_X12_188 : bpok TW cls_ MT RX12 188 (.inr (.inr (.inr (335187793)))) := (TW_mk (tl_7 _ (List.mem_of_getElem? (i := 230) rfl)) rfl)
set_option maxRecDepth 100000 in
theorem pk_X12_190 : bpok TW cls_ MT RX12 190 (.inr (.inr (.inr (404931)))) := (TW_mk (tl_7 _ (List.mem_of_getElem? (i := 231) rfl)) rfl)
set_option maxRecDepth 100000 in
theorem pk_X12_192 : bpok TW cls_ MT RX12 192 (.inr (.inr (.inr (148870)))) := (TW_mk (tl_7 _ (List.mem_of_getElem? (i := 232) rfl)) rfl)
set_option maxRecDepth 100000 in
theorem pk_X12_194 : bpok TW cls_ MT RX12 194 (.inr (.inr (.inr (138767)))) := (TW_mk (tl_7 _ (List.mem_of_getElem? (i := 233) rfl)) rfl)
set_option maxRecDepth 100000 in
theorem pk_X12_196 : bpok TW cls_ MT RX12 196 (.inr (.inr (.inr (3218641)))) := (TW_mk (tl_7 _ (List.mem_of_getElem? (i := 234) rfl)) rfl)
set_option maxRecDepth 100000 in
theorem pk_X12_198 : bpok TW cls_ MT RX12 198 (.inr (.inr (.inr (80096)))) := (TW_mk (tl_7 _ (List.mem_of_getElem? (i := 235) rfl)) rfl)
set_option maxRecDepth 100000 in
theorem pk_X12_200 : bpok TW cls_ MT RX12 200 (.inr (.inr (.inr (171028703845)))) := (TW_mk (tl_7 _ (List.mem_of_getElem? (i := 236) rfl)) rfl)
set_option maxRecDepth 100000 in
theorem pk_X12_202 : bpok TW cls_ MT RX12 202 (.inr (.inr (.inr (164516)))) := (TW_mk (tl_7 _ (List.mem_of_getElem? (i := 237) rfl)) rfl)
set_option maxRecDepth 100000 in
theorem pk_X12_204 : bpok TW cls_ MT RX12 204 (.inr (.inr (.inr (377761)))) := (TW_mk (tl_7 _ (List.mem_of_getElem? (i := 238) rfl)) rfl)
set_option maxRecDepth 100000 in
theorem pk_X12_206 : bpok TW cls_ MT RX12 206 (.inr (.inr (.inr (249)))) := (TW_mk (tl_7 _ (List.mem_of_getElem? (i := 239) rfl)) rfl)
set_option maxRecDepth 100000 in
theorem pk_X12_208 : bpok TW cls_ MT RX12 208 (.inr (.inr (.inr (399641)))) := (TW_mk (tl_8 _ (List.mem_of_getElem? (i := 0) rfl)) rfl)
set_option maxRecDepth 100000 in
theorem pk_X12_210 : bpok TW cls_ MT RX12 210 (.inr (.inr (.inr (107681)))) := (TW_mk (tl_8 _ (List.mem_of_getElem? (i := 1) rfl)) rfl)
set_option maxRecDepth 100000 in
theorem pk_X12_212 : bpok TW cls_ MT RX12 212 (.inr (.inr (.inr (168984)))) := (TW_mk (tl_8 _ (List.mem_of_getElem? (i := 2) rfl)) rfl)
set_option maxRecDepth 100000 in
theorem pk_X12_214 : bpok TW cls_ MT RX12 214 (.inr (.inr (.inr (237458)))) := (TW_mk (tl_8 _ (List.mem_of_getElem? (i := 3) rfl)) rfl)
set_option maxRecDepth 100000 in
theorem pk_X12_216 : bpok TW cls_ MT RX12 216 (.inr (.inr (.inr (10815598)))) := (TW_mk (tl_8 _ (List.mem_of_getElem? (i := 4) rfl)) rfl)
set_option maxRecDepth 100000 in
theorem pk_X12_218 : bpok TW cls_ MT RX12 218 (.inr (.inr (.inr (8930039)))) := (TW_mk (tl_8 _ (List.mem_of_getElem? (i := 5) rfl)) rfl)
set_option maxRecDepth 100000 in
theorem pk_X12_220 : bpok TW cls_ MT RX12 220 (.inr (.inr (.inr (168755)))) := (TW_mk (tl_8 _ (List.mem_of_getElem? (i := 6) rfl)) rfl)
set_option maxRecDepth 100000 in
theorem pk_X12_222 : bpok TW cls_ MT RX12 222 (.inr (.inr (.inr (16998)))) := (TW_mk (tl_8 _ (List.mem_of_getElem? (i := 7) rfl)) rfl)
set_option maxRecDepth 100000 in
theorem pk_X12_224 : bpok TW cls_ MT RX12 224 (.inr (.inr (.inr (161600)))) := (TW_mk (tl_8 _ (List.mem_of_getElem? (i := 8) rfl)) rfl)
set_option maxRecDepth 100000 in
theorem pk_X12_226 : bpok TW cls_ MT RX12 226 (.inr (.inr (.inr (330748168)))) := (TW_mk (tl_8 _ (List.mem_of_getElem? (i := 9) rfl)) rfl)
set_option maxRecDepth 100000 in
theorem pk_X12_228 : bpok TW cls_ MT RX12 228 (.inr (.inl 202)) := ⟨M_X12_isLetter, rfl, (TW_mk (tl_7 _ (List.mem_of_getElem? (i := 217) rfl)) rfl)⟩
set_option maxRecDepth 100000 in
theorem pk_X12_232 : bpok TW cls_ MT RX12 232 (.inr (.inr (.inr (27)))) := (TW_mk (tl_7 _ (List.mem_of_getElem? (i := 221) rfl)) rfl)
set_option maxRecDepth 100000 in
theorem pk_X12_234 : bpok TW cls_ MT RX12 234 (.inr (.inr (.inr (96)))) := (TW_mk (tl_7 _ (List.mem_of_getElem? (i := 222) rfl)) rfl)
set_option maxRecDepth 100000 in
theorem pk_X12_236 : bpok TW cls_ MT RX12 236 (.inr (.inl 205)) := ⟨M_X12_wordOf, rfl, (TW_mk (tl_7 _ (List.mem_of_getElem? (i := 223) rfl)) rfl)⟩
set_option maxRecDepth 100000 in
theorem pk_X12_240 : bpok TW cls_ MT RX12 240 (.inr (.inl 204)) := ⟨M_X12_token, rfl, (TW_mk (tl_8 _ (List.mem_of_getElem? (i := 10) rfl)) rfl)⟩
set_option maxRecDepth 100000 in
theorem pk_X12_244 : bpok TW cls_ MT RX12 244 (.inr (.inl 203)) := ⟨M_X12_isDigit, rfl, (TW_mk (tl_8 _ (List.mem_of_getElem? (i := 14) rfl)) rfl)⟩
set_option maxRecDepth 100000 in
theorem pk_X12_247 : bpok TW cls_ MT RX12 247 (.inr (.inl 206)) := ⟨M_X12_signAt, rfl, (TW_mk (tl_8 _ (List.mem_of_getElem? (i := 18) rfl)) rfl)⟩
set_option maxRecDepth 100000 in
theorem pk_X12_250 : bpok TW cls_ MT RX12 250 (.inr (.inl 207)) := ⟨M_X12_scan, rfl, (TW_mk (tl_7 _ (List.mem_of_getElem? (i := 213) rfl)) rfl)⟩
set_option maxRecDepth 100000 in
theorem pk_X12_253 : bpok TW cls_ MT RX12 253 (.inl (12, 8, 0)) := ⟨RX12, TX12, 67, rfl, by decide, (TW_mk (tl_6 _ (List.mem_of_getElem? (i := 234) rfl)) rfl), by decide, fun _ => by decide +kernel, fun h => absurd h (by decide), fun h => absurd h (by decide)⟩
set_option maxRecDepth 100000 in
theorem pk_X12_256 : bpok TW cls_ MT RX12 256 (.inl (12, 7, 0)) := ⟨RX12, TX12, 67, rfl, by decide, (TW_mk (tl_6 _ (List.mem_of_getElem? (i := 233) rfl)) rfl), by decide, fun _ => by decide +kernel, fun h => absurd h (by decide), fun h => absurd h (by decide)⟩
set_option maxRecDepth 100000 in
theorem pk_X12_259 : bpok TW cls_ MT RX12 259 (.inl (12, 10, 0)) := ⟨RX12, TX12, 67, rfl, by decide, (TW_mk (tl_6 _ (List.mem_of_getElem? (i := 236) rfl)) rfl), by decide, fun _ => by decide +kernel, fun h => absurd h (by decide), fun h => absurd h (by decide)⟩
set_option maxRecDepth 100000 in
theorem pk_X12_262 : bpok TW cls_ MT RX12 262 (.inl (12, 11, 0)) := ⟨RX12, TX12, 67, rfl, by decide, (TW_mk (tl_6 _ (List.mem_of_getElem? (i := 237) rfl)) rfl), by decide, fun _ => by decide +kernel, fun h => absurd h (by decide), fun h => absurd h (by decide)⟩
set_option maxRecDepth 100000 in
theorem pk_X12_265 : bpok TW cls_ MT RX12 265 (.inr (.inl 209)) := ⟨M_X12_wrong, rfl, (TW_mk (tl_8 _ (List.mem_of_getElem? (i := 34) rfl)) rfl)⟩
set_option maxRecDepth 100000 in
theorem pk_X12_268 : bpok TW cls_ MT RX12 268 (.inr (.inl 211)) := ⟨M_X12_pass, rfl, (TW_mk (tl_8 _ (List.mem_of_getElem? (i := 38) rfl)) rfl)⟩
set_option maxRecDepth 100000 in
theorem pk_X12_272 : bpok TW cls_ MT RX12 272 (.inr (.inl 212)) := ⟨M_X12_isSign, rfl, (TW_mk (tl_8 _ (List.mem_of_getElem? (i := 86) rfl)) rfl)⟩
set_option maxRecDepth 100000 in
theorem pk_X12_275 : bpok TW cls_ MT RX12 275 (.inr (.inl 213)) := ⟨M_X12_isWord, rfl, (TW_mk (tl_8 _ (List.mem_of_getElem? (i := 90) rfl)) rfl)⟩
set_option maxRecDepth 100000 in
theorem pk_X12_278 : bpok TW cls_ MT RX12 278 (.inr (.inl 214)) := ⟨M_X12_takes, rfl, (TW_mk (tl_8 _ (List.mem_of_getElem? (i := 46) rfl)) rfl)⟩
set_option maxRecDepth 100000 in
theorem pk_X12_281 : bpok TW cls_ MT RX12 281 (.inl (12, 35, 0)) := ⟨RX12, TX12, 67, rfl, by decide, (TW_mk (tl_7 _ (List.mem_of_getElem? (i := 21) rfl)) rfl), by decide, fun _ => by decide +kernel, fun h => absurd h (by decide), fun h => absurd h (by decide)⟩
set_option maxRecDepth 100000 in
theorem pk_X12_284 : bpok TW cls_ MT RX12 284 (.inr (.inl 210)) := ⟨M_X12_tells, rfl, (TW_mk (tl_8 _ (List.mem_of_getElem? (i := 50) rfl)) rfl)⟩
set_option maxRecDepth 100000 in
theorem pk_X12_288 : bpok TW cls_ MT RX12 288 (.inl (12, 31, 0)) := ⟨RX12, TX12, 67, rfl, by decide, (TW_mk (tl_7 _ (List.mem_of_getElem? (i := 17) rfl)) rfl), by decide, fun _ => by decide +kernel, fun h => absurd h (by decide), fun h => absurd h (by decide)⟩
set_option maxRecDepth 100000 in
theorem pk_X12_291 : bpok TW cls_ MT RX12 291 (.inl (12, 36, 0)) := ⟨RX12, TX12, 67, rfl, by decide, (TW_mk (tl_7 _ (List.mem_of_getElem? (i := 22) rfl)) rfl), by decide, fun _ => by decide +kernel, fun h => absurd h (by decide), fun h => absurd h (by decide)⟩
set_option maxRecDepth 100000 in
theorem pk_X12_294 : bpok TW cls_ MT RX12 294 (.inr (.inl 221)) := ⟨M_X12_rank, rfl, (TW_mk (tl_8 _ (List.mem_of_getElem? (i := 118) rfl)) rfl)⟩
set_option maxRecDepth 100000 in
theorem pk_X12_297 : bpok TW cls_ MT RX12 297 (.inr (.inl 220)) := ⟨M_X12_emit, rfl, (TW_mk (tl_8 _ (List.mem_of_getElem? (i := 114) rfl)) rfl)⟩
set_option maxRecDepth 100000 in
theorem pk_X12_300 : bpok TW cls_ MT RX12 300 (.inl (12, 38, 0)) := ⟨RX12, TX12, 67, rfl, by decide, (TW_mk (tl_7 _ (List.mem_of_getElem? (i := 24) rfl)) rfl), by decide, fun _ => by decide +kernel, fun h => absurd h (by decide), fun h => absurd h (by decide)⟩
set_option maxRecDepth 100000 in
theorem pk_X12_303 : bpok TW cls_ MT RX12 303 (.inr (.inl 223)) := ⟨M_X12_await, rfl, (TW_mk (tl_8 _ (List.mem_of_getElem? (i := 110) rfl)) rfl)⟩
set_option maxRecDepth 100000 in
theorem pk_X12_306 : bpok TW cls_ MT RX12 306 (.inr (.inl 225)) := ⟨M_X12_joiner, rfl, (TW_mk (tl_8 _ (List.mem_of_getElem? (i := 102) rfl)) rfl)⟩
set_option maxRecDepth 100000 in
theorem pk_X12_310 : bpok TW cls_ MT RX12 310 (.inr (.inl 224)) := ⟨M_X12_takesUnit, rfl, (TW_mk (tl_8 _ (List.mem_of_getElem? (i := 106) rfl)) rfl)⟩
set_option maxRecDepth 100000 in
theorem pk_X12_313 : bpok TW cls_ MT RX12 313 (.inr (.inl 222)) := ⟨M_X12_reduce, rfl, (TW_mk (tl_8 _ (List.mem_of_getElem? (i := 121) rfl)) rfl)⟩
set_option maxRecDepth 100000 in
theorem pk_X12_316 : bpok TW cls_ MT RX12 316 (.inr (.inl 215)) := ⟨M_X12_takesSign, rfl, (TW_mk (tl_8 _ (List.mem_of_getElem? (i := 82) rfl)) rfl)⟩
set_option maxRecDepth 100000 in
theorem pk_X12_319 : bpok TW cls_ MT RX12 319 (.inr (.inl 226)) := ⟨M_X12_expr, rfl, (TW_mk (tl_8 _ (List.mem_of_getElem? (i := 98) rfl)) rfl)⟩
set_option maxRecDepth 100000 in
theorem pk_X12_322 : bpok TW cls_ MT RX12 322 (.inr (.inl 227)) := ⟨M_X12_sumOf, rfl, (TW_mk (tl_8 _ (List.mem_of_getElem? (i := 94) rfl)) rfl)⟩
set_option maxRecDepth 100000 in
theorem pk_X12_326 : bpok TW cls_ MT RX12 326 (.inr (.inl 216)) := ⟨M_X12_takesWord, rfl, (TW_mk (tl_8 _ (List.mem_of_getElem? (i := 125) rfl)) rfl)⟩
set_option maxRecDepth 100000 in
theorem pk_X12_329 : bpok TW cls_ MT RX12 329 (.inr (.inl 218)) := ⟨M_X12_names, rfl, (TW_mk (tl_8 _ (List.mem_of_getElem? (i := 42) rfl)) rfl)⟩
set_option maxRecDepth 100000 in
theorem pk_X12_331 : bpok TW cls_ MT RX12 331 (.inr (.inl 219)) := ⟨M_X12_takesName, rfl, (TW_mk (tl_8 _ (List.mem_of_getElem? (i := 58) rfl)) rfl)⟩
set_option maxRecDepth 100000 in
theorem pk_X12_334 : bpok TW cls_ MT RX12 334 (.inr (.inl 217)) := ⟨M_X12_takesInt, rfl, (TW_mk (tl_8 _ (List.mem_of_getElem? (i := 62) rfl)) rfl)⟩
set_option maxRecDepth 100000 in
theorem pk_X12_337 : bpok TW cls_ MT RX12 337 (.inr (.inl 228)) := ⟨M_X12_lawTold, rfl, (TW_mk (tl_8 _ (List.mem_of_getElem? (i := 78) rfl)) rfl)⟩
set_option maxRecDepth 100000 in
theorem pk_X12_340 : bpok TW cls_ MT RX12 340 (.inr (.inl 229)) := ⟨M_X12_tellBank, rfl, (TW_mk (tl_8 _ (List.mem_of_getElem? (i := 30) rfl)) rfl)⟩
set_option maxRecDepth 100000 in
theorem pk_X12_343 : bpok TW cls_ MT RX12 343 (.inr (.inl 230)) := ⟨M_X12_tellPath, rfl, (TW_mk (tl_8 _ (List.mem_of_getElem? (i := 54) rfl)) rfl)⟩
set_option maxRecDepth 100000 in
theorem pk_X12_346 : bpok TW cls_ MT RX12 346 (.inr (.inl 231)) := ⟨M_X12_tellBridge, rfl, (TW_mk (tl_8 _ (List.mem_of_getElem? (i := 66) rfl)) rfl)⟩
set_option maxRecDepth 100000 in
theorem pk_X12_349 : bpok TW cls_ MT RX12 349 (.inr (.inl 232)) := ⟨M_X12_tellMan, rfl, (TW_mk (tl_8 _ (List.mem_of_getElem? (i := 70) rfl)) rfl)⟩
set_option maxRecDepth 100000 in
theorem pk_X12_352 : bpok TW cls_ MT RX12 352 (.inr (.inl 233)) := ⟨M_X12_tellLawOf, rfl, (TW_mk (tl_8 _ (List.mem_of_getElem? (i := 74) rfl)) rfl)⟩
set_option maxRecDepth 100000 in
theorem pk_X12_355 : bpok TW cls_ MT RX12 355 (.inr (.inl 234)) := ⟨M_X12_tellRest, rfl, (TW_mk (tl_8 _ (List.mem_of_getElem? (i := 129) rfl)) rfl)⟩
set_option maxRecDepth 100000 in
theorem pk_X12_358 : bpok TW cls_ MT RX12 358 (.inr (.inl 235)) := ⟨M_X12_tellOne, rfl, (TW_mk (tl_8 _ (List.mem_of_getElem? (i := 26) rfl)) rfl)⟩
set_option maxRecDepth 100000 in
theorem pk_X12_361 : bpok TW cls_ MT RX12 361 (.inr (.inl 208)) := ⟨M_X12_scanAll, rfl, (TW_mk (tl_7 _ (List.mem_of_getElem? (i := 205) rfl)) rfl)⟩
set_option maxRecDepth 100000 in
theorem pk_X12_364 : bpok TW cls_ MT RX12 364 (.inr (.inl 237)) := ⟨M_X12_parses, rfl, (TW_mk (tl_8 _ (List.mem_of_getElem? (i := 22) rfl)) rfl)⟩
set_option maxRecDepth 100000 in
theorem pk_X12_367 : bpok TW cls_ MT RX12 367 (.inl (12, 40, 0)) := ⟨RX12, TX12, 67, rfl, by decide, (TW_mk (tl_7 _ (List.mem_of_getElem? (i := 26) rfl)) rfl), by decide, fun _ => by decide +kernel, fun h => absurd h (by decide), fun h => absurd h (by decide)⟩
set_option maxRecDepth 100000 in
theorem pk_X12_370 : bpok TW cls_ MT RX12 370 (.inl (12, 41, 0)) := ⟨RX12, TX12, 67, rfl, by decide, (TW_mk (tl_7 _ (List.mem_of_getElem? (i := 27) rfl)) rfl), by decide, fun _ => by decide +kernel, fun h => absurd h (by decide), fun h => absurd h (by decide)⟩
set_option maxRecDepth 100000 in
theorem pk_X12_373 : bpok TW cls_ MT RX12 373 (.inl (12, 62, 0)) := ⟨RX12, TX12, 67, rfl, by decide, (TW_mk (tl_7 _ (List.mem_of_getElem? (i := 48) rfl)) rfl), by decide, fun _ => by decide +kernel, fun h => absurd h (by decide), fun h => absurd h (by decide)⟩
set_option maxRecDepth 100000 in
theorem pk_X12_376 : bpok TW cls_ MT RX12 376 (.inr (.inl 241)) := ⟨M_X12_copies, rfl, (TW_mk (tl_8 _ (List.mem_of_getElem? (i := 219) rfl)) rfl)⟩
set_option maxRecDepth 100000 in
theorem pk_X12_379 : bpok TW cls_ MT RX12 379 (.inl (12, 46, 1)) := ⟨RX12, TX12, 67, rfl, by decide, (TW_mk (tl_7 _ (List.mem_of_getElem? (i := 32) rfl)) rfl), by decide, fun h => absurd h (by decide), fun _ => by decide +kernel, fun h => absurd h (by decide)⟩
set_option maxRecDepth 100000 in
theorem pk_X12_383 : bpok TW cls_ MT RX12 383 (.inr (.inl 249)) := ⟨M_X12_joined, rfl, (TW_mk (tl_8 _ (List.mem_of_getElem? (i := 188) rfl)) rfl)⟩
set_option maxRecDepth 100000 in
theorem pk_X12_387 : bpok TW cls_ MT RX12 387 (.inr (.inl 250)) := ⟨M_X12_sumTold, rfl, (TW_mk (tl_8 _ (List.mem_of_getElem? (i := 184) rfl)) rfl)⟩
set_option maxRecDepth 100000 in
theorem pk_X12_391 : bpok TW cls_ MT RX12 391 (.inr (.inl 252)) := ⟨M_X12_asks, rfl, (TW_mk (tl_8 _ (List.mem_of_getElem? (i := 176) rfl)) rfl)⟩
set_option maxRecDepth 100000 in
theorem pk_X12_394 : bpok TW cls_ MT RX12 394 (.inr (.inl 251)) := ⟨M_X12_lawOf, rfl, (TW_mk (tl_8 _ (List.mem_of_getElem? (i := 180) rfl)) rfl)⟩
set_option maxRecDepth 100000 in
theorem pk_X12_397 : bpok TW cls_ MT RX12 397 (.inr (.inl 245)) := ⟨M_X12_within, rfl, (TW_mk (tl_8 _ (List.mem_of_getElem? (i := 200) rfl)) rfl)⟩
set_option maxRecDepth 100000 in
theorem pk_X12_400 : bpok TW cls_ MT RX12 400 (.inr (.inl 256)) := ⟨M_X12_isOn, rfl, (TW_mk (tl_8 _ (List.mem_of_getElem? (i := 145) rfl)) rfl)⟩
set_option maxRecDepth 100000 in
theorem pk_X12_403 : bpok TW cls_ MT RX12 403 (.inr (.inl 257)) := ⟨M_X12_isAtFoot, rfl, (TW_mk (tl_8 _ (List.mem_of_getElem? (i := 211) rfl)) rfl)⟩
set_option maxRecDepth 100000 in
theorem pk_X12_406 : bpok TW cls_ MT RX12 406 (.inr (.inl 254)) := ⟨M_X12_tollOf, rfl, (TW_mk (tl_8 _ (List.mem_of_getElem? (i := 196) rfl)) rfl)⟩
set_option maxRecDepth 100000 in
theorem pk_X12_409 : bpok TW cls_ MT RX12 409 (.inr (.inl 253)) := ⟨M_X12_wishOf, rfl, (TW_mk (tl_8 _ (List.mem_of_getElem? (i := 172) rfl)) rfl)⟩
set_option maxRecDepth 100000 in
theorem pk_X12_412 : bpok TW cls_ MT RX12 412 (.inr (.inl 260)) := ⟨M_X12_comes, rfl, (TW_mk (tl_8 _ (List.mem_of_getElem? (i := 227) rfl)) rfl)⟩
set_option maxRecDepth 100000 in
theorem pk_X12_415 : bpok TW cls_ MT RX12 415 (.inr (.inr (.inl (1103515245)))) := (TW_mk (tl_9 _ (List.mem_of_getElem? (i := 2) rfl)) rfl)
set_option maxRecDepth 100000 in
theorem pk_X12_416 : bpok TW cls_ MT RX12 416 (.inr (.inl 262)) := ⟨M_X12_mixed, rfl, (TW_mk (tl_8 _ (List.mem_of_getElem? (i := 239) rfl)) rfl)⟩
set_option maxRecDepth 100000 in
theorem pk_X12_419 : bpok TW cls_ MT RX12 419 (.inr (.inl 263)) := ⟨M_X12_lot, rfl, (TW_mk (tl_8 _ (List.mem_of_getElem? (i := 235) rfl)) rfl)⟩
set_option maxRecDepth 100000 in
theorem pk_X12_422 : bpok TW cls_ MT RX12 422 (.inr (.inl 264)) := ⟨M_X12_hourGoes, rfl, (TW_mk (tl_8 _ (List.mem_of_getElem? (i := 231) rfl)) rfl)⟩
set_option maxRecDepth 100000 in
theorem pk_X12_425 : bpok TW cls_ MT RX12 425 (.inl (12, 47, 0)) := ⟨RX12, TX12, 67, rfl, by decide, (TW_mk (tl_7 _ (List.mem_of_getElem? (i := 33) rfl)) rfl), by decide, fun _ => by decide +kernel, fun h => absurd h (by decide), fun h => absurd h (by decide)⟩
set_option maxRecDepth 100000 in
theorem pk_X12_428 : bpok TW cls_ MT RX12 428 (.inr (.inl 258)) := ⟨M_X12_could, rfl, (TW_mk (tl_8 _ (List.mem_of_getElem? (i := 207) rfl)) rfl)⟩
set_option maxRecDepth 100000 in
theorem pk_X12_431 : bpok TW cls_ MT RX12 431 (.inr (.inl 255)) := ⟨M_X12_goesBy, rfl, (TW_mk (tl_9 _ (List.mem_of_getElem? (i := 51) rfl)) rfl)⟩
set_option maxRecDepth 100000 in
theorem pk_X12_434 : bpok TW cls_ MT RX12 434 (.inr (.inl 259)) := ⟨M_X12_isHome, rfl, (TW_mk (tl_9 _ (List.mem_of_getElem? (i := 43) rfl)) rfl)⟩
set_option maxRecDepth 100000 in
theorem pk_X12_437 : bpok TW cls_ MT RX12 437 (.inr (.inl 266)) := ⟨M_X12_taken, rfl, (TW_mk (tl_9 _ (List.mem_of_getElem? (i := 47) rfl)) rfl)⟩
set_option maxRecDepth 100000 in
theorem pk_X12_441 : bpok TW cls_ MT RX12 441 (.inr (.inl 261)) := ⟨M_X12_crosses, rfl, (TW_mk (tl_8 _ (List.mem_of_getElem? (i := 223) rfl)) rfl)⟩
set_option maxRecDepth 100000 in
theorem pk_X12_444 : bpok TW cls_ MT RX12 444 (.inr (.inl 267)) := ⟨M_X12_ruleGoes, rfl, (TW_mk (tl_9 _ (List.mem_of_getElem? (i := 39) rfl)) rfl)⟩
set_option maxRecDepth 100000 in
theorem pk_X12_447 : bpok TW cls_ MT RX12 447 (.inr (.inl 246)) := ⟨M_X12_isBank, rfl, (TW_mk (tl_8 _ (List.mem_of_getElem? (i := 141) rfl)) rfl)⟩
set_option maxRecDepth 100000 in
theorem pk_X12_450 : bpok TW cls_ MT RX12 450 (.inr (.inl 247)) := ⟨M_X12_isBridge, rfl, (TW_mk (tl_8 _ (List.mem_of_getElem? (i := 153) rfl)) rfl)⟩
set_option maxRecDepth 100000 in
theorem pk_X12_453 : bpok TW cls_ MT RX12 453 (.inr (.inl 244)) := ⟨M_X12_isIn, rfl, (TW_mk (tl_8 _ (List.mem_of_getElem? (i := 157) rfl)) rfl)⟩
set_option maxRecDepth 100000 in
theorem pk_X12_457 : bpok TW cls_ MT RX12 457 (.inr (.inl 248)) := ⟨M_X12_isMan, rfl, (TW_mk (tl_8 _ (List.mem_of_getElem? (i := 164) rfl)) rfl)⟩
set_option maxRecDepth 100000 in
theorem pk_X12_460 : bpok TW cls_ MT RX12 460 (.inl (12, 42, 0)) := ⟨RX12, TX12, 67, rfl, by decide, (TW_mk (tl_7 _ (List.mem_of_getElem? (i := 28) rfl)) rfl), by decide, fun _ => by decide +kernel, fun h => absurd h (by decide), fun h => absurd h (by decide)⟩
set_option maxRecDepth 100000 in
theorem pk_X12_463 : bpok TW cls_ MT RX12 463 (.inr (.inl 274)) := ⟨M_X12_keeps, rfl, (TW_mk (tl_8 _ (List.mem_of_getElem? (i := 215) rfl)) rfl)⟩
set_option maxRecDepth 100000 in
theorem pk_X12_466 : bpok TW cls_ MT RX12 466 (.inr (.inl 243)) := ⟨M_X12_tries, rfl, (TW_mk (tl_9 _ (List.mem_of_getElem? (i := 7) rfl)) rfl)⟩
set_option maxRecDepth 100000 in
theorem pk_X12_469 : bpok TW cls_ MT RX12 469 (.inr (.inl 278)) := ⟨M_X12_pathOf, rfl, (TW_mk (tl_9 _ (List.mem_of_getElem? (i := 19) rfl)) rfl)⟩
set_option maxRecDepth 100000 in
theorem pk_X12_472 : bpok TW cls_ MT RX12 472 (.inr (.inl 265)) := ⟨M_X12_hoursGo, rfl, (TW_mk (tl_9 _ (List.mem_of_getElem? (i := 23) rfl)) rfl)⟩
set_option maxRecDepth 100000 in
theorem pk_X12_475 : bpok TW cls_ MT RX12 475 (.inr (.inl 268)) := ⟨M_X12_rulesGo, rfl, (TW_mk (tl_9 _ (List.mem_of_getElem? (i := 35) rfl)) rfl)⟩
set_option maxRecDepth 100000 in
theorem pk_X12_478 : bpok TW cls_ MT RX12 478 (.inr (.inl 283)) := ⟨M_X12_homesNow, rfl, (TW_mk (tl_9 _ (List.mem_of_getElem? (i := 63) rfl)) rfl)⟩
set_option maxRecDepth 100000 in
theorem pk_X12_481 : bpok TW cls_ MT RX12 481 (.inr (.inl 293)) := ⟨M_X12_nears, rfl, (TW_mk (tl_9 _ (List.mem_of_getElem? (i := 112) rfl)) rfl)⟩
set_option maxRecDepth 100000 in
theorem pk_X12_484 : bpok TW cls_ MT RX12 484 (.inr (.inr (.inl (1000000)))) := (TW_mk (tl_9 _ (List.mem_of_getElem? (i := 107) rfl)) rfl)
set_option maxRecDepth 100000 in
theorem pk_X12_485 : bpok TW cls_ MT RX12 485 (.inr (.inl 294)) := ⟨M_X12_goesOn, rfl, (TW_mk (tl_9 _ (List.mem_of_getElem? (i := 108) rfl)) rfl)⟩
set_option maxRecDepth 100000 in
theorem pk_X12_488 : bpok TW cls_ MT RX12 488 (.inr (.inl 295)) := ⟨M_X12_laysFar, rfl, (TW_mk (tl_9 _ (List.mem_of_getElem? (i := 103) rfl)) rfl)⟩
set_option maxRecDepth 100000 in
theorem pk_X12_491 : bpok TW cls_ MT RX12 491 (.inr (.inl 296)) := ⟨M_X12_nearest, rfl, (TW_mk (tl_9 _ (List.mem_of_getElem? (i := 116) rfl)) rfl)⟩
set_option maxRecDepth 100000 in
theorem pk_X12_494 : bpok TW cls_ MT RX12 494 (.inl (12, 49, 0)) := ⟨RX12, TX12, 67, rfl, by decide, (TW_mk (tl_7 _ (List.mem_of_getElem? (i := 35) rfl)) rfl), by decide, fun _ => by decide +kernel, fun h => absurd h (by decide), fun h => absurd h (by decide)⟩
set_option maxRecDepth 100000 in
theorem pk_X12_497 : bpok TW cls_ MT RX12 497 (.inl (12, 53, 1)) := ⟨RX12, TX12, 67, rfl, by decide, (TW_mk (tl_7 _ (List.mem_of_getElem? (i := 39) rfl)) rfl), by decide, fun h => absurd h (by decide), fun _ => by decide +kernel, fun h => absurd h (by decide)⟩
set_option maxRecDepth 100000 in
theorem pk_X12_500 : bpok TW cls_ MT RX12 500 (.inr (.inl 303)) := ⟨M_X12_changes, rfl, (TW_mk (tl_9 _ (List.mem_of_getElem? (i := 160) rfl)) rfl)⟩
set_option maxRecDepth 100000 in
theorem pk_X12_503 : bpok TW cls_ MT RX12 503 (.inr (.inl 304)) := ⟨M_X12_leaves, rfl, (TW_mk (tl_9 _ (List.mem_of_getElem? (i := 148) rfl)) rfl)⟩
set_option maxRecDepth 100000 in
theorem pk_X12_506 : bpok TW cls_ MT RX12 506 (.inr (.inl 301)) := ⟨M_X12_laysRow, rfl, (TW_mk (tl_9 _ (List.mem_of_getElem? (i := 140) rfl)) rfl)⟩
set_option maxRecDepth 100000 in
theorem pk_X12_509 : bpok TW cls_ MT RX12 509 (.inr (.inl 305)) := ⟨M_X12_rowGoes, rfl, (TW_mk (tl_9 _ (List.mem_of_getElem? (i := 144) rfl)) rfl)⟩
set_option maxRecDepth 100000 in
theorem pk_X12_512 : bpok TW cls_ MT RX12 512 (.inr (.inl 306)) := ⟨M_X12_areHome, rfl, (TW_mk (tl_9 _ (List.mem_of_getElem? (i := 152) rfl)) rfl)⟩
set_option maxRecDepth 100000 in
theorem pk_X12_515 : bpok TW cls_ MT RX12 515 (.inr (.inl 302)) := ⟨M_X12_turns, rfl, (TW_mk (tl_9 _ (List.mem_of_getElem? (i := 156) rfl)) rfl)⟩
set_option maxRecDepth 100000 in
theorem pk_X12_518 : bpok TW cls_ MT RX12 518 (.inr (.inl 299)) := ⟨M_X12_isSet, rfl, (TW_mk (tl_9 _ (List.mem_of_getElem? (i := 128) rfl)) rfl)⟩
set_option maxRecDepth 100000 in
theorem pk_X12_521 : bpok TW cls_ MT RX12 521 (.inr (.inl 300)) := ⟨M_X12_areAtFoot, rfl, (TW_mk (tl_9 _ (List.mem_of_getElem? (i := 132) rfl)) rfl)⟩
set_option maxRecDepth 100000 in
theorem pk_X12_524 : bpok TW cls_ MT RX12 524 (.inr (.inl 307)) := ⟨M_X12_goodRows, rfl, (TW_mk (tl_9 _ (List.mem_of_getElem? (i := 136) rfl)) rfl)⟩
set_option maxRecDepth 100000 in
theorem pk_X12_527 : bpok TW cls_ MT RX12 527 (.inr (.inl 310)) := ⟨M_X12_ones, rfl, (TW_mk (tl_9 _ (List.mem_of_getElem? (i := 180) rfl)) rfl)⟩
set_option maxRecDepth 100000 in
theorem pk_X12_530 : bpok TW cls_ MT RX12 530 (.inr (.inl 311)) := ⟨M_X12_goodBy, rfl, (TW_mk (tl_9 _ (List.mem_of_getElem? (i := 183) rfl)) rfl)⟩
set_option maxRecDepth 100000 in
theorem pk_X12_533 : bpok TW cls_ MT RX12 533 (.inl (12, 55, 0)) := ⟨RX12, TX12, 67, rfl, by decide, (TW_mk (tl_7 _ (List.mem_of_getElem? (i := 41) rfl)) rfl), by decide, fun _ => by decide +kernel, fun h => absurd h (by decide), fun h => absurd h (by decide)⟩
set_option maxRecDepth 100000 in
theorem pk_X12_536 : bpok TW cls_ MT RX12 536 (.inr (.inl 312)) := ⟨M_X12_rowWith, rfl, (TW_mk (tl_9 _ (List.mem_of_getElem? (i := 176) rfl)) rfl)⟩
set_option maxRecDepth 100000 in
theorem pk_X12_539 : bpok TW cls_ MT RX12 539 (.inr (.inl 313)) := ⟨M_X12_fewestHired, rfl, (TW_mk (tl_9 _ (List.mem_of_getElem? (i := 172) rfl)) rfl)⟩
set_option maxRecDepth 100000 in
theorem pk_X12_542 : bpok TW cls_ MT RX12 542 (.inr (.inl 316)) := ⟨M_X12_joins, rfl, (TW_mk (tl_9 _ (List.mem_of_getElem? (i := 199) rfl)) rfl)⟩
set_option maxRecDepth 100000 in
theorem pk_X12_545 : bpok TW cls_ MT RX12 545 (.inr (.inl 317)) := ⟨M_X12_laysArcs, rfl, (TW_mk (tl_9 _ (List.mem_of_getElem? (i := 195) rfl)) rfl)⟩
set_option maxRecDepth 100000 in
theorem pk_X12_548 : bpok TW cls_ MT RX12 548 (.inr (.inl 318)) := ⟨M_X12_moreOut, rfl, (TW_mk (tl_9 _ (List.mem_of_getElem? (i := 203) rfl)) rfl)⟩
set_option maxRecDepth 100000 in
theorem pk_X12_551 : bpok TW cls_ MT RX12 551 (.inr (.inl 320)) := ⟨M_X12_gainOf, rfl, (TW_mk (tl_9 _ (List.mem_of_getElem? (i := 219) rfl)) rfl)⟩
set_option maxRecDepth 100000 in
theorem pk_X12_554 : bpok TW cls_ MT RX12 554 (.inr (.inl 322)) := ⟨M_X12_isLate, rfl, (TW_mk (tl_9 _ (List.mem_of_getElem? (i := 211) rfl)) rfl)⟩
set_option maxRecDepth 100000 in
theorem pk_X12_557 : bpok TW cls_ MT RX12 557 (.inr (.inl 321)) := ⟨M_X12_laysGains, rfl, (TW_mk (tl_9 _ (List.mem_of_getElem? (i := 215) rfl)) rfl)⟩
set_option maxRecDepth 100000 in
theorem pk_X12_560 : bpok TW cls_ MT RX12 560 (.inr (.inl 324)) := ⟨M_X12_worthOf, rfl, (TW_mk (tl_9 _ (List.mem_of_getElem? (i := 227) rfl)) rfl)⟩
set_option maxRecDepth 100000 in
theorem pk_X12_563 : bpok TW cls_ MT RX12 563 (.inr (.inl 326)) := ⟨M_X12_isRest, rfl, (TW_mk (tl_9 _ (List.mem_of_getElem? (i := 235) rfl)) rfl)⟩
set_option maxRecDepth 100000 in
theorem pk_X12_566 : bpok TW cls_ MT RX12 566 (.inr (.inl 329)) := ⟨M_X12_laysPrices, rfl, (TW_mk (tl_10 _ (List.mem_of_getElem? (i := 7) rfl)) rfl)⟩
set_option maxRecDepth 100000 in
theorem pk_X12_569 : bpok TW cls_ MT RX12 569 (.inr (.inl 334)) := ⟨M_X12_knows, rfl, (TW_mk (tl_10 _ (List.mem_of_getElem? (i := 27) rfl)) rfl)⟩
set_option maxRecDepth 100000 in
theorem pk_X12_572 : bpok TW cls_ MT RX12 572 (.inr (.inl 340)) := ⟨M_X12_heldMany, rfl, (TW_mk (tl_10 _ (List.mem_of_getElem? (i := 51) rfl)) rfl)⟩
set_option maxRecDepth 100000 in
theorem pk_X12_575 : bpok TW cls_ MT RX12 575 (.inr (.inl 341)) := ⟨M_X12_saidBy, rfl, (TW_mk (tl_10 _ (List.mem_of_getElem? (i := 55) rfl)) rfl)⟩
set_option maxRecDepth 100000 in
theorem pk_X12 : ∀ q ∈ pool_X12, bpok TW cls_ MT RX12 q.1 q.2 := List.forall_mem_cons.mpr ⟨pk_X12_7, List.forall_mem_cons.mpr ⟨pk_X12_13, List.forall_mem_cons.mpr ⟨pk_X12_16, List.forall_mem_cons.mpr ⟨pk_X12_19, List.forall_mem_cons.mpr ⟨pk_X12_22, List.forall_mem_cons.mpr ⟨pk_X12_26, List.forall_mem_cons.mpr ⟨pk_X12_30, List.forall_mem_cons.mpr ⟨pk_X12_33, List.forall_mem_cons.mpr ⟨pk_X12_36, List.forall_mem_cons.mpr ⟨pk_X12_39, List.forall_mem_cons.mpr ⟨pk_X12_42, List.forall_mem_cons.mpr ⟨pk_X12_45, List.forall_mem_cons.mpr ⟨pk_X12_48, List.forall_mem_cons.mpr ⟨pk_X12_51, List.forall_mem_cons.mpr ⟨pk_X12_54, List.forall_mem_cons.mpr ⟨pk_X12_57, List.forall_mem_cons.mpr ⟨pk_X12_60, List.forall_mem_cons.mpr ⟨pk_X12_63, List.forall_mem_cons.mpr ⟨pk_X12_66, List.forall_mem_cons.mpr ⟨pk_X12_69, List.forall_mem_cons.mpr ⟨pk_X12_72, List.forall_mem_cons.mpr ⟨pk_X12_75, List.forall_mem_cons.mpr ⟨pk_X12_78, List.forall_mem_cons.mpr ⟨pk_X12_81, List.forall_mem_cons.mpr ⟨pk_X12_84, List.forall_mem_cons.mpr ⟨pk_X12_87, List.forall_mem_cons.mpr ⟨pk_X12_90, List.forall_mem_cons.mpr ⟨pk_X12_93, List.forall_mem_cons.mpr ⟨pk_X12_96, List.forall_mem_cons.mpr ⟨pk_X12_99, List.forall_mem_cons.mpr ⟨pk_X12_102, List.forall_mem_cons.mpr ⟨pk_X12_106, List.forall_mem_cons.mpr ⟨pk_X12_109, List.forall_mem_cons.mpr ⟨pk_X12_112, List.forall_mem_cons.mpr ⟨pk_X12_115, List.forall_mem_cons.mpr ⟨pk_X12_118, List.forall_mem_cons.mpr ⟨pk_X12_121, List.forall_mem_cons.mpr ⟨pk_X12_124, List.forall_mem_cons.mpr ⟨pk_X12_127, List.forall_mem_cons.mpr ⟨pk_X12_130, List.forall_mem_cons.mpr ⟨pk_X12_133, List.forall_mem_cons.mpr ⟨pk_X12_136, List.forall_mem_cons.mpr ⟨pk_X12_139, List.forall_mem_cons.mpr ⟨pk_X12_142, List.forall_mem_cons.mpr ⟨pk_X12_145, List.forall_mem_cons.mpr ⟨pk_X12_148, List.forall_mem_cons.mpr ⟨pk_X12_151, List.forall_mem_cons.mpr ⟨pk_X12_154, List.forall_mem_cons.mpr ⟨pk_X12_157, List.forall_mem_cons.mpr ⟨pk_X12_160, List.forall_mem_cons.mpr ⟨pk_X12_163, List.forall_mem_cons.mpr ⟨pk_X12_166, List.forall_mem_cons.mpr ⟨pk_X12_169, List.forall_mem_cons.mpr ⟨pk_X12_173, List.forall_mem_cons.mpr ⟨pk_X12_177, List.forall_mem_cons.mpr ⟨pk_X12_180, List.forall_mem_cons.mpr ⟨pk_X12_182, List.forall_mem_cons.mpr ⟨pk_X12_184, List.forall_mem_cons.mpr ⟨pk_X12_186, List.forall_mem_cons.mpr ⟨pk_X12_188, List.forall_mem_cons.mpr ⟨pk_X12_190, List.forall_mem_cons.mpr ⟨pk_X12_192, List.forall_mem_cons.mpr ⟨pk_X12_194, List.forall_mem_cons.mpr ⟨pk_X12_196, List.forall_mem_cons.mpr ⟨pk_X12_198, List.forall_mem_cons.mpr ⟨pk_X12_200, List.forall_mem_cons.mpr ⟨pk_X12_202, List.forall_mem_cons.mpr ⟨pk_X12_204, List.forall_mem_cons.mpr ⟨pk_X12_206, List.forall_mem_cons.mpr ⟨pk_X12_208, List.forall_mem_cons.mpr ⟨pk_X12_210, List.forall_mem_cons.mpr ⟨pk_X12_212, List.forall_mem_cons.mpr ⟨pk_X12_214, List.forall_mem_cons.mpr ⟨pk_X12_216, List.forall_mem_cons.mpr ⟨pk_X12_218, List.forall_mem_cons.mpr ⟨pk_X12_220, List.forall_mem_cons.mpr ⟨pk_X12_222, List.forall_mem_cons.mpr ⟨pk_X12_224, List.forall_mem_cons.mpr ⟨pk_X12_226, List.forall_mem_cons.mpr ⟨pk_X12_228, List.forall_mem_cons.mpr ⟨pk_X12_232, List.forall_mem_cons.mpr ⟨pk_X12_234, List.forall_mem_cons.mpr ⟨pk_X12_236, List.forall_mem_cons.mpr ⟨pk_X12_240, List.forall_mem_cons.mpr ⟨pk_X12_244, List.forall_mem_cons.mpr ⟨pk_X12_247, List.forall_mem_cons.mpr ⟨pk_X12_250, List.forall_mem_cons.mpr ⟨pk_X12_253, List.forall_mem_cons.mpr ⟨pk_X12_256, List.forall_mem_cons.mpr ⟨pk_X12_259, List.forall_mem_cons.mpr ⟨pk_X12_262, List.forall_mem_cons.mpr ⟨pk_X12_265, List.forall_mem_cons.mpr ⟨pk_X12_268, List.forall_mem_cons.mpr ⟨pk_X12_272, List.forall_mem_cons.mpr ⟨pk_X12_275, List.forall_mem_cons.mpr ⟨pk_X12_278, List.forall_mem_cons.mpr ⟨pk_X12_281, List.forall_mem_cons.mpr ⟨pk_X12_284, List.forall_mem_cons.mpr ⟨pk_X12_288, List.forall_mem_cons.mpr ⟨pk_X12_291, List.forall_mem_cons.mpr ⟨pk_X12_294, List.forall_mem_cons.mpr ⟨pk_X12_297, List.forall_mem_cons.mpr ⟨pk_X12_300, List.forall_mem_cons.mpr ⟨pk_X12_303, List.forall_mem_cons.mpr ⟨pk_X12_306, List.forall_mem_cons.mpr ⟨pk_X12_310, List.forall_mem_cons.mpr ⟨pk_X12_313, List.forall_mem_cons.mpr ⟨pk_X12_316, List.forall_mem_cons.mpr ⟨pk_X12_319, List.forall_mem_cons.mpr ⟨pk_X12_322, List.forall_mem_cons.mpr ⟨pk_X12_326, List.forall_mem_cons.mpr ⟨pk_X12_329, List.forall_mem_cons.mpr ⟨pk_X12_331, List.forall_mem_cons.mpr ⟨pk_X12_334, List.forall_mem_cons.mpr ⟨pk_X12_337, List.forall_mem_cons.mpr ⟨pk_X12_340, List.forall_mem_cons.mpr ⟨pk_X12_343, List.forall_mem_cons.mpr ⟨pk_X12_346, List.forall_mem_cons.mpr ⟨pk_X12_349, List.forall_mem_cons.mpr ⟨pk_X12_352, List.forall_mem_cons.mpr ⟨pk_X12_355, List.forall_mem_cons.mpr ⟨pk_X12_358, List.forall_mem_cons.mpr ⟨pk_X12_361, List.forall_mem_cons.mpr ⟨pk_X12_364, List.forall_mem_cons.mpr ⟨pk_X12_367, List.forall_mem_cons.mpr ⟨pk_X12_370, List.forall_mem_cons.mpr ⟨pk_X12_373, List.forall_mem_cons.mpr ⟨pk_X12_376, List.forall_mem_cons.mpr ⟨pk_X12_379, List.forall_mem_cons.mpr ⟨pk_X12_383, List.forall_mem_cons.mpr ⟨pk_X12_387, List.forall_mem_cons.mpr ⟨pk_X12_391, List.forall_mem_cons.mpr ⟨pk_X12_394, List.forall_mem_cons.mpr ⟨pk_X12_397, List.forall_mem_cons.mpr ⟨pk_X12_400, List.forall_mem_cons.mpr ⟨pk_X12_403, List.forall_mem_cons.mpr ⟨pk_X12_406, List.forall_mem_cons.mpr ⟨pk_X12_409, List.forall_mem_cons.mpr ⟨pk_X12_412, List.forall_mem_cons.mpr ⟨pk_X12_415, List.forall_mem_cons.mpr ⟨pk_X12_416, List.forall_mem_cons.mpr ⟨pk_X12_419, List.forall_mem_cons.mpr ⟨pk_X12_422, List.forall_mem_cons.mpr ⟨pk_X12_425, List.forall_mem_cons.mpr ⟨pk_X12_428, List.forall_mem_cons.mpr ⟨pk_X12_431, List.forall_mem_cons.mpr ⟨pk_X12_434, List.forall_mem_cons.mpr ⟨pk_X12_437, List.forall_mem_cons.mpr ⟨pk_X12_441, List.forall_mem_cons.mpr ⟨pk_X12_444, List.forall_mem_cons.mpr ⟨pk_X12_447, List.forall_mem_cons.mpr ⟨pk_X12_450, List.forall_mem_cons.mpr ⟨pk_X12_453, List.forall_mem_cons.mpr ⟨pk_X12_457, List.forall_mem_cons.mpr ⟨pk_X12_460, List.forall_mem_cons.mpr ⟨pk_X12_463, List.forall_mem_cons.mpr ⟨pk_X12_466, List.forall_mem_cons.mpr ⟨pk_X12_469, List.forall_mem_cons.mpr ⟨pk_X12_472, List.forall_mem_cons.mpr ⟨pk_X12_475, List.forall_mem_cons.mpr ⟨pk_X12_478, List.forall_mem_cons.mpr ⟨pk_X12_481, List.forall_mem_cons.mpr ⟨pk_X12_484, List.forall_mem_cons.mpr ⟨pk_X12_485, List.forall_mem_cons.mpr ⟨pk_X12_488, List.forall_mem_cons.mpr ⟨pk_X12_491, List.forall_mem_cons.mpr ⟨pk_X12_494, List.forall_mem_cons.mpr ⟨pk_X12_497, List.forall_mem_cons.mpr ⟨pk_X12_500, List.forall_mem_cons.mpr ⟨pk_X12_503, List.forall_mem_cons.mpr ⟨pk_X12_506, List.forall_mem_cons.mpr ⟨pk_X12_509, List.forall_mem_cons.mpr ⟨pk_X12_512, List.forall_mem_cons.mpr ⟨pk_X12_515, List.forall_mem_cons.mpr ⟨pk_X12_518, List.forall_mem_cons.mpr ⟨pk_X12_521, List.forall_mem_cons.mpr ⟨pk_X12_524, List.forall_mem_cons.mpr ⟨pk_X12_527, List.forall_mem_cons.mpr ⟨pk_X12_530, List.forall_mem_cons.mpr ⟨pk_X12_533, List.forall_mem_cons.mpr ⟨pk_X12_536, List.forall_mem_cons.mpr ⟨pk_X12_539, List.forall_mem_cons.mpr ⟨pk_X12_542, List.forall_mem_cons.mpr ⟨pk_X12_545, List.forall_mem_cons.mpr ⟨pk_X12_548, List.forall_mem_cons.mpr ⟨pk_X12_551, List.forall_mem_cons.mpr ⟨pk_X12_554, List.forall_mem_cons.mpr ⟨pk_X12_557, List.forall_mem_cons.mpr ⟨pk_X12_560, List.forall_mem_cons.mpr ⟨pk_X12_563, List.forall_mem_cons.mpr ⟨pk_X12_566, List.forall_mem_cons.mpr ⟨pk_X12_569, List.forall_mem_cons.mpr ⟨pk_X12_572, List.forall_mem_cons.mpr ⟨pk_X12_575, fun _ h => absurd h List.not_mem_nil⟩⟩⟩⟩⟩⟩⟩⟩⟩⟩⟩⟩⟩⟩⟩⟩⟩⟩⟩⟩⟩⟩⟩⟩⟩⟩⟩⟩⟩⟩⟩⟩⟩⟩⟩⟩⟩⟩⟩⟩⟩⟩⟩⟩⟩⟩⟩⟩⟩⟩⟩⟩⟩⟩⟩⟩⟩⟩⟩⟩⟩⟩⟩⟩⟩⟩⟩⟩⟩⟩⟩⟩⟩⟩⟩⟩⟩⟩⟩⟩⟩⟩⟩⟩⟩⟩⟩⟩⟩⟩⟩⟩⟩⟩⟩⟩⟩⟩⟩⟩⟩⟩⟩⟩⟩⟩⟩⟩⟩⟩⟩⟩⟩⟩⟩⟩⟩⟩⟩⟩⟩⟩⟩⟩⟩⟩⟩⟩⟩⟩⟩⟩⟩⟩⟩⟩⟩⟩⟩⟩⟩⟩⟩⟩⟩⟩⟩⟩⟩⟩⟩⟩⟩⟩⟩⟩⟩⟩⟩⟩⟩⟩⟩⟩⟩⟩⟩⟩⟩⟩⟩⟩⟩⟩⟩⟩⟩⟩⟩⟩⟩⟩⟩⟩⟩⟩⟩⟩⟩⟩⟩⟩⟩⟩
set_option maxRecDepth 100000 in
theorem pk_J6_265 : bpok TW cls_ MT RJ6 265 (.inr (.inr (.inl (1431655765)))) := (TW_mk (tl_5 _ (List.mem_of_getElem? (i := 122) rfl)) rfl)
set_option maxRecDepth 100000 in
theorem pk_J6_266 : bpok TW cls_ MT RJ6 266 (.inr (.inr (.inl (858993459)))) := (TW_mk (tl_5 _ (List.mem_of_getElem? (i := 123) rfl)) rfl)
set_option maxRecDepth 100000 in
theorem pk_J6_267 : bpok TW cls_ MT RJ6 267 (.inr (.inr (.inl (252645135)))) := (TW_mk (tl_5 _ (List.mem_of_getElem? (i := 124) rfl)) rfl)
set_option maxRecDepth 100000 in
theorem pk_J6 : ∀ q ∈ pool_J6, bpok TW cls_ MT RJ6 q.1 q.2 := List.forall_mem_cons.mpr ⟨pk_J6_265, List.forall_mem_cons.mpr ⟨pk_J6_266, List.forall_mem_cons.mpr ⟨pk_J6_267, fun _ h => absurd h List.not_mem_nil⟩⟩⟩
set_option maxRecDepth 100000 in
theorem pk_J9 : ∀ q ∈ pool_J9, bpok TW cls_ MT RJ9 q.1 q.2 := fun _ h => absurd h List.not_mem_nil
set_option maxRecDepth 100000 in
theorem pk_J7 : ∀ q ∈ pool_J7, bpok TW cls_ MT RJ7 q.1 q.2 := fun _ h => absurd h List.not_mem_nil
