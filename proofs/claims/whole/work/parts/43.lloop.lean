theorem lw_and63 (x : Int32) : 0 ≤ (x &&& 63).toInt ∧ (x &&& 63).toInt ≤ 63 := by
  have h : (x &&& 63).toBitVec.toNat ≤ 63 := by
    show (x.toBitVec &&& 63#32).toNat ≤ 63
    rw [BitVec.toNat_and]
    exact Nat.and_le_right
  have e : (x &&& 63).toInt = ((x &&& 63).toBitVec.toNat : Int) := by
    show (x &&& 63).toBitVec.toInt = _
    rw [BitVec.toInt_eq_toNat_of_lt (by omega)]
  rw [e]
  omega
def SimAll (Rel : Nat → bS → bS → Prop) : Prop := ∀ (i : Nat) (σC σM : bS), i + 6 ≤ 3072 → Rel i σC σM → (Rel (i + 6) σC σM) ∧ (∀ x1 x2 x3 x4 x5 : Int32, Sim_feed (Rel (i + 6)) x1 x2 x3 x4 x5 σC σM) ∧ (∀ x1 : Int32, Sim_back (Rel (i + 6)) x1 σC σM) ∧ (Sim_read (Rel (i + 6)) σC σM) ∧ (Sim_place (Rel (i + 6)) σC σM) ∧ (∀ x1 : Int32, Sim_bank (Rel (i + 6)) x1 σC σM) ∧ (∀ x1 x2 : Int32, Sim_bridge (Rel (i + 6)) x1 x2 σC σM) ∧ (∀ x1 x2 : Int32, Sim_man (Rel (i + 6)) x1 x2 σC σM) ∧ (∀ x1 x2 : Int32, Sim_wish (Rel (i + 6)) x1 x2 σC σM) ∧ (∀ x1 x2 : Int32, Sim_toll (Rel (i + 6)) x1 x2 σC σM) ∧ (∀ x1 x2 : Int32, Sim_cross (Rel (i + 6)) x1 x2 σC σM) ∧ (∀ x1 x2 x3 : Int32, Sim_pair (Rel (i + 6)) x1 x2 x3 σC σM) ∧ (∀ x1 x2 : Int32, Sim_hire (Rel (i + 6)) x1 x2 σC σM) ∧ (∀ x1 x2 : Int32, Sim_walk (Rel (i + 6)) x1 x2 σC σM) ∧ (∀ x1 : Int32, Sim_hours (Rel (i + 6)) x1 σC σM) ∧ (∀ x1 : Int32, Sim_rule (Rel (i + 6)) x1 σC σM) ∧ (Sim_undo (Rel (i + 6)) σC σM) ∧ (Sim_homes (Rel (i + 6)) σC σM) ∧ (∀ x1 x2 : Int32, Sim_where (Rel (i + 6)) x1 x2 σC σM) ∧ (∀ x1 x2 : Int32, Sim_last (Rel (i + 6)) x1 x2 σC σM) ∧ (∀ x1 : Int32, Sim_coins (Rel (i + 6)) x1 σC σM) ∧ (∀ x1 : Int32, Sim_homeBy (Rel (i + 6)) x1 σC σM) ∧ (Sim_allHome (Rel (i + 6)) σC σM) ∧ (∀ x1 x2 x3 : Int32, Sim_odds (Rel (i + 6)) x1 x2 x3 σC σM) ∧ (∀ x1 x2 : Int32, Sim_waiting (Rel (i + 6)) x1 x2 σC σM) ∧ (∀ x1 x2 : Int32, Sim_follow (Rel (i + 6)) x1 x2 σC σM) ∧ (∀ x1 x2 x3 : Int32, Sim_way (Rel (i + 6)) x1 x2 x3 σC σM) ∧ (∀ x1 x2 : Int32, Sim_reach (Rel (i + 6)) x1 x2 σC σM) ∧ (∀ x1 x2 : Int32, Sim_orders (Rel (i + 6)) x1 x2 σC σM) ∧ (∀ x1 x2 x3 : Int32, Sim_orderAt (Rel (i + 6)) x1 x2 x3 σC σM) ∧ (∀ x1 x2 : Int32, Sim_wishers (Rel (i + 6)) x1 x2 σC σM) ∧ (∀ x1 x2 x3 : Int32, Sim_wisherAt (Rel (i + 6)) x1 x2 x3 σC σM) ∧ (∀ x1 x2 x3 : Int32, Sim_rings (Rel (i + 6)) x1 x2 x3 σC σM) ∧ (∀ x1 x2 x3 x4 : Int32, Sim_gain (Rel (i + 6)) x1 x2 x3 x4 σC σM) ∧ (∀ x1 x2 x3 : Int32, Sim_worth (Rel (i + 6)) x1 x2 x3 σC σM) ∧ (∀ x1 x2 x3 : Int32, Sim_rests (Rel (i + 6)) x1 x2 x3 σC σM) ∧ (∀ x1 x2 x3 : Int32, x3 = 0 ∨ x3 = 1 → Sim_best (Rel (i + 6)) x1 x2 x3 σC σM) ∧ (∀ x1 x2 x3 x4 : Int32, Sim_prices (Rel (i + 6)) x1 x2 x3 x4 σC σM) ∧ (∀ x1 x2 : Int32, Sim_see (Rel (i + 6)) x1 x2 σC σM) ∧ (∀ x1 x2 : Int32, Sim_say (Rel (i + 6)) x1 x2 σC σM) ∧ (Sim_forget (Rel (i + 6)) σC σM) ∧ (∀ x1 : Int32, Sim_fits (Rel (i + 6)) x1 σC σM) ∧ (∀ x1 x2 : Int32, Sim_sure (Rel (i + 6)) x1 x2 σC σM) ∧ (∀ x1 : Int32, Sim_trust (Rel (i + 6)) x1 σC σM) ∧ (∀ x1 : Int32, Sim_hold (Rel (i + 6)) x1 σC σM) ∧ (∀ x1 : Int32, Sim_restore (Rel (i + 6)) x1 σC σM) ∧ (∀ x1 : Int32, Sim_count (Rel (i + 6)) x1 σC σM)
set_option maxRecDepth 100000 in
set_option maxHeartbeats 8000000 in
theorem law_loop {p : Program} {l : Launch} {e : Env} {s : State} {m : MethodId} {below : List Frame} {meth : Method} {c : Code} {b L : Nat} {xs : Nat → Int32} {D : va_G} {cA : Nat → ClassId} {Rel : Nat → bS → bS → Prop} (hR : SimAll Rel) (hL : L ≤ 3072) (C0 : lw_At p s m meth c b L xs) (hK : va_K D cls_ (btys cA) s) : ∀ (k i : Nat), L < i + 6 * k → i ≤ L → ∀ (adC adM : Nat → Nat) (re : Nat) (rf rg : Value) (σC σM : bS) (H : Heap) (locs : List Loc) (ls : Array Slot), Rel i σC σM → lv_has ls 4 [(0, .ref b), (1, .ref (adC 0)), (2, .ref (adM 0)), (3, .int (nI i))] → va_P D cls_ (bws adC cA (mkC 1 14 1 re rf rg σC) ++ bws adM cA (mkM σM)) H → va_D (lwA s) (bws adC cA (mkC 1 14 1 re rf rg σC) ++ bws adM cA (mkM σM)) → va_S (lwA s) s.heap H locs → W p l e room_1 s m #[Value.ref b] below meth c H locs 130 28792 (lw_Z below #[Value.ref b] s) (F0 m 18 ls []) := by
  obtain ⟨hx, hb, hr, hml, hown, hts, hX, hbl, hlocks, hgv⟩ := id C0
  intro k
  induction k with
  | zero => intro i h1 h2; omega
  | succ k ih =>
    intro i h1 h2 adC adM re rf rg σC σM H locs ls hrel hl hP hD hS
    refine lv_iload_n hx hb (lwd_0 (18, .iload_n 3, 1) (List.mem_of_getElem? (i := 10) rfl)) rfl (lv_at hl 3 rfl) ?_
    refine lv_aload_n hx hb (lwd_0 (19, .aload_n 0, 1) (List.mem_of_getElem? (i := 11) rfl)) rfl (lv_at hl 0 rfl) ?_
    refine va_slen hx hb hX hbl (Nat.not_le.mpr hbl) hS (lwd_0 (20, .arraylength, 1) (List.mem_of_getElem? (i := 12) rfl)) ?_
    refine lv_bipush (v := 6) hx hb (lwd_0 (21, .bipush 6, 2) (List.mem_of_getElem? (i := 13) rfl)) (by decide) ?_
    refine lv_isub hx hb (lwd_0 (23, .isub, 1) (List.mem_of_getElem? (i := 14) rfl)) ?_
    have hsub : (Int32.ofNat L - 6).toInt = (L : Int) - 6 := by
      rw [Int32.toInt_sub, show (Int32.ofNat L).toInt = (L : Int) from nI_toInt (n := L) (by omega), show (6 : Int32).toInt = 6 from by decide]
      rw [Int.bmod_eq_of_le] <;> omega
    have hii : (nI i).toInt = (i : Int) := nI_toInt (by omega)
    refine lv_icmp_gt (tgt := 1702) hx hb (lwd_0 (24, .if_icmp .gt 1678, 3) (List.mem_of_getElem? (i := 15) rfl)) (by decide) (fun hc => ?_) (fun hc => ?_)
    · refine lv_iconst (v := 1) hx hb (lwd_25 (1702, .iconst 1, 1) (List.mem_of_getElem? (i := 4) rfl)) (by decide) ?_
      refine va_forget (fun q hq => hS.2.2 q hq) ?_
      exact lw_ret hx hb hr hlocks (lwd_25 (1703, .ireturn, 1) (List.mem_of_getElem? (i := 5) rfl))
    · have hi : i + 6 ≤ L := by
        have hz : ¬ (Int32.ofNat L - 6).toInt < (nI i).toInt := fun z => hc (Int32.lt_iff_toInt_lt.mpr z)
        omega
      refine lv_aload_n hx hb (lwd_0 (27, .aload_n 0, 1) (List.mem_of_getElem? (i := 16) rfl)) rfl (lv_at hl 0 rfl) ?_
      refine lv_iload_n hx hb (lwd_0 (28, .iload_n 3, 1) (List.mem_of_getElem? (i := 17) rfl)) rfl (lv_at hl 3 rfl) ?_
      refine va_sld hx hb hX hbl (Nat.not_le.mpr hbl) hS (vp_in_nI (by omega) (by omega)) (lwd_0 (29, .iaload, 1) (List.mem_of_getElem? (i := 18) rfl)) ?_
      refine lv_bipush (v := 63) hx hb (lwd_0 (30, .bipush 63, 2) (List.mem_of_getElem? (i := 19) rfl)) (by decide) ?_
      refine lv_iand hx hb (lwd_0 (32, .iand, 1) (List.mem_of_getElem? (i := 20) rfl)) ?_
      generalize xs (nI i).toNatClampNeg = x0
      have hx0 : 0 ≤ (x0 &&& 63).toInt ∧ (x0 &&& 63).toInt ≤ 63 := lw_and63 x0
      generalize x0 &&& 63 = x at hx0 ⊢
      have hall := hR i σC σM (by omega) hrel
      have kk : lwK p l e s m below meth c b (lw_Z below #[Value.ref b] s) D cA ls (adC 0) adM (Rel (i + 6)) := by
        intro adC1 re1 rf1 rg1 σC1 σM1 H1 locs1 h0 hr1 hP1 hD1 hS1
        refine lv_iinc (v := nI (i + 6)) (lv' := [(3, .int (nI (i + 6))), (0, .ref b), (1, .ref (adC 0)), (2, .ref (adM 0))]) hx hb (lwd_25 (1696, .iinc 3 6, 3) (List.mem_of_getElem? (i := 2) rfl)) hl (k := 3) rfl (nI_add i 6) (by decide) rfl (fun ls hl => ?_)
        refine lv_goto (tgt := 18) hx hb (lwd_25 (1699, .goto (-1681), 3) (List.mem_of_getElem? (i := 3) rfl)) (by decide) ?_
        rw [← h0] at hl
        exact ih (i + 6) (by omega) (by omega) adC1 adM re1 rf1 rg1 σC1 σM1 H1 locs1 ls hr1 (lv_sub hl [1, 2, 3, 0] rfl) hP1 hD1 hS1
      by_cases h45 : 45 < x.toInt
      · refine lv_tableOut (tgt := 1696) hx hb (lwd_0 (33, .tableswitch 1663 0 45 #[199, 262, 285, 298, 311, 334, 367, 400, 433, 466, 499, 542, 575, 608, 631, 654, 667, 680, 713, 746, 769, 792, 805, 848, 881, 914, 957, 990, 1023, 1066, 1099, 1142, 1185, 1238, 1281, 1324, 1383, 1436, 1469, 1502, 1515, 1538, 1571, 1594, 1617, 1640], 199) (List.mem_of_getElem? (i := 21) rfl)) (Or.inr h45) (by decide) ?_
        exact kk adC re rf rg σC σM H locs rfl hall.1 hP hD hS
      · obtain ⟨v, hv, hv2⟩ : ∃ v : Nat, v < 46 ∧ x.toInt = (v : Int) := ⟨x.toInt.toNat, by omega, by omega⟩
        match v, hv, hv2 with
        | 0, _, hv2 =>
          refine lv_tableIn (off := 199) (tgt := 232) hx hb (lwd_0 (33, .tableswitch 1663 0 45 #[199, 262, 285, 298, 311, 334, 367, 400, 433, 466, 499, 542, 575, 608, 631, 654, 667, 680, 713, 746, 769, 792, 805, 848, 881, 914, 957, 990, 1023, 1066, 1099, 1142, 1185, 1238, 1281, 1324, 1383, 1436, 1469, 1502, 1515, 1538, 1571, 1594, 1617, 1640], 199) (List.mem_of_getElem? (i := 21) rfl)) (by rw [hv2]; decide) (by rw [hv2]; decide) (by rw [hv2]; rfl) (by decide) ?_
          exact law_feed (Rel := Rel (i + 6)) hL C0 hK hi hl hP hD hS (hall.2.1 _ _ _ _ _) kk
        | 1, _, hv2 =>
          refine lv_tableIn (off := 262) (tgt := 295) hx hb (lwd_0 (33, .tableswitch 1663 0 45 #[199, 262, 285, 298, 311, 334, 367, 400, 433, 466, 499, 542, 575, 608, 631, 654, 667, 680, 713, 746, 769, 792, 805, 848, 881, 914, 957, 990, 1023, 1066, 1099, 1142, 1185, 1238, 1281, 1324, 1383, 1436, 1469, 1502, 1515, 1538, 1571, 1594, 1617, 1640], 199) (List.mem_of_getElem? (i := 21) rfl)) (by rw [hv2]; decide) (by rw [hv2]; decide) (by rw [hv2]; rfl) (by decide) ?_
          exact law_back (Rel := Rel (i + 6)) hL C0 hK hi hl hP hD hS (hall.2.2.1 _) kk
        | 2, _, hv2 =>
          refine lv_tableIn (off := 285) (tgt := 318) hx hb (lwd_0 (33, .tableswitch 1663 0 45 #[199, 262, 285, 298, 311, 334, 367, 400, 433, 466, 499, 542, 575, 608, 631, 654, 667, 680, 713, 746, 769, 792, 805, 848, 881, 914, 957, 990, 1023, 1066, 1099, 1142, 1185, 1238, 1281, 1324, 1383, 1436, 1469, 1502, 1515, 1538, 1571, 1594, 1617, 1640], 199) (List.mem_of_getElem? (i := 21) rfl)) (by rw [hv2]; decide) (by rw [hv2]; decide) (by rw [hv2]; rfl) (by decide) ?_
          exact law_read (Rel := Rel (i + 6)) hL C0 hK hi hl hP hD hS hall.2.2.2.1 kk
        | 3, _, hv2 =>
          refine lv_tableIn (off := 298) (tgt := 331) hx hb (lwd_0 (33, .tableswitch 1663 0 45 #[199, 262, 285, 298, 311, 334, 367, 400, 433, 466, 499, 542, 575, 608, 631, 654, 667, 680, 713, 746, 769, 792, 805, 848, 881, 914, 957, 990, 1023, 1066, 1099, 1142, 1185, 1238, 1281, 1324, 1383, 1436, 1469, 1502, 1515, 1538, 1571, 1594, 1617, 1640], 199) (List.mem_of_getElem? (i := 21) rfl)) (by rw [hv2]; decide) (by rw [hv2]; decide) (by rw [hv2]; rfl) (by decide) ?_
          exact law_place (Rel := Rel (i + 6)) hL C0 hK hi hl hP hD hS hall.2.2.2.2.1 kk
        | 4, _, hv2 =>
          refine lv_tableIn (off := 311) (tgt := 344) hx hb (lwd_0 (33, .tableswitch 1663 0 45 #[199, 262, 285, 298, 311, 334, 367, 400, 433, 466, 499, 542, 575, 608, 631, 654, 667, 680, 713, 746, 769, 792, 805, 848, 881, 914, 957, 990, 1023, 1066, 1099, 1142, 1185, 1238, 1281, 1324, 1383, 1436, 1469, 1502, 1515, 1538, 1571, 1594, 1617, 1640], 199) (List.mem_of_getElem? (i := 21) rfl)) (by rw [hv2]; decide) (by rw [hv2]; decide) (by rw [hv2]; rfl) (by decide) ?_
          exact law_bank (Rel := Rel (i + 6)) hL C0 hK hi hl hP hD hS (hall.2.2.2.2.2.1 _) kk
        | 5, _, hv2 =>
          refine lv_tableIn (off := 334) (tgt := 367) hx hb (lwd_0 (33, .tableswitch 1663 0 45 #[199, 262, 285, 298, 311, 334, 367, 400, 433, 466, 499, 542, 575, 608, 631, 654, 667, 680, 713, 746, 769, 792, 805, 848, 881, 914, 957, 990, 1023, 1066, 1099, 1142, 1185, 1238, 1281, 1324, 1383, 1436, 1469, 1502, 1515, 1538, 1571, 1594, 1617, 1640], 199) (List.mem_of_getElem? (i := 21) rfl)) (by rw [hv2]; decide) (by rw [hv2]; decide) (by rw [hv2]; rfl) (by decide) ?_
          exact law_bridge (Rel := Rel (i + 6)) hL C0 hK hi hl hP hD hS (hall.2.2.2.2.2.2.1 _ _) kk
        | 6, _, hv2 =>
          refine lv_tableIn (off := 367) (tgt := 400) hx hb (lwd_0 (33, .tableswitch 1663 0 45 #[199, 262, 285, 298, 311, 334, 367, 400, 433, 466, 499, 542, 575, 608, 631, 654, 667, 680, 713, 746, 769, 792, 805, 848, 881, 914, 957, 990, 1023, 1066, 1099, 1142, 1185, 1238, 1281, 1324, 1383, 1436, 1469, 1502, 1515, 1538, 1571, 1594, 1617, 1640], 199) (List.mem_of_getElem? (i := 21) rfl)) (by rw [hv2]; decide) (by rw [hv2]; decide) (by rw [hv2]; rfl) (by decide) ?_
          exact law_man (Rel := Rel (i + 6)) hL C0 hK hi hl hP hD hS (hall.2.2.2.2.2.2.2.1 _ _) kk
        | 7, _, hv2 =>
          refine lv_tableIn (off := 400) (tgt := 433) hx hb (lwd_0 (33, .tableswitch 1663 0 45 #[199, 262, 285, 298, 311, 334, 367, 400, 433, 466, 499, 542, 575, 608, 631, 654, 667, 680, 713, 746, 769, 792, 805, 848, 881, 914, 957, 990, 1023, 1066, 1099, 1142, 1185, 1238, 1281, 1324, 1383, 1436, 1469, 1502, 1515, 1538, 1571, 1594, 1617, 1640], 199) (List.mem_of_getElem? (i := 21) rfl)) (by rw [hv2]; decide) (by rw [hv2]; decide) (by rw [hv2]; rfl) (by decide) ?_
          exact law_wish (Rel := Rel (i + 6)) hL C0 hK hi hl hP hD hS (hall.2.2.2.2.2.2.2.2.1 _ _) kk
        | 8, _, hv2 =>
          refine lv_tableIn (off := 433) (tgt := 466) hx hb (lwd_0 (33, .tableswitch 1663 0 45 #[199, 262, 285, 298, 311, 334, 367, 400, 433, 466, 499, 542, 575, 608, 631, 654, 667, 680, 713, 746, 769, 792, 805, 848, 881, 914, 957, 990, 1023, 1066, 1099, 1142, 1185, 1238, 1281, 1324, 1383, 1436, 1469, 1502, 1515, 1538, 1571, 1594, 1617, 1640], 199) (List.mem_of_getElem? (i := 21) rfl)) (by rw [hv2]; decide) (by rw [hv2]; decide) (by rw [hv2]; rfl) (by decide) ?_
          exact law_toll (Rel := Rel (i + 6)) hL C0 hK hi hl hP hD hS (hall.2.2.2.2.2.2.2.2.2.1 _ _) kk
        | 9, _, hv2 =>
          refine lv_tableIn (off := 466) (tgt := 499) hx hb (lwd_0 (33, .tableswitch 1663 0 45 #[199, 262, 285, 298, 311, 334, 367, 400, 433, 466, 499, 542, 575, 608, 631, 654, 667, 680, 713, 746, 769, 792, 805, 848, 881, 914, 957, 990, 1023, 1066, 1099, 1142, 1185, 1238, 1281, 1324, 1383, 1436, 1469, 1502, 1515, 1538, 1571, 1594, 1617, 1640], 199) (List.mem_of_getElem? (i := 21) rfl)) (by rw [hv2]; decide) (by rw [hv2]; decide) (by rw [hv2]; rfl) (by decide) ?_
          exact law_cross (Rel := Rel (i + 6)) hL C0 hK hi hl hP hD hS (hall.2.2.2.2.2.2.2.2.2.2.1 _ _) kk
        | 10, _, hv2 =>
          refine lv_tableIn (off := 499) (tgt := 532) hx hb (lwd_0 (33, .tableswitch 1663 0 45 #[199, 262, 285, 298, 311, 334, 367, 400, 433, 466, 499, 542, 575, 608, 631, 654, 667, 680, 713, 746, 769, 792, 805, 848, 881, 914, 957, 990, 1023, 1066, 1099, 1142, 1185, 1238, 1281, 1324, 1383, 1436, 1469, 1502, 1515, 1538, 1571, 1594, 1617, 1640], 199) (List.mem_of_getElem? (i := 21) rfl)) (by rw [hv2]; decide) (by rw [hv2]; decide) (by rw [hv2]; rfl) (by decide) ?_
          exact law_pair (Rel := Rel (i + 6)) hL C0 hK hi hl hP hD hS (hall.2.2.2.2.2.2.2.2.2.2.2.1 _ _ _) kk
        | 11, _, hv2 =>
          refine lv_tableIn (off := 542) (tgt := 575) hx hb (lwd_0 (33, .tableswitch 1663 0 45 #[199, 262, 285, 298, 311, 334, 367, 400, 433, 466, 499, 542, 575, 608, 631, 654, 667, 680, 713, 746, 769, 792, 805, 848, 881, 914, 957, 990, 1023, 1066, 1099, 1142, 1185, 1238, 1281, 1324, 1383, 1436, 1469, 1502, 1515, 1538, 1571, 1594, 1617, 1640], 199) (List.mem_of_getElem? (i := 21) rfl)) (by rw [hv2]; decide) (by rw [hv2]; decide) (by rw [hv2]; rfl) (by decide) ?_
          exact law_hire (Rel := Rel (i + 6)) hL C0 hK hi hl hP hD hS (hall.2.2.2.2.2.2.2.2.2.2.2.2.1 _ _) kk
        | 12, _, hv2 =>
          refine lv_tableIn (off := 575) (tgt := 608) hx hb (lwd_0 (33, .tableswitch 1663 0 45 #[199, 262, 285, 298, 311, 334, 367, 400, 433, 466, 499, 542, 575, 608, 631, 654, 667, 680, 713, 746, 769, 792, 805, 848, 881, 914, 957, 990, 1023, 1066, 1099, 1142, 1185, 1238, 1281, 1324, 1383, 1436, 1469, 1502, 1515, 1538, 1571, 1594, 1617, 1640], 199) (List.mem_of_getElem? (i := 21) rfl)) (by rw [hv2]; decide) (by rw [hv2]; decide) (by rw [hv2]; rfl) (by decide) ?_
          exact law_walk (Rel := Rel (i + 6)) hL C0 hK hi hl hP hD hS (hall.2.2.2.2.2.2.2.2.2.2.2.2.2.1 _ _) kk
        | 13, _, hv2 =>
          refine lv_tableIn (off := 608) (tgt := 641) hx hb (lwd_0 (33, .tableswitch 1663 0 45 #[199, 262, 285, 298, 311, 334, 367, 400, 433, 466, 499, 542, 575, 608, 631, 654, 667, 680, 713, 746, 769, 792, 805, 848, 881, 914, 957, 990, 1023, 1066, 1099, 1142, 1185, 1238, 1281, 1324, 1383, 1436, 1469, 1502, 1515, 1538, 1571, 1594, 1617, 1640], 199) (List.mem_of_getElem? (i := 21) rfl)) (by rw [hv2]; decide) (by rw [hv2]; decide) (by rw [hv2]; rfl) (by decide) ?_
          exact law_hours (Rel := Rel (i + 6)) hL C0 hK hi hl hP hD hS (hall.2.2.2.2.2.2.2.2.2.2.2.2.2.2.1 _) kk
        | 14, _, hv2 =>
          refine lv_tableIn (off := 631) (tgt := 664) hx hb (lwd_0 (33, .tableswitch 1663 0 45 #[199, 262, 285, 298, 311, 334, 367, 400, 433, 466, 499, 542, 575, 608, 631, 654, 667, 680, 713, 746, 769, 792, 805, 848, 881, 914, 957, 990, 1023, 1066, 1099, 1142, 1185, 1238, 1281, 1324, 1383, 1436, 1469, 1502, 1515, 1538, 1571, 1594, 1617, 1640], 199) (List.mem_of_getElem? (i := 21) rfl)) (by rw [hv2]; decide) (by rw [hv2]; decide) (by rw [hv2]; rfl) (by decide) ?_
          exact law_rule (Rel := Rel (i + 6)) hL C0 hK hi hl hP hD hS (hall.2.2.2.2.2.2.2.2.2.2.2.2.2.2.2.1 _) kk
        | 15, _, hv2 =>
          refine lv_tableIn (off := 654) (tgt := 687) hx hb (lwd_0 (33, .tableswitch 1663 0 45 #[199, 262, 285, 298, 311, 334, 367, 400, 433, 466, 499, 542, 575, 608, 631, 654, 667, 680, 713, 746, 769, 792, 805, 848, 881, 914, 957, 990, 1023, 1066, 1099, 1142, 1185, 1238, 1281, 1324, 1383, 1436, 1469, 1502, 1515, 1538, 1571, 1594, 1617, 1640], 199) (List.mem_of_getElem? (i := 21) rfl)) (by rw [hv2]; decide) (by rw [hv2]; decide) (by rw [hv2]; rfl) (by decide) ?_
          exact law_undo (Rel := Rel (i + 6)) hL C0 hK hi hl hP hD hS hall.2.2.2.2.2.2.2.2.2.2.2.2.2.2.2.2.1 kk
        | 16, _, hv2 =>
          refine lv_tableIn (off := 667) (tgt := 700) hx hb (lwd_0 (33, .tableswitch 1663 0 45 #[199, 262, 285, 298, 311, 334, 367, 400, 433, 466, 499, 542, 575, 608, 631, 654, 667, 680, 713, 746, 769, 792, 805, 848, 881, 914, 957, 990, 1023, 1066, 1099, 1142, 1185, 1238, 1281, 1324, 1383, 1436, 1469, 1502, 1515, 1538, 1571, 1594, 1617, 1640], 199) (List.mem_of_getElem? (i := 21) rfl)) (by rw [hv2]; decide) (by rw [hv2]; decide) (by rw [hv2]; rfl) (by decide) ?_
          exact law_homes (Rel := Rel (i + 6)) hL C0 hK hi hl hP hD hS hall.2.2.2.2.2.2.2.2.2.2.2.2.2.2.2.2.2.1 kk
        | 17, _, hv2 =>
          refine lv_tableIn (off := 680) (tgt := 713) hx hb (lwd_0 (33, .tableswitch 1663 0 45 #[199, 262, 285, 298, 311, 334, 367, 400, 433, 466, 499, 542, 575, 608, 631, 654, 667, 680, 713, 746, 769, 792, 805, 848, 881, 914, 957, 990, 1023, 1066, 1099, 1142, 1185, 1238, 1281, 1324, 1383, 1436, 1469, 1502, 1515, 1538, 1571, 1594, 1617, 1640], 199) (List.mem_of_getElem? (i := 21) rfl)) (by rw [hv2]; decide) (by rw [hv2]; decide) (by rw [hv2]; rfl) (by decide) ?_
          exact law_where (Rel := Rel (i + 6)) hL C0 hK hi hl hP hD hS (hall.2.2.2.2.2.2.2.2.2.2.2.2.2.2.2.2.2.2.1 _ _) kk
        | 18, _, hv2 =>
          refine lv_tableIn (off := 713) (tgt := 746) hx hb (lwd_0 (33, .tableswitch 1663 0 45 #[199, 262, 285, 298, 311, 334, 367, 400, 433, 466, 499, 542, 575, 608, 631, 654, 667, 680, 713, 746, 769, 792, 805, 848, 881, 914, 957, 990, 1023, 1066, 1099, 1142, 1185, 1238, 1281, 1324, 1383, 1436, 1469, 1502, 1515, 1538, 1571, 1594, 1617, 1640], 199) (List.mem_of_getElem? (i := 21) rfl)) (by rw [hv2]; decide) (by rw [hv2]; decide) (by rw [hv2]; rfl) (by decide) ?_
          exact law_last (Rel := Rel (i + 6)) hL C0 hK hi hl hP hD hS (hall.2.2.2.2.2.2.2.2.2.2.2.2.2.2.2.2.2.2.2.1 _ _) kk
        | 19, _, hv2 =>
          refine lv_tableIn (off := 746) (tgt := 779) hx hb (lwd_0 (33, .tableswitch 1663 0 45 #[199, 262, 285, 298, 311, 334, 367, 400, 433, 466, 499, 542, 575, 608, 631, 654, 667, 680, 713, 746, 769, 792, 805, 848, 881, 914, 957, 990, 1023, 1066, 1099, 1142, 1185, 1238, 1281, 1324, 1383, 1436, 1469, 1502, 1515, 1538, 1571, 1594, 1617, 1640], 199) (List.mem_of_getElem? (i := 21) rfl)) (by rw [hv2]; decide) (by rw [hv2]; decide) (by rw [hv2]; rfl) (by decide) ?_
          exact law_coins (Rel := Rel (i + 6)) hL C0 hK hi hl hP hD hS (hall.2.2.2.2.2.2.2.2.2.2.2.2.2.2.2.2.2.2.2.2.1 _) kk
        | 20, _, hv2 =>
          refine lv_tableIn (off := 769) (tgt := 802) hx hb (lwd_0 (33, .tableswitch 1663 0 45 #[199, 262, 285, 298, 311, 334, 367, 400, 433, 466, 499, 542, 575, 608, 631, 654, 667, 680, 713, 746, 769, 792, 805, 848, 881, 914, 957, 990, 1023, 1066, 1099, 1142, 1185, 1238, 1281, 1324, 1383, 1436, 1469, 1502, 1515, 1538, 1571, 1594, 1617, 1640], 199) (List.mem_of_getElem? (i := 21) rfl)) (by rw [hv2]; decide) (by rw [hv2]; decide) (by rw [hv2]; rfl) (by decide) ?_
          exact law_homeBy (Rel := Rel (i + 6)) hL C0 hK hi hl hP hD hS (hall.2.2.2.2.2.2.2.2.2.2.2.2.2.2.2.2.2.2.2.2.2.1 _) kk
        | 21, _, hv2 =>
          refine lv_tableIn (off := 792) (tgt := 825) hx hb (lwd_0 (33, .tableswitch 1663 0 45 #[199, 262, 285, 298, 311, 334, 367, 400, 433, 466, 499, 542, 575, 608, 631, 654, 667, 680, 713, 746, 769, 792, 805, 848, 881, 914, 957, 990, 1023, 1066, 1099, 1142, 1185, 1238, 1281, 1324, 1383, 1436, 1469, 1502, 1515, 1538, 1571, 1594, 1617, 1640], 199) (List.mem_of_getElem? (i := 21) rfl)) (by rw [hv2]; decide) (by rw [hv2]; decide) (by rw [hv2]; rfl) (by decide) ?_
          exact law_allHome (Rel := Rel (i + 6)) hL C0 hK hi hl hP hD hS hall.2.2.2.2.2.2.2.2.2.2.2.2.2.2.2.2.2.2.2.2.2.2.1 kk
        | 22, _, hv2 =>
          refine lv_tableIn (off := 805) (tgt := 838) hx hb (lwd_0 (33, .tableswitch 1663 0 45 #[199, 262, 285, 298, 311, 334, 367, 400, 433, 466, 499, 542, 575, 608, 631, 654, 667, 680, 713, 746, 769, 792, 805, 848, 881, 914, 957, 990, 1023, 1066, 1099, 1142, 1185, 1238, 1281, 1324, 1383, 1436, 1469, 1502, 1515, 1538, 1571, 1594, 1617, 1640], 199) (List.mem_of_getElem? (i := 21) rfl)) (by rw [hv2]; decide) (by rw [hv2]; decide) (by rw [hv2]; rfl) (by decide) ?_
          exact law_odds (Rel := Rel (i + 6)) hL C0 hK hi hl hP hD hS (hall.2.2.2.2.2.2.2.2.2.2.2.2.2.2.2.2.2.2.2.2.2.2.2.1 _ _ _) kk
        | 23, _, hv2 =>
          refine lv_tableIn (off := 848) (tgt := 881) hx hb (lwd_0 (33, .tableswitch 1663 0 45 #[199, 262, 285, 298, 311, 334, 367, 400, 433, 466, 499, 542, 575, 608, 631, 654, 667, 680, 713, 746, 769, 792, 805, 848, 881, 914, 957, 990, 1023, 1066, 1099, 1142, 1185, 1238, 1281, 1324, 1383, 1436, 1469, 1502, 1515, 1538, 1571, 1594, 1617, 1640], 199) (List.mem_of_getElem? (i := 21) rfl)) (by rw [hv2]; decide) (by rw [hv2]; decide) (by rw [hv2]; rfl) (by decide) ?_
          exact law_waiting (Rel := Rel (i + 6)) hL C0 hK hi hl hP hD hS (hall.2.2.2.2.2.2.2.2.2.2.2.2.2.2.2.2.2.2.2.2.2.2.2.2.1 _ _) kk
        | 24, _, hv2 =>
          refine lv_tableIn (off := 881) (tgt := 914) hx hb (lwd_0 (33, .tableswitch 1663 0 45 #[199, 262, 285, 298, 311, 334, 367, 400, 433, 466, 499, 542, 575, 608, 631, 654, 667, 680, 713, 746, 769, 792, 805, 848, 881, 914, 957, 990, 1023, 1066, 1099, 1142, 1185, 1238, 1281, 1324, 1383, 1436, 1469, 1502, 1515, 1538, 1571, 1594, 1617, 1640], 199) (List.mem_of_getElem? (i := 21) rfl)) (by rw [hv2]; decide) (by rw [hv2]; decide) (by rw [hv2]; rfl) (by decide) ?_
          exact law_follow (Rel := Rel (i + 6)) hL C0 hK hi hl hP hD hS (hall.2.2.2.2.2.2.2.2.2.2.2.2.2.2.2.2.2.2.2.2.2.2.2.2.2.1 _ _) kk
        | 25, _, hv2 =>
          refine lv_tableIn (off := 914) (tgt := 947) hx hb (lwd_0 (33, .tableswitch 1663 0 45 #[199, 262, 285, 298, 311, 334, 367, 400, 433, 466, 499, 542, 575, 608, 631, 654, 667, 680, 713, 746, 769, 792, 805, 848, 881, 914, 957, 990, 1023, 1066, 1099, 1142, 1185, 1238, 1281, 1324, 1383, 1436, 1469, 1502, 1515, 1538, 1571, 1594, 1617, 1640], 199) (List.mem_of_getElem? (i := 21) rfl)) (by rw [hv2]; decide) (by rw [hv2]; decide) (by rw [hv2]; rfl) (by decide) ?_
          exact law_way (Rel := Rel (i + 6)) hL C0 hK hi hl hP hD hS (hall.2.2.2.2.2.2.2.2.2.2.2.2.2.2.2.2.2.2.2.2.2.2.2.2.2.2.1 _ _ _) kk
        | 26, _, hv2 =>
          refine lv_tableIn (off := 957) (tgt := 990) hx hb (lwd_0 (33, .tableswitch 1663 0 45 #[199, 262, 285, 298, 311, 334, 367, 400, 433, 466, 499, 542, 575, 608, 631, 654, 667, 680, 713, 746, 769, 792, 805, 848, 881, 914, 957, 990, 1023, 1066, 1099, 1142, 1185, 1238, 1281, 1324, 1383, 1436, 1469, 1502, 1515, 1538, 1571, 1594, 1617, 1640], 199) (List.mem_of_getElem? (i := 21) rfl)) (by rw [hv2]; decide) (by rw [hv2]; decide) (by rw [hv2]; rfl) (by decide) ?_
          exact law_reach (Rel := Rel (i + 6)) hL C0 hK hi hl hP hD hS (hall.2.2.2.2.2.2.2.2.2.2.2.2.2.2.2.2.2.2.2.2.2.2.2.2.2.2.2.1 _ _) kk
        | 27, _, hv2 =>
          refine lv_tableIn (off := 990) (tgt := 1023) hx hb (lwd_0 (33, .tableswitch 1663 0 45 #[199, 262, 285, 298, 311, 334, 367, 400, 433, 466, 499, 542, 575, 608, 631, 654, 667, 680, 713, 746, 769, 792, 805, 848, 881, 914, 957, 990, 1023, 1066, 1099, 1142, 1185, 1238, 1281, 1324, 1383, 1436, 1469, 1502, 1515, 1538, 1571, 1594, 1617, 1640], 199) (List.mem_of_getElem? (i := 21) rfl)) (by rw [hv2]; decide) (by rw [hv2]; decide) (by rw [hv2]; rfl) (by decide) ?_
          exact law_orders (Rel := Rel (i + 6)) hL C0 hK hi hl hP hD hS (hall.2.2.2.2.2.2.2.2.2.2.2.2.2.2.2.2.2.2.2.2.2.2.2.2.2.2.2.2.1 _ _) kk
        | 28, _, hv2 =>
          refine lv_tableIn (off := 1023) (tgt := 1056) hx hb (lwd_0 (33, .tableswitch 1663 0 45 #[199, 262, 285, 298, 311, 334, 367, 400, 433, 466, 499, 542, 575, 608, 631, 654, 667, 680, 713, 746, 769, 792, 805, 848, 881, 914, 957, 990, 1023, 1066, 1099, 1142, 1185, 1238, 1281, 1324, 1383, 1436, 1469, 1502, 1515, 1538, 1571, 1594, 1617, 1640], 199) (List.mem_of_getElem? (i := 21) rfl)) (by rw [hv2]; decide) (by rw [hv2]; decide) (by rw [hv2]; rfl) (by decide) ?_
          exact law_orderAt (Rel := Rel (i + 6)) hL C0 hK hi hl hP hD hS (hall.2.2.2.2.2.2.2.2.2.2.2.2.2.2.2.2.2.2.2.2.2.2.2.2.2.2.2.2.2.1 _ _ _) kk
        | 29, _, hv2 =>
          refine lv_tableIn (off := 1066) (tgt := 1099) hx hb (lwd_0 (33, .tableswitch 1663 0 45 #[199, 262, 285, 298, 311, 334, 367, 400, 433, 466, 499, 542, 575, 608, 631, 654, 667, 680, 713, 746, 769, 792, 805, 848, 881, 914, 957, 990, 1023, 1066, 1099, 1142, 1185, 1238, 1281, 1324, 1383, 1436, 1469, 1502, 1515, 1538, 1571, 1594, 1617, 1640], 199) (List.mem_of_getElem? (i := 21) rfl)) (by rw [hv2]; decide) (by rw [hv2]; decide) (by rw [hv2]; rfl) (by decide) ?_
          exact law_wishers (Rel := Rel (i + 6)) hL C0 hK hi hl hP hD hS (hall.2.2.2.2.2.2.2.2.2.2.2.2.2.2.2.2.2.2.2.2.2.2.2.2.2.2.2.2.2.2.1 _ _) kk
        | 30, _, hv2 =>
          refine lv_tableIn (off := 1099) (tgt := 1132) hx hb (lwd_0 (33, .tableswitch 1663 0 45 #[199, 262, 285, 298, 311, 334, 367, 400, 433, 466, 499, 542, 575, 608, 631, 654, 667, 680, 713, 746, 769, 792, 805, 848, 881, 914, 957, 990, 1023, 1066, 1099, 1142, 1185, 1238, 1281, 1324, 1383, 1436, 1469, 1502, 1515, 1538, 1571, 1594, 1617, 1640], 199) (List.mem_of_getElem? (i := 21) rfl)) (by rw [hv2]; decide) (by rw [hv2]; decide) (by rw [hv2]; rfl) (by decide) ?_
          exact law_wisherAt (Rel := Rel (i + 6)) hL C0 hK hi hl hP hD hS (hall.2.2.2.2.2.2.2.2.2.2.2.2.2.2.2.2.2.2.2.2.2.2.2.2.2.2.2.2.2.2.2.1 _ _ _) kk
        | 31, _, hv2 =>
          refine lv_tableIn (off := 1142) (tgt := 1175) hx hb (lwd_0 (33, .tableswitch 1663 0 45 #[199, 262, 285, 298, 311, 334, 367, 400, 433, 466, 499, 542, 575, 608, 631, 654, 667, 680, 713, 746, 769, 792, 805, 848, 881, 914, 957, 990, 1023, 1066, 1099, 1142, 1185, 1238, 1281, 1324, 1383, 1436, 1469, 1502, 1515, 1538, 1571, 1594, 1617, 1640], 199) (List.mem_of_getElem? (i := 21) rfl)) (by rw [hv2]; decide) (by rw [hv2]; decide) (by rw [hv2]; rfl) (by decide) ?_
          exact law_rings (Rel := Rel (i + 6)) hL C0 hK hi hl hP hD hS (hall.2.2.2.2.2.2.2.2.2.2.2.2.2.2.2.2.2.2.2.2.2.2.2.2.2.2.2.2.2.2.2.2.1 _ _ _) kk
        | 32, _, hv2 =>
          refine lv_tableIn (off := 1185) (tgt := 1218) hx hb (lwd_0 (33, .tableswitch 1663 0 45 #[199, 262, 285, 298, 311, 334, 367, 400, 433, 466, 499, 542, 575, 608, 631, 654, 667, 680, 713, 746, 769, 792, 805, 848, 881, 914, 957, 990, 1023, 1066, 1099, 1142, 1185, 1238, 1281, 1324, 1383, 1436, 1469, 1502, 1515, 1538, 1571, 1594, 1617, 1640], 199) (List.mem_of_getElem? (i := 21) rfl)) (by rw [hv2]; decide) (by rw [hv2]; decide) (by rw [hv2]; rfl) (by decide) ?_
          exact law_gain (Rel := Rel (i + 6)) hL C0 hK hi hl hP hD hS (hall.2.2.2.2.2.2.2.2.2.2.2.2.2.2.2.2.2.2.2.2.2.2.2.2.2.2.2.2.2.2.2.2.2.1 _ _ _ _) kk
        | 33, _, hv2 =>
          refine lv_tableIn (off := 1238) (tgt := 1271) hx hb (lwd_0 (33, .tableswitch 1663 0 45 #[199, 262, 285, 298, 311, 334, 367, 400, 433, 466, 499, 542, 575, 608, 631, 654, 667, 680, 713, 746, 769, 792, 805, 848, 881, 914, 957, 990, 1023, 1066, 1099, 1142, 1185, 1238, 1281, 1324, 1383, 1436, 1469, 1502, 1515, 1538, 1571, 1594, 1617, 1640], 199) (List.mem_of_getElem? (i := 21) rfl)) (by rw [hv2]; decide) (by rw [hv2]; decide) (by rw [hv2]; rfl) (by decide) ?_
          exact law_worth (Rel := Rel (i + 6)) hL C0 hK hi hl hP hD hS (hall.2.2.2.2.2.2.2.2.2.2.2.2.2.2.2.2.2.2.2.2.2.2.2.2.2.2.2.2.2.2.2.2.2.2.1 _ _ _) kk
        | 34, _, hv2 =>
          refine lv_tableIn (off := 1281) (tgt := 1314) hx hb (lwd_0 (33, .tableswitch 1663 0 45 #[199, 262, 285, 298, 311, 334, 367, 400, 433, 466, 499, 542, 575, 608, 631, 654, 667, 680, 713, 746, 769, 792, 805, 848, 881, 914, 957, 990, 1023, 1066, 1099, 1142, 1185, 1238, 1281, 1324, 1383, 1436, 1469, 1502, 1515, 1538, 1571, 1594, 1617, 1640], 199) (List.mem_of_getElem? (i := 21) rfl)) (by rw [hv2]; decide) (by rw [hv2]; decide) (by rw [hv2]; rfl) (by decide) ?_
          exact law_rests (Rel := Rel (i + 6)) hL C0 hK hi hl hP hD hS (hall.2.2.2.2.2.2.2.2.2.2.2.2.2.2.2.2.2.2.2.2.2.2.2.2.2.2.2.2.2.2.2.2.2.2.2.1 _ _ _) kk
        | 35, _, hv2 =>
          refine lv_tableIn (off := 1324) (tgt := 1357) hx hb (lwd_0 (33, .tableswitch 1663 0 45 #[199, 262, 285, 298, 311, 334, 367, 400, 433, 466, 499, 542, 575, 608, 631, 654, 667, 680, 713, 746, 769, 792, 805, 848, 881, 914, 957, 990, 1023, 1066, 1099, 1142, 1185, 1238, 1281, 1324, 1383, 1436, 1469, 1502, 1515, 1538, 1571, 1594, 1617, 1640], 199) (List.mem_of_getElem? (i := 21) rfl)) (by rw [hv2]; decide) (by rw [hv2]; decide) (by rw [hv2]; rfl) (by decide) ?_
          exact law_best (Rel := Rel (i + 6)) hL C0 hK hi hl hP hD hS (hall.2.2.2.2.2.2.2.2.2.2.2.2.2.2.2.2.2.2.2.2.2.2.2.2.2.2.2.2.2.2.2.2.2.2.2.2.1 (xs (i + 1)) (xs (i + 2)) (if xs (i + 3) = 0 then 0 else 1) (by split <;> simp)) kk
        | 36, _, hv2 =>
          refine lv_tableIn (off := 1383) (tgt := 1416) hx hb (lwd_0 (33, .tableswitch 1663 0 45 #[199, 262, 285, 298, 311, 334, 367, 400, 433, 466, 499, 542, 575, 608, 631, 654, 667, 680, 713, 746, 769, 792, 805, 848, 881, 914, 957, 990, 1023, 1066, 1099, 1142, 1185, 1238, 1281, 1324, 1383, 1436, 1469, 1502, 1515, 1538, 1571, 1594, 1617, 1640], 199) (List.mem_of_getElem? (i := 21) rfl)) (by rw [hv2]; decide) (by rw [hv2]; decide) (by rw [hv2]; rfl) (by decide) ?_
          exact law_prices (Rel := Rel (i + 6)) hL C0 hK hi hl hP hD hS (hall.2.2.2.2.2.2.2.2.2.2.2.2.2.2.2.2.2.2.2.2.2.2.2.2.2.2.2.2.2.2.2.2.2.2.2.2.2.1 _ _ _ _) kk
        | 37, _, hv2 =>
          refine lv_tableIn (off := 1436) (tgt := 1469) hx hb (lwd_0 (33, .tableswitch 1663 0 45 #[199, 262, 285, 298, 311, 334, 367, 400, 433, 466, 499, 542, 575, 608, 631, 654, 667, 680, 713, 746, 769, 792, 805, 848, 881, 914, 957, 990, 1023, 1066, 1099, 1142, 1185, 1238, 1281, 1324, 1383, 1436, 1469, 1502, 1515, 1538, 1571, 1594, 1617, 1640], 199) (List.mem_of_getElem? (i := 21) rfl)) (by rw [hv2]; decide) (by rw [hv2]; decide) (by rw [hv2]; rfl) (by decide) ?_
          exact law_see (Rel := Rel (i + 6)) hL C0 hK hi hl hP hD hS (hall.2.2.2.2.2.2.2.2.2.2.2.2.2.2.2.2.2.2.2.2.2.2.2.2.2.2.2.2.2.2.2.2.2.2.2.2.2.2.1 _ _) kk
        | 38, _, hv2 =>
          refine lv_tableIn (off := 1469) (tgt := 1502) hx hb (lwd_0 (33, .tableswitch 1663 0 45 #[199, 262, 285, 298, 311, 334, 367, 400, 433, 466, 499, 542, 575, 608, 631, 654, 667, 680, 713, 746, 769, 792, 805, 848, 881, 914, 957, 990, 1023, 1066, 1099, 1142, 1185, 1238, 1281, 1324, 1383, 1436, 1469, 1502, 1515, 1538, 1571, 1594, 1617, 1640], 199) (List.mem_of_getElem? (i := 21) rfl)) (by rw [hv2]; decide) (by rw [hv2]; decide) (by rw [hv2]; rfl) (by decide) ?_
          exact law_say (Rel := Rel (i + 6)) hL C0 hK hi hl hP hD hS (hall.2.2.2.2.2.2.2.2.2.2.2.2.2.2.2.2.2.2.2.2.2.2.2.2.2.2.2.2.2.2.2.2.2.2.2.2.2.2.2.1 _ _) kk
        | 39, _, hv2 =>
          refine lv_tableIn (off := 1502) (tgt := 1535) hx hb (lwd_0 (33, .tableswitch 1663 0 45 #[199, 262, 285, 298, 311, 334, 367, 400, 433, 466, 499, 542, 575, 608, 631, 654, 667, 680, 713, 746, 769, 792, 805, 848, 881, 914, 957, 990, 1023, 1066, 1099, 1142, 1185, 1238, 1281, 1324, 1383, 1436, 1469, 1502, 1515, 1538, 1571, 1594, 1617, 1640], 199) (List.mem_of_getElem? (i := 21) rfl)) (by rw [hv2]; decide) (by rw [hv2]; decide) (by rw [hv2]; rfl) (by decide) ?_
          exact law_forget (Rel := Rel (i + 6)) hL C0 hK hi hl hP hD hS hall.2.2.2.2.2.2.2.2.2.2.2.2.2.2.2.2.2.2.2.2.2.2.2.2.2.2.2.2.2.2.2.2.2.2.2.2.2.2.2.2.1 kk
        | 40, _, hv2 =>
          refine lv_tableIn (off := 1515) (tgt := 1548) hx hb (lwd_0 (33, .tableswitch 1663 0 45 #[199, 262, 285, 298, 311, 334, 367, 400, 433, 466, 499, 542, 575, 608, 631, 654, 667, 680, 713, 746, 769, 792, 805, 848, 881, 914, 957, 990, 1023, 1066, 1099, 1142, 1185, 1238, 1281, 1324, 1383, 1436, 1469, 1502, 1515, 1538, 1571, 1594, 1617, 1640], 199) (List.mem_of_getElem? (i := 21) rfl)) (by rw [hv2]; decide) (by rw [hv2]; decide) (by rw [hv2]; rfl) (by decide) ?_
          exact law_fits (Rel := Rel (i + 6)) hL C0 hK hi hl hP hD hS (hall.2.2.2.2.2.2.2.2.2.2.2.2.2.2.2.2.2.2.2.2.2.2.2.2.2.2.2.2.2.2.2.2.2.2.2.2.2.2.2.2.2.1 _) kk
        | 41, _, hv2 =>
          refine lv_tableIn (off := 1538) (tgt := 1571) hx hb (lwd_0 (33, .tableswitch 1663 0 45 #[199, 262, 285, 298, 311, 334, 367, 400, 433, 466, 499, 542, 575, 608, 631, 654, 667, 680, 713, 746, 769, 792, 805, 848, 881, 914, 957, 990, 1023, 1066, 1099, 1142, 1185, 1238, 1281, 1324, 1383, 1436, 1469, 1502, 1515, 1538, 1571, 1594, 1617, 1640], 199) (List.mem_of_getElem? (i := 21) rfl)) (by rw [hv2]; decide) (by rw [hv2]; decide) (by rw [hv2]; rfl) (by decide) ?_
          exact law_sure (Rel := Rel (i + 6)) hL C0 hK hi hl hP hD hS (hall.2.2.2.2.2.2.2.2.2.2.2.2.2.2.2.2.2.2.2.2.2.2.2.2.2.2.2.2.2.2.2.2.2.2.2.2.2.2.2.2.2.2.1 _ _) kk
        | 42, _, hv2 =>
          refine lv_tableIn (off := 1571) (tgt := 1604) hx hb (lwd_0 (33, .tableswitch 1663 0 45 #[199, 262, 285, 298, 311, 334, 367, 400, 433, 466, 499, 542, 575, 608, 631, 654, 667, 680, 713, 746, 769, 792, 805, 848, 881, 914, 957, 990, 1023, 1066, 1099, 1142, 1185, 1238, 1281, 1324, 1383, 1436, 1469, 1502, 1515, 1538, 1571, 1594, 1617, 1640], 199) (List.mem_of_getElem? (i := 21) rfl)) (by rw [hv2]; decide) (by rw [hv2]; decide) (by rw [hv2]; rfl) (by decide) ?_
          exact law_trust (Rel := Rel (i + 6)) hL C0 hK hi hl hP hD hS (hall.2.2.2.2.2.2.2.2.2.2.2.2.2.2.2.2.2.2.2.2.2.2.2.2.2.2.2.2.2.2.2.2.2.2.2.2.2.2.2.2.2.2.2.1 _) kk
        | 43, _, hv2 =>
          refine lv_tableIn (off := 1594) (tgt := 1627) hx hb (lwd_0 (33, .tableswitch 1663 0 45 #[199, 262, 285, 298, 311, 334, 367, 400, 433, 466, 499, 542, 575, 608, 631, 654, 667, 680, 713, 746, 769, 792, 805, 848, 881, 914, 957, 990, 1023, 1066, 1099, 1142, 1185, 1238, 1281, 1324, 1383, 1436, 1469, 1502, 1515, 1538, 1571, 1594, 1617, 1640], 199) (List.mem_of_getElem? (i := 21) rfl)) (by rw [hv2]; decide) (by rw [hv2]; decide) (by rw [hv2]; rfl) (by decide) ?_
          exact law_hold (Rel := Rel (i + 6)) hL C0 hK hi hl hP hD hS (hall.2.2.2.2.2.2.2.2.2.2.2.2.2.2.2.2.2.2.2.2.2.2.2.2.2.2.2.2.2.2.2.2.2.2.2.2.2.2.2.2.2.2.2.2.1 _) kk
        | 44, _, hv2 =>
          refine lv_tableIn (off := 1617) (tgt := 1650) hx hb (lwd_0 (33, .tableswitch 1663 0 45 #[199, 262, 285, 298, 311, 334, 367, 400, 433, 466, 499, 542, 575, 608, 631, 654, 667, 680, 713, 746, 769, 792, 805, 848, 881, 914, 957, 990, 1023, 1066, 1099, 1142, 1185, 1238, 1281, 1324, 1383, 1436, 1469, 1502, 1515, 1538, 1571, 1594, 1617, 1640], 199) (List.mem_of_getElem? (i := 21) rfl)) (by rw [hv2]; decide) (by rw [hv2]; decide) (by rw [hv2]; rfl) (by decide) ?_
          exact law_restore (Rel := Rel (i + 6)) hL C0 hK hi hl hP hD hS (hall.2.2.2.2.2.2.2.2.2.2.2.2.2.2.2.2.2.2.2.2.2.2.2.2.2.2.2.2.2.2.2.2.2.2.2.2.2.2.2.2.2.2.2.2.2.1 _) kk
        | 45, _, hv2 =>
          refine lv_tableIn (off := 1640) (tgt := 1673) hx hb (lwd_0 (33, .tableswitch 1663 0 45 #[199, 262, 285, 298, 311, 334, 367, 400, 433, 466, 499, 542, 575, 608, 631, 654, 667, 680, 713, 746, 769, 792, 805, 848, 881, 914, 957, 990, 1023, 1066, 1099, 1142, 1185, 1238, 1281, 1324, 1383, 1436, 1469, 1502, 1515, 1538, 1571, 1594, 1617, 1640], 199) (List.mem_of_getElem? (i := 21) rfl)) (by rw [hv2]; decide) (by rw [hv2]; decide) (by rw [hv2]; rfl) (by decide) ?_
          exact law_count (Rel := Rel (i + 6)) hL C0 hK hi hl hP hD hS (hall.2.2.2.2.2.2.2.2.2.2.2.2.2.2.2.2.2.2.2.2.2.2.2.2.2.2.2.2.2.2.2.2.2.2.2.2.2.2.2.2.2.2.2.2.2.2 _) kk
        | v + 46, hv, _ => omega
