theorem cb_10_n : cb_10 = nI 10 := by decide
theorem cb_100_n : cb_100 = nI 100 := by decide
theorem cb_11_n : cb_11 = nI 11 := by decide
theorem cb_122_n : cb_122 = nI 122 := by decide
theorem cb_13_n : cb_13 = nI 13 := by decide
theorem cb_14_n : cb_14 = nI 14 := by decide
theorem cb_15_n : cb_15 = nI 15 := by decide
theorem cb_16_n : cb_16 = nI 16 := by decide
theorem cb_17_n : cb_17 = nI 17 := by decide
theorem cb_18_n : cb_18 = nI 18 := by decide
theorem cb_19_n : cb_19 = nI 19 := by decide
theorem cb_20_n : cb_20 = nI 20 := by decide
theorem cb_21_n : cb_21 = nI 21 := by decide
theorem cb_22_n : cb_22 = nI 22 := by decide
theorem cb_23_n : cb_23 = nI 23 := by decide
theorem cb_24_n : cb_24 = nI 24 := by decide
theorem cb_26_n : cb_26 = nI 26 := by decide
theorem cb_32_n : cb_32 = nI 32 := by decide
theorem cb_33_n : cb_33 = nI 33 := by decide
theorem cb_39_n : cb_39 = nI 39 := by decide
theorem cb_40_n : cb_40 = nI 40 := by decide
theorem cb_41_n : cb_41 = nI 41 := by decide
theorem cb_42_n : cb_42 = nI 42 := by decide
theorem cb_43_n : cb_43 = nI 43 := by decide
theorem cb_45_n : cb_45 = nI 45 := by decide
theorem cb_46_n : cb_46 = nI 46 := by decide
theorem cb_47_n : cb_47 = nI 47 := by decide
theorem cb_48_n : cb_48 = nI 48 := by decide
theorem cb_57_n : cb_57 = nI 57 := by decide
theorem cb_59_n : cb_59 = nI 59 := by decide
theorem cb_6_n : cb_6 = nI 6 := by decide
theorem cb_60_n : cb_60 = nI 60 := by decide
theorem cb_61_n : cb_61 = nI 61 := by decide
theorem cb_8_n : cb_8 = nI 8 := by decide
theorem cb_9_n : cb_9 = nI 9 := by decide
theorem cb_96_n : cb_96 = nI 96 := by decide
theorem cb_97_n : cb_97 = nI 97 := by decide
theorem cb_99_n : cb_99 = nI 99 := by decide
theorem ci_2_n : ci_2 = nI 2 := by decide
theorem ci_3_n : ci_3 = nI 3 := by decide
theorem ci_4_n : ci_4 = nI 4 := by decide
theorem ci_5_n : ci_5 = nI 5 := by decide
theorem cs_1000_n : cs_1000 = nI 1000 := by decide
theorem cs_1001_n : cs_1001 = nI 1001 := by decide
theorem cs_12345_n : cs_12345 = nI 12345 := by decide
theorem cs_144_n : cs_144 = nI 144 := by decide
theorem cs_196_n : cs_196 = nI 196 := by decide
theorem cs_200_n : cs_200 = nI 200 := by decide
theorem cs_2000_n : cs_2000 = nI 2000 := by decide
theorem cs_255_n : cs_255 = nI 255 := by decide
theorem cs_288_n : cs_288 = nI 288 := by decide
theorem cs_300_n : cs_300 = nI 300 := by decide
theorem cs_400_n : cs_400 = nI 400 := by decide
theorem cs_500_n : cs_500 = nI 500 := by decide
theorem cs_999_n : cs_999 = nI 999 := by decide
theorem cs_9999_n : cs_9999 = nI 9999 := by decide
theorem cb_25_n : cb_25 = nI 25 := by decide
theorem cb_27_n : cb_27 = nI 27 := by decide
theorem cb_28_n : cb_28 = nI 28 := by decide
theorem cb_29_n : cb_29 = nI 29 := by decide
theorem cb_63_n : cb_63 = nI 63 := by decide
theorem ci_8_n : ci_8 = nI 8 := by decide
theorem cn_1024_n : cn_1024 = nI 1024 := by decide
theorem cn_17_n : cn_17 = nI 17 := by decide
theorem cn_1792_n : cn_1792 = nI 1792 := by decide
theorem cn_20_n : cn_20 = nI 20 := by decide
theorem cn_2000_n : cn_2000 = nI 2000 := by decide
theorem cn_32_n : cn_32 = nI 32 := by decide
theorem cn_36_n : cn_36 = nI 36 := by decide
theorem cn_4_n : cn_4 = nI 4 := by decide
theorem cn_402_n : cn_402 = nI 402 := by decide
theorem cn_6_n : cn_6 = nI 6 := by decide
theorem cn_96_n : cn_96 = nI 96 := by decide
theorem cs_1024_n : cs_1024 = nI 1024 := by decide
theorem cs_1980_n : cs_1980 = nI 1980 := by decide
theorem cs_5461_n : cs_5461 = nI 5461 := by decide
theorem orNot_eq {n : Nat} {x : Int32} {σ : bS} : cTop_orNot n x σ = some (md x, σ) := by
  unfold cTop_orNot cTop_orNot_b10 md
  by_cases h : x < 0
  · rw [if_pos h, if_neg (Int32.not_le.mpr h), cbm2]
  · rw [if_neg h, if_pos (Int32.not_lt.mp h)]
theorem md_lt {x : Int32} : md x < 0 ↔ x < 0 := by
  unfold md
  by_cases h : x < 0
  · rw [if_pos h]
    exact ⟨fun _ => h, fun _ => by decide⟩
  · rw [if_neg h]
theorem md_eq {n j : Nat} (hn : n < 2 ^ 31) {x : Int32} (hx : orN n x) (hj : j < 2 ^ 31) : md x = nI j ↔ x = nI j := by
  rcases hx with rfl | ⟨k, hk, rfl⟩
  · rw [md_m]
    exact ⟨fun z => absurd z.symm (fun e => nI_pos hj (by rw [e]; decide)), fun z => absurd z.symm (nI_m1 hj)⟩
  · rw [md_n (by omega)]
theorem out_ne {b : Nat} {x : Int32} (hb : b < 2 ^ 31) (h : x < 0 ∨ nI b < x) {k : Nat} (hk : k ≤ b) : ¬ x.toInt = (k : Int) := by
  intro e
  rcases h with h | h
  · have := Int32.lt_iff_toInt_lt.mp h
    rw [e, show (0 : Int32).toInt = 0 by decide] at this
    omega
  · have := Int32.lt_iff_toInt_lt.mp h
    rw [e, nI_toInt hb] at this
    omega
theorem out_ne2 {b : Nat} {x : Int32} (hb : b < 2 ^ 31) (h : x < 0 ∨ nI b < x) {k : Nat} (hk : k ≤ b) : ¬ x = nI k := fun e => out_ne hb h hk (by rw [e]; exact nI_toInt (by omega))
/-- where he is: as InvG says -/
theorem InvG.at {T : aT} {i : Nat} {G : aG} (h : InvG T i G) {m : Nat} (hm : m < tM T) : orN (tB T) (G 5 m) := by
  rcases h.2.2 m hm with ⟨-, j, hj, e⟩ | ⟨e, -⟩
  · exact Or.inr ⟨j, hj, e⟩
  · exact Or.inl e
theorem InvG.on {T : aT} {i : Nat} {G : aG} (h : InvG T i G) {m : Nat} (hm : m < tM T) : orN (tG T) (G 6 m) := by
  rcases h.2.2 m hm with ⟨e, -⟩ | ⟨-, j, hj, e⟩
  · exact Or.inl e
  · exact Or.inr ⟨j, hj, e⟩
theorem m_isOn0 {n w m : Nat} {x : Int32} {σ : bS} (hw : σ.1 0 40 = nI w) (hw2 : w ≤ 2000) (hm : m < 7) (h : σ.2.1 29 (w + 12 + m) = md x) (z : x < 0) : m_isOn n (nI m) σ = some (0, σ) := by
  unfold m_isOn m_isOn_b22
  simp (disch := omega) only [sI_d, hw, cb12_nI, nI_add, bin_nI, sA_n, h, md_lt]
  rw [if_pos z]; rfl
theorem m_isOn1 {n w m : Nat} {x : Int32} {σ : bS} (hw : σ.1 0 40 = nI w) (hw2 : w ≤ 2000) (hm : m < 7) (h : σ.2.1 29 (w + 12 + m) = md x) (z : ¬ x < 0) : m_isOn n (nI m) σ = some (1, σ) := by
  unfold m_isOn m_isOn_b22
  simp (disch := omega) only [sI_d, hw, cb12_nI, nI_add, bin_nI, sA_n, h, md_lt]
  rw [if_neg z]; rfl
theorem m_isHome_eq {T : aT} {L : aL} {i n w m : Nat} {G : aG} {σ : bS} (hI : InvT T L) (hT : MTx T L σ) (hG : MG T w G σ) (hi : InvG T i G) (hw : σ.1 0 40 = nI w) (hw2 : w ≤ 2000) (hm : m < tM T) : m_isHome n (nI m) σ = some (if G 5 m = nI (tHome T m) then 1 else 0, σ) := by
  have hB := hI.1
  have hM := hI.2.2.2.1
  have hh := hI.2.2.2.2.2.1 m hm
  have hGG := hI.2.2.1
  unfold m_isHome
  rcases hi.2.2 m hm with ⟨e1, j, hj, e2⟩ | ⟨e1, j, hj, e2⟩
  · rw [m_isOn0 hw hw2 (by omega) (hG.2.2 m hm).2.1 (by rw [e1]; decide), ob_def, if_pos rfl]
    simp (disch := omega) only [sI_d, hw, ci_5_n, nI_add, bin_nI, sA_n, (hG.2.2 m hm).1, e2, md_n, hT.2.2.2.1 m hm, m_isHome_b34, m_isHome_b35]
    by_cases z : nI j = nI (tHome T m)
    · rw [if_pos z, if_pos z]; rfl
    · rw [if_neg z, if_neg z]; rfl
  · rw [m_isOn1 hw hw2 (by omega) (hG.2.2 m hm).2.1 (by rw [e2]; exact nI_pos (by omega)), ob_def, if_neg one_ne, e1, if_neg (fun z => nI_m1 (by omega) z.symm)]
    rfl
theorem m_homes_l {T : aT} {L : aL} {i n w : Nat} {G : aG} {σ : bS} (hI : InvT T L) (hT : MTx T L σ) (hG : MG T w G σ) (hi : InvG T i G) (hw : σ.1 0 40 = nI w) (hw2 : w ≤ 2000) : ∀ (k j : Nat), j ≤ tM T → tM T < j + k → m_homesNow_b4 n k (bitsOf (fun m => G 5 m = nI (tHome T m)) j) (nI j) σ = some (bitsOf (fun m => G 5 m = nI (tHome T m)) (tM T), σ)
  | 0, j, h1, h2 => by omega
  | k + 1, j, h1, h2 => by
    have hM := hI.2.2.2.1
    rw [m_homesNow_b4, bin_c0 (by decide) (by decide), sA_c0, hT.1.2.2.2]
    by_cases hj : j < tM T
    · rw [if_neg (nI_ge hj (by omega)), m_isHome_eq hI hT hG hi hw hw2 hj, ob_def]
      have ih := m_homes_l (n := n) hI hT hG hi hw hw2 k (j + 1) hj (by omega)
      rw [bitsOf] at ih
      simp only [m_homesNow_b28, ci1_nI, nI_add]
      by_cases hx : G 5 j = nI (tHome T j)
      · rw [if_pos hx] at ih ⊢
        rw [if_neg one_ne]
        exact ih
      · rw [if_neg hx] at ih ⊢
        rw [if_pos rfl]
        exact ih
    · have e : j = tM T := by omega
      subst e
      rw [if_pos (Int32.le_refl _)]
theorem c_isHome {T : aT} {L : aL} {n m : Nat} {G : aG} {σ : bS} (hI : InvT T L) (hT : CT T L σ) (hG : CG 27 G σ) (hm : m < tM T) : cGoing_isHome n (nI m) σ = some (if G 5 m = nI (tHome T m) then 1 else 0, σ) := by
  have hM := hI.2.2.2.1
  unfold cGoing_isHome cGoing_isHome_b23
  have e1 : sA σ 30 (nI m) = G 5 m := (sA_n _ _ (by omega)).trans (hG.2.2 m (by omega)).1
  have e2 : sA σ 6 (nI m) = nI (tHome T m) := (sA_n _ _ (by omega)).trans (hT.2.2.2.1 m hm)
  simp (disch := omega) only [bin_nI, e1, e2]
  by_cases z : G 5 m = nI (tHome T m)
  · rw [if_pos z, if_pos z]; rfl
  · rw [if_neg z, if_neg z]; rfl
theorem c_homes_l {T : aT} {L : aL} {n : Nat} {G : aG} {σ : bS} (hI : InvT T L) (hT : CT T L σ) (hG : CG 27 G σ) : ∀ (k j : Nat), j ≤ tM T → tM T < j + k → cGoing_homeBits_b4 n k (bitsOf (fun m => G 5 m = nI (tHome T m)) j) (nI j) σ = some (bitsOf (fun m => G 5 m = nI (tHome T m)) (tM T), σ)
  | 0, j, h1, h2 => by omega
  | k + 1, j, h1, h2 => by
    have hM := hI.2.2.2.1
    rw [cGoing_homeBits_b4, sI_d, hT.1.2.2.2]
    by_cases hj : j < tM T
    · rw [if_neg (nI_ge hj (by omega)), c_isHome hI hT hG hj, ob_def]
      have ih := c_homes_l (n := n) hI hT hG k (j + 1) hj (by omega)
      rw [bitsOf] at ih
      simp only [cGoing_homeBits_b29, ci1_nI, nI_add]
      by_cases hx : G 5 j = nI (tHome T j)
      · rw [if_pos hx] at ih ⊢
        rw [if_neg one_ne]
        exact ih
      · rw [if_neg hx] at ih ⊢
        rw [if_pos rfl]
        exact ih
    · have e : j = tM T := by omega
      subst e
      rw [if_pos (Int32.le_refl _)]
theorem c_isHome_d {T : aT} {L : aL} {n m : Nat} {G : aG} {σ : bS} (hI : InvT T L) (hT : CT T L σ) (hG : CG 35 G σ) (hm : m < tM T) : cGoing_isHome_d n (nI m) σ = some (if G 5 m = nI (tHome T m) then 1 else 0, σ) := by
  have hM := hI.2.2.2.1
  unfold cGoing_isHome_d cGoing_isHome_d_b23
  have e1 : sA σ 38 (nI m) = G 5 m := (sA_n _ _ (by omega)).trans (hG.2.2 m (by omega)).1
  have e2 : sA σ 6 (nI m) = nI (tHome T m) := (sA_n _ _ (by omega)).trans (hT.2.2.2.1 m hm)
  simp (disch := omega) only [bin_nI, e1, e2]
  by_cases z : G 5 m = nI (tHome T m)
  · rw [if_pos z, if_pos z]; rfl
  · rw [if_neg z, if_neg z]; rfl
theorem c_homes_d_l {T : aT} {L : aL} {n : Nat} {G : aG} {σ : bS} (hI : InvT T L) (hT : CT T L σ) (hG : CG 35 G σ) : ∀ (k j : Nat), j ≤ tM T → tM T < j + k → cGoing_homeBits_d_b4 n k (bitsOf (fun m => G 5 m = nI (tHome T m)) j) (nI j) σ = some (bitsOf (fun m => G 5 m = nI (tHome T m)) (tM T), σ)
  | 0, j, h1, h2 => by omega
  | k + 1, j, h1, h2 => by
    have hM := hI.2.2.2.1
    rw [cGoing_homeBits_d_b4, sI_d, hT.1.2.2.2]
    by_cases hj : j < tM T
    · rw [if_neg (nI_ge hj (by omega)), c_isHome_d hI hT hG hj, ob_def]
      have ih := c_homes_d_l (n := n) hI hT hG k (j + 1) hj (by omega)
      rw [bitsOf] at ih
      simp only [cGoing_homeBits_d_b29, ci1_nI, nI_add]
      by_cases hx : G 5 j = nI (tHome T j)
      · rw [if_pos hx] at ih ⊢
        rw [if_neg one_ne]
        exact ih
      · rw [if_neg hx] at ih ⊢
        rw [if_pos rfl]
        exact ih
    · have e : j = tM T := by omega
      subst e
      rw [if_pos (Int32.le_refl _)]
theorem frQw {σ : bS} {v : Int32} : frQ σ (uI σ 0 40 v) := frQ.uI ⟨by decide, by decide, by decide, by decide, by decide⟩
theorem sim_homes {i : Nat} {σC σM : bS} (h : Rel i σC σM) : Sim_homes (Rel (i + 6)) σC σM := by
  have hrel := h
  obtain ⟨T, L, G, h1, h2, h3, h4, h5, h6, h7, h8, h9, h10, h11, h12⟩ := h
  have hM := h1.2.2.2.1
  refine ⟨20, 20, bitsOf (fun m => G 5 m = nI (tHome T m)) (tM T), σC, uI σM 0 40 ci_0, ?_, ?_, hrel.of (by omega) frC.rf frQw⟩
  · unfold cTop_homes cGoing_homeBits
    rw [show cGoing_homeBits_b4 20 20 ci_0 ci_0 σC = _ from c_homes_l (n := 20) h1 h2 h4 20 0 (by omega) (by omega)]
    rfl
  · unfold m_homes m_homesNow
    rw [show m_homesNow_b4 20 20 ci_0 ci_0 (uI σM 0 40 ci_0) = _ from m_homes_l (σ := uI σM 0 40 ci_0) (n := 20) (w := 0) h1 (h3.of (fun _ _ _ => rfl)) h5 h6 rfl (by omega) 20 0 (by omega) (by omega)]
    rfl
theorem m_bank_l {T : aT} {L : aL} {i n b : Nat} {G : aG} {σ : bS} (hI : InvT T L) (hT : MTx T L σ) (hG : MG T 0 G σ) (hi : InvG T i G) (hw : σ.1 0 40 = nI 0) (hb : b < tB T) : ∀ (k j : Nat), j ≤ tM T → tM T < j + k → m_bank_b19 n k (nI b) (bitsOf (fun m => G 5 m = nI b) j) (nI j) σ = some (bitsOf (fun m => G 5 m = nI b) (tM T), σ)
  | 0, j, h1, h2 => by omega
  | k + 1, j, h1, h2 => by
    have hM := hI.2.2.2.1
    have hB := hI.1
    rw [m_bank_b19, bin_c0 (by decide) (by decide), sA_c0, hT.1.2.2.2]
    by_cases hj : j < tM T
    · rw [if_neg (nI_ge hj (by omega))]
      have hGG := hI.2.2.1
      have ih := m_bank_l (n := n) hI hT hG hi hw hb k (j + 1) hj (by omega)
      rw [bitsOf] at ih
      have e3 : sA σ 29 (nI (5 + j)) = md (G 5 j) := by
        rw [sA_n _ _ (by omega)]
        have := (hG.2.2 j hj).1
        rw [Nat.zero_add] at this
        exact this
      rcases hi.2.2 j hj with ⟨e1, q, hq, e2⟩ | ⟨e1, q, hq, e2⟩
      · rw [m_isOn0 hw (by omega) (by omega) (hG.2.2 j hj).2.1 (by rw [e1]; decide), ob_def, if_pos rfl]
        simp (disch := omega) only [m_bank_b55, ci1_nI, nI_add, ci_5_n, bin_nI, e3, md_eq (show tB T < 2 ^ 31 by omega) (hi.at hj) (show b < 2 ^ 31 by omega)]
        by_cases hx : G 5 j = nI b
        · rw [if_pos hx] at ih ⊢
          exact ih
        · rw [if_neg hx] at ih ⊢
          exact ih
      · have hx : ¬ G 5 j = nI b := by
          rw [e1]
          exact fun z => nI_m1 (by omega) z.symm
        rw [if_neg hx] at ih
        rw [m_isOn1 hw (by omega) (by omega) (hG.2.2 j hj).2.1 (by rw [e2]; exact nI_pos (by omega)), ob_def, if_neg one_ne]
        simp only [m_bank_b55, ci1_nI, nI_add]
        exact ih
    · have e : j = tM T := by omega
      subst e
      rw [if_pos (Int32.le_refl _)]
theorem sim_bank {i : Nat} {σC σM : bS} (h : Rel i σC σM) (x : Int32) : Sim_bank (Rel (i + 6)) x σC σM := by
  have hrel := h
  obtain ⟨T, L, G, h1, h2, h3, h4, h5, h6, h7, h8, h9, h10, h11, h12⟩ := h
  have hM := h1.2.2.2.1
  have hB := h1.1
  rcases ncases (tB T) (by omega) x with ⟨b, hb, rfl⟩ | hx
  · refine ⟨20, 20, bitsOf (fun m => G 5 m = nI b) (tM T), σC, uI σM 0 40 ci_0, ?_, ?_, hrel.of (by omega) frC.rf frQw⟩
    · unfold cTop_bank cGoing_menAt
      rw [c_isBank1 h2.1.1 (by omega) hb, ob_def, if_neg one_ne, show cGoing_menAt_b4 20 20 (nI b) ci_0 ci_0 σC = _ from c_menAt_l (n := 20) (x := nI b) h2.1.2.2.2 hM 20 0 (by omega) (by omega), ob_def, bitsOf_congr (Q := fun m => G 5 m = nI b) (tM T) (fun j hj => by rw [(h4.2.2 j (by omega)).1])]
      rfl
    · unfold m_bank
      rw [m_isBank1 h3.1.1 (by omega) hb, ob_def, if_neg one_ne, ci0_nI]
      exact m_bank_l (σ := uI σM 0 40 (nI 0)) (n := 20) h1 (h3.of (fun _ _ _ => rfl)) h5 h6 rfl hb 20 0 (by omega) (by omega)
  · refine ⟨20, 20, -1, σC, σM, ?_, ?_, hrel.mono (by omega)⟩
    · unfold cTop_bank
      rw [c_isBank0 h2.1.1 hx, ob_def, if_pos rfl]
      rfl
    · unfold m_bank
      rw [m_isBank0 h3.1.1 hx, ob_def, if_pos rfl]
      rfl
theorem c_menOn_l {n c : Nat} {x : Int32} {σ : bS} (hc : σ.1 1 3 = nI c) (h7 : c ≤ 7) : ∀ (k j : Nat), j ≤ c → c < j + k → cGoing_menOn_b4 n k x (bitsOf (fun m => σ.2.1 31 m = x) j) (nI j) σ = some (bitsOf (fun m => σ.2.1 31 m = x) c, σ)
  | 0, j, h1, h2 => by omega
  | k + 1, j, h1, h2 => by
    rw [cGoing_menOn_b4]
    by_cases hj : j < c
    · rw [sI_d, hc, if_neg (nI_ge hj (by omega)), bin_nI (by omega) (by decide), sA_n _ _ (by omega)]
      have ih := c_menOn_l hc h7 k (j + 1) hj (by omega) (n := n) (x := x)
      rw [bitsOf] at ih
      by_cases hx : σ.2.1 31 j = x
      · rw [if_pos hx] at ih ⊢
        rw [cGoing_menOn_b31, ci1_nI, nI_add]
        exact ih
      · rw [if_neg hx] at ih ⊢
        rw [cGoing_menOn_b31, ci1_nI, nI_add]
        exact ih
    · have e : j = c := by omega
      subst e
      rw [sI_d, hc, if_pos (Int32.le_refl _)]
theorem m_menOn_l {T : aT} {L : aL} {i n b : Nat} {G : aG} {σ : bS} (hI : InvT T L) (hT : MTx T L σ) (hG : MG T 0 G σ) (hi : InvG T i G) (hb : b < tG T) : ∀ (k j : Nat), j ≤ tM T → tM T < j + k → m_bridge_b69 n k (nI b) (bitsOf (fun m => G 6 m = nI b) j) (nI j) σ = some (bitsOf (fun m => G 6 m = nI b) (tM T), σ)
  | 0, j, h1, h2 => by omega
  | k + 1, j, h1, h2 => by
    have hM := hI.2.2.2.1
    have hGG := hI.2.2.1
    rw [m_bridge_b69, bin_c0 (by decide) (by decide), sA_c0, hT.1.2.2.2]
    by_cases hj : j < tM T
    · rw [if_neg (nI_ge hj (by omega))]
      have ih := m_menOn_l (n := n) hI hT hG hi hb k (j + 1) hj (by omega)
      rw [bitsOf] at ih
      have e3 : sA σ 29 (nI (12 + j)) = md (G 6 j) := by
        rw [sA_n _ _ (by omega)]
        have := (hG.2.2 j hj).2.1
        rw [Nat.zero_add] at this
        exact this
      simp (disch := omega) only [m_bridge_b101, ci1_nI, nI_add, cb12_nI, bin_nI, e3, md_eq (show tG T < 2 ^ 31 by omega) (hi.on hj) (show b < 2 ^ 31 by omega)]
      by_cases hx : G 6 j = nI b
      · rw [if_pos hx] at ih ⊢
        exact ih
      · rw [if_neg hx] at ih ⊢
        exact ih
    · have e : j = tM T := by omega
      subst e
      rw [if_pos (Int32.le_refl _)]
theorem sim_bridge {i : Nat} {σC σM : bS} (h : Rel i σC σM) (x y : Int32) : Sim_bridge (Rel (i + 6)) x y σC σM := by
  have hrel := h
  obtain ⟨T, L, G, h1, h2, h3, h4, h5, h6, h7, h8, h9, h10, h11, h12⟩ := h
  have hM := h1.2.2.2.1
  have hB := h1.1
  have hGG := h1.2.2.1
  have fin : Rel (i + 6) σC (uI σM 0 40 ci_0) := hrel.of (by omega) frC.rf frQw
  rcases ncases (tG T) (by omega) x with ⟨b, hb, rfl⟩ | hx
  · rcases kcases 3 (by decide) y with ⟨q, hq, rfl⟩ | hy
    · have hc : ∀ r, (if (nI q).toInt = 0 then bin_ (nI b) 4 (some (sA σC 3 (nI b), σC)) else if (nI q).toInt = 1 then bin_ (nI b) 4 (ob (cTop_orNot 20 (sA σC 28 (nI b)) σC) fun q2 => some (q2.1, q2.2)) else if (nI q).toInt = 2 then ob (cGoing_menOn 20 (nI b) σC) fun q3 => some (q3.1, q3.2) else if (nI q).toInt = 3 then bin_ (nI b) 4 (some (sA σC 29 (nI b), σC)) else some (ci_m1, σC)) = some (r, σC) → cTop_bridge 20 (nI b) (nI q) σC = some (r, σC) := fun r hr => by
        unfold cTop_bridge
        rw [c_isBridge1 h2.1.2.2.1 (by omega) hb, ob_def, if_neg one_ne]
        exact hr
      have hm : ∀ r, (if nI q = 0 then bin_ (nI b) 8 (some (sA (uI σM 0 40 ci_0) 18 (nI b), uI σM 0 40 ci_0)) else if nI q = ci_1 then bin_ (ci_1 + nI b) 2208 (some (sA (uI σM 0 40 ci_0) 29 (ci_1 + nI b), uI σM 0 40 ci_0)) else if nI q = ci_3 then bin_ (cb_42 + nI b) 2208 (some (sA (uI σM 0 40 ci_0) 29 (cb_42 + nI b), uI σM 0 40 ci_0)) else m_bridge_b69 20 20 (nI b) ci_0 ci_0 (uI σM 0 40 ci_0)) = some (r, uI σM 0 40 ci_0) → m_bridge 20 (nI b) (nI q) σM = some (r, uI σM 0 40 ci_0) := fun r hr => by
        unfold m_bridge
        rw [m_isBridge1 h3.1.2.2.1 (by omega) hb, ob_def, if_neg one_ne, show m_isIn 20 (nI q) ci_0 ci_3 σM = some (1, σM) from m_isIn1 (a := 0) (b := 3) (by omega) hq (by decide), ob_def, if_neg one_ne]
        exact hr
      have r1 := (h5.2.1 b hb).1
      have r2 := (h5.2.1 b hb).2
      rw [Nat.zero_add] at r1 r2
      match q, hq with
      | 0, _ =>
        refine ⟨20, 20, nI (tFoot T b), σC, uI σM 0 40 ci_0, hc _ ?_, hm _ ?_, fin⟩
        · rw [if_pos (by decide), bin_nI (by omega) (by decide), sA_n _ _ (by omega), h2.2.2.1 b hb]
        · rw [if_pos (by decide), bin_nI (by omega) (by decide), sA_n _ _ (by omega), uI_2, h3.2.2.1 b hb]
      | 1, _ =>
        refine ⟨20, 20, md (G 3 b), σC, uI σM 0 40 ci_0, hc _ ?_, hm _ ?_, fin⟩
        · rw [if_neg (by decide), if_pos (by decide), bin_nI (by omega) (by decide), sA_n _ _ (by omega), (h4.2.1 b (by omega)).1, orNot_eq]
          rfl
        · rw [if_neg (by decide), if_pos (by decide), ci1_nI, nI_add, bin_nI (by omega) (by decide), sA_n _ _ (by omega), uI_2, r1]
      | 2, _ =>
        refine ⟨20, 20, bitsOf (fun m => G 6 m = nI b) (tM T), σC, uI σM 0 40 ci_0, hc _ ?_, hm _ ?_, fin⟩
        · rw [if_neg (by decide), if_neg (by decide), if_pos (by decide)]
          unfold cGoing_menOn
          rw [show cGoing_menOn_b4 20 20 (nI b) ci_0 ci_0 σC = _ from c_menOn_l (n := 20) (x := nI b) h2.1.2.2.2 hM 20 0 (by omega) (by omega), ob_def, bitsOf_congr (Q := fun m => G 6 m = nI b) (tM T) (fun j hj => by rw [(h4.2.2 j (by omega)).2.1])]
        · rw [if_neg (by decide), if_neg (by decide), if_neg (by decide)]
          exact m_menOn_l (σ := uI σM 0 40 ci_0) (n := 20) h1 (h3.of (fun _ _ _ => rfl)) h5 h6 hb 20 0 (by omega) (by omega)
      | 3, _ =>
        refine ⟨20, 20, G 4 b, σC, uI σM 0 40 ci_0, hc _ ?_, hm _ ?_, fin⟩
        · rw [if_neg (by decide), if_neg (by decide), if_neg (by decide), if_pos (by decide), bin_nI (by omega) (by decide), sA_n _ _ (by omega), (h4.2.1 b (by omega)).2]
        · rw [if_neg (by decide), if_neg (by decide), if_pos (by decide), cb_42_n, nI_add, bin_nI (by omega) (by decide), sA_n _ _ (by omega), uI_2, r2]
      | q + 4, hq => omega
    · refine ⟨20, 20, -1, σC, σM, ?_, ?_, hrel.mono (by omega)⟩
      · unfold cTop_bridge
        rw [c_isBridge1 h2.1.2.2.1 (by omega) hb, ob_def, if_neg one_ne, if_neg (show ¬ y.toInt = 0 from out_ne (k := 0) (by decide) hy (by omega)), if_neg (show ¬ y.toInt = 1 from out_ne (k := 1) (by decide) hy (by omega)), if_neg (show ¬ y.toInt = 2 from out_ne (k := 2) (by decide) hy (by omega)), if_neg (show ¬ y.toInt = 3 from out_ne (k := 3) (by decide) hy (by omega))]
        rfl
      · unfold m_bridge
        rw [m_isBridge1 h3.1.2.2.1 (by omega) hb, ob_def, if_neg one_ne, m_isIn0 (by rw [ci0_0, ci_3_n]; exact hy), ob_def, if_pos rfl]
        rfl
  · refine ⟨20, 20, -1, σC, σM, ?_, ?_, hrel.mono (by omega)⟩
    · unfold cTop_bridge
      rw [c_isBridge0 h2.1.2.2.1 hx, ob_def, if_pos rfl]
      rfl
    · unfold m_bridge
      rw [m_isBridge0 h3.1.2.2.1 hx, ob_def, if_pos rfl]
      rfl
