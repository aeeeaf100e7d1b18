/-! PRICES: both sides -/
theorem bs_none {S : Nat → Nat} {gd : Nat → Bool} (h : ∀ x, gd x = false) : ∀ n, bs S gd n = none
  | 0 => rfl
  | n + 1 => by
    rw [bs, if_neg (fun u => by rw [h n] at u; cases u.2)]
    exact bs_none h n
theorem fL_in {s j m : Nat} (h : m ∈ fL s 0 false j) : s.testBit m = true := by
  unfold fL at h
  have := (List.mem_filter.mp h).2
  rwa [fB0] at this
/-- what the class's market answers -/
theorem c_market {T : aT} {L : aL} {n b h s m l0 : Nat} {G : aG} {σ : bS} (hn : 6000 ≤ n) (hI : InvT T L) (hT : CT T L σ) (hG : CG 27 G σ) (hh : h + 20 ≤ 170000) (hh2 : G 0 0 = nI h) (hb : b < tG T) (h0 : 0 < s) (hs : s < 2 ^ tM T) (hm : m ≤ 3) (hl0 : l0 ≤ tB T) (hG3 : G 3 b = lI l0) : ∃ σ', cMarket_search n (nI b) (nI s) (nI m) σ = some (if (bs (spP T m) (gdP T L G h s m l0) ((m + 1) ^ tB T)).isSome = true then 1 else 0, σ') ∧ (∀ c, bs (spP T m) (gdP T L G h s m l0) ((m + 1) ^ tB T) = some c → MkB T m (some c) σ') ∧ frC (fun a => a = 12 ∨ a = 13 ∨ (71 ≤ a ∧ a ≤ 76)) σ σ' := by
  have hM := hI.2.2.2.1
  have hB := hI.1
  have hGG := hI.2.2.1
  have hfo := hI.2.2.2.2.1 b hb
  have h7 : (2 : Nat) ^ tM T ≤ 2 ^ 7 := Nat.pow_le_pow_right (by decide) hM
  have hpw : (m + 1) ^ tB T ≤ 4 ^ 6 := Nat.le_trans (Nat.pow_le_pow_left (by omega) _) (Nat.pow_le_pow_right (by decide) hB)
  have sc : ∀ a, 1 ≤ a → a ≤ 11 → ¬ (fun a => a = 12 ∨ a = 13 ∨ (71 ≤ a ∧ a ≤ 76)) a := fun a x y z => by omega
  have sg : ∀ a, 27 ≤ a → a ≤ 27 + 7 → ¬ (fun a => a = 12 ∨ a = 13 ∨ (71 ≤ a ∧ a ≤ 76)) a := fun a x y z => by omega
  have c0 := rowL_pos (z := 0) h0 (show s < 128 by omega)
  have c7 := rowL_len (M := 7) (s := s) (z := 0) (by omega)
  obtain ⟨σ1, a1, a2, a3⟩ := c_line_l (n := n) (s := s) (by omega) n 0 (uI σ 71 5 ci_0) ⟨by rw [uI_1, if_pos ⟨rfl, rfl⟩]; rfl, fun q hq => absurd hq (Nat.not_lt_zero q)⟩ (by omega) (by omega)
  rw [← rowL0] at a2
  have f1 : frC (fun a => a = 12 ∨ a = 13 ∨ (71 ≤ a ∧ a ≤ 76)) σ σ1 := (frC.uI (P := fun a => a = 12 ∨ a = 13 ∨ (71 ≤ a ∧ a ≤ 76)) (Or.inr (Or.inr ⟨by omega, by omega⟩))).trans (a3.mono (fun a z => by unfold sc71 at z; omega))
  have e10 : sI σ1 1 0 = nI (tB T) := by
    rw [sI_d, (f1 1 (sc 1 (by omega) (by omega))).1]
    exact hT.1.1
  obtain ⟨σ2, s2⟩ : ∃ y, y = uI σ1 71 6 (nI (tB T)) := ⟨_, rfl⟩
  have f2 : frC (fun a => a = 12 ∨ a = 13 ∨ (71 ≤ a ∧ a ≤ 76)) σ σ2 := by
    rw [s2]
    exact frCaI f1 (Or.inr (Or.inr ⟨by omega, by omega⟩))
  have e28 : sA σ2 28 (nI b) = lI l0 := by
    rw [sA_n _ _ (by omega), (f2 28 (sg 28 (by omega) (by omega))).2.1, ← hG3]
    exact (hG.2.1 b (by omega)).1
  have r5 : σ2.1 71 5 = nI (rowL 7 s 0).length := by
    rw [s2, uI_1, if_neg (by decide)]
    exact a2.1
  have r74 : ∀ q, q < (rowL 7 s 0).length → σ2.2.1 74 q = nI ((rowL 7 s 0).getD q 0) := fun q hq => by
    rw [s2]
    exact a2.2 q hq
  have hR : ∀ q, q < (rowL 7 s 0).length → (rowL 7 s 0).getD q 0 < tM T := fun q hq => by
    rw [getD_get hq]
    exact bit_lt hs (mem_rowL (List.getElem_mem hq)).2
  have gdE : ∀ x, gdP T L G h s m l0 x = true ↔ stP T (fun q => (rowL 7 s 0).getD q 0) l0 (rowL 7 s 0).length ∧ ∀ i, i + 1 < (rowL 7 s 0).length → fv (lkg T L G h (dg (m + 1) (tB T) x) ((rowL 7 s 0).getD i 0) i) (tB T) = tHome T ((rowL 7 s 0).getD (i + 1) 0) := fun x => okP_price (ho := tHome T) (f := fun i => fv (lkg T L G h (dg (m + 1) (tB T) x) ((rowL 7 s 0).getD i 0) i) (tB T)) (R := fun q => (rowL 7 s 0).getD q 0) c0 (fun p la => rfl)
  have top : ∀ x, cMarket_search n (nI b) (nI s) (nI m) σ = x ↔ (ob (cMarket_findNeeds n (lI l0) σ2) fun q4 => if q4.1 = 0 then bz ci_0 q4.2 else ob (cMarket_askFancies n q4.2) fun q5 => ob (cj_fill_75 n ci_0 q5) fun q6 => cMarket_search_b61 n n (nI m) ci_1 ci_0 (uI q6 71 8 (1073741824 : Int32))) = x := fun x => by
    unfold cMarket_search cMarket_lineUp
    rw [show cMarket_lineUp_b7 n n (nI s) ci_0 (uI σ 71 5 ci_0) = some σ1 from a1, ob_def, bin_nI (by omega) (by decide), e10, ← s2, e28]
  rcases c_needs (n := n) (R := fun q => (rowL 7 s 0).getD q 0) (by omega) hI c0 c7 hl0 hR (hT.fr f2 sc) r5 r74 with ⟨st, σ3, b1, b2, b3⟩ | ⟨st, b1⟩
  · have f3 : frC (fun a => a = 12 ∨ a = 13 ∨ (71 ≤ a ∧ a ≤ 76)) σ σ3 := f2.trans (b3.mono (fun a z => by omega))
    obtain ⟨σ4, d1, d2, d3⟩ := c_ask_l (n := n) (h := h) (R := fun q => (rowL 7 s 0).getD q 0) (σ0 := σ3) (by omega) hI (by omega) hh2 c7 hR n 0 σ3 (hT.fr f3 sc) (hG.go f3 sg) (by rw [(b3 71 (by decide)).1]; exact r5) (by rw [(b3 71 (by decide)).1, s2, uI_1, if_pos ⟨rfl, rfl⟩]) (fun q hq => by rw [(b3 74 (by decide)).2.1]; exact r74 q hq) (fun q hq => by omega) frC.rf (by omega) (by omega)
    obtain ⟨σ5, e1, e2, e3⟩ := f_fill_75 (n := n) (by omega) ci_0 σ4
    obtain ⟨σ6, s6⟩ : ∃ y, y = uI σ5 71 8 (1073741824 : Int32) := ⟨_, rfl⟩
    have g71 : ∀ k, ¬ k = 8 → σ6.1 71 k = σ2.1 71 k := fun k hk => by
      rw [s6, uI_1, if_neg (fun u => hk u.2), (e3 71 (by decide)).1, (d3 71 (by decide)).1, (b3 71 (by decide)).1]
    have f6 : frC (fun a => a = 71) σ5 σ6 := by
      rw [s6]
      exact frC.uI rfl
    have b6 : σ6.1 71 6 = nI (tB T) := by
      rw [g71 6 (by decide), s2, uI_1, if_pos ⟨rfl, rfl⟩]
    have H : MkS T L G h (rowL 7 s 0).length (fun q => (rowL 7 s 0).getD q 0) σ6 := by
      refine ⟨(g71 5 (by decide)).trans r5, b6, fun q hq => ?_, fun q hq bk hbk => ?_⟩
      · rw [(f6 73 (by decide)).2.1, (e3 73 (by decide)).2.1, (d3 73 (by decide)).2.1]
        exact b2 q hq
      · rw [(f6 72 (by decide)).2.1, (e3 72 (by decide)).2.1]
        exact d2 q hq bk hbk
    have gdE2 : ∀ x, gdP T L G h s m l0 x = true ↔ ∀ i, i + 1 < (rowL 7 s 0).length → fv (lkg T L G h (dg (m + 1) (tB T) x) ((rowL 7 s 0).getD i 0) i) (tB T) = tHome T ((rowL 7 s 0).getD (i + 1) 0) := fun x => (gdE x).trans ⟨fun u => u.2, fun u => ⟨st, u⟩⟩
    obtain ⟨σ7, k1, k2, k3⟩ := c_search_l (n := n) (h := h) (m := m) (all := (m + 1) ^ tB T) (R := fun q => (rowL 7 s 0).getD q 0) (gd := gdP T L G h s m l0) (σ0 := σ6) (by omega) hI (by omega) c7 hm (by omega) hR gdE2 n 0 σ6 H (fun bk hbk => by
      rw [(f6 75 (by decide)).2.1, e2 bk (by omega)]
      unfold dg
      rw [Nat.zero_div, Nat.zero_mod]
      rfl) ⟨by rw [s6, uI_1, if_pos ⟨rfl, rfl⟩]; rfl, fun c ec => by cases ec⟩ frC.rf (by omega) (by omega)
    refine ⟨σ7, (top _).mpr ?_, fun c ec => by rw [← ec]; exact k2, f3.trans ((d3.mono (fun a z => by unfold sc72 at z; omega)).trans ((e3.mono (fun a z => by omega)).trans ((f6.mono (fun a z => by omega)).trans (k3.mono (fun a z => by unfold sc76 at z; omega)))))⟩
    rw [b1, ob_def, if_neg one_ne, show cMarket_askFancies n σ3 = some σ4 from d1, ob_def, e1, ob_def, ← s6]
    rw [show cMarket_search_b61 n n (nI m) ci_1 ci_0 σ6 = _ from c_all_pl (m := m) hB b6 n 0 (by omega) (by omega)]
    exact k1
  · have none : bs (spP T m) (gdP T L G h s m l0) ((m + 1) ^ tB T) = none := bs_none (fun x => by
      cases q : gdP T L G h s m l0 x
      · rfl
      · exact absurd ((gdE x).mp q).1 st) _
    refine ⟨σ2, (top _).mpr ?_, (fun c ec => by rw [none] at ec; cases ec), f2⟩
    rw [b1, ob_def, if_pos rfl, none]
    rfl
theorem sim_prices {i : Nat} {σC σM : bS} (hi : i ≤ 3072) (h : Rel i σC σM) (x y u v : Int32) : Sim_prices (Rel (i + 6)) x y u v σC σM := by
  have hrel := h
  obtain ⟨T, L, G, H⟩ := h
  have H : RelB i T L G σC σM := H
  have hM := H.1.2.2.2.1
  have hB := H.1.1
  have hGG := H.1.2.2.1
  have h7 : (2 : Nat) ^ tM T ≤ 2 ^ 7 := Nat.pow_le_pow_right (by decide) hM
  have h2 := H.2.1
  have h3 := H.2.2.1
  obtain ⟨hr, r1, r2, r3⟩ := Rel.hour H.2.2.2.2.2.1 hi
  have e12 : sA σM 12 ci_0 = nI (tB T) := (sA_c0 _ _).trans h3.1.1
  have rows := row_cases (n := 6000) (n1 := 6000) (by omega) (by omega) H x y
  -- all that is refused by u and v
  have bad : (∀ σ, (if u < 0 then cTop_prices_b24 6000 σ else if ci_3 < u then cTop_prices_b24 6000 σ else if v = ci_m1 then cTop_prices_b26 6000 x y u v σ else ob (cTop_isBank 6000 v σ) fun q3 => if q3.1 = 0 then cTop_prices_b24 6000 q3.2 else cTop_prices_b26 6000 x y u v q3.2) = cTop_prices 6000 x y u v σ) := fun σ => rfl
  rcases ncases 4 (by decide) u with ⟨m, hm, rfl⟩ | hu
  · have u1 : ¬ nI m < 0 := nI_pos (by omega)
    have u2 : ¬ ci_3 < nI m := fun z => by
      rw [ci_3_n] at z
      have := (nI_ltI (by omega) (by omega)).mp z
      omega
    have u3 : ∀ σ : bS, m_isIn 6000 (nI m) ci_0 ci_3 σ = some (1, σ) := fun σ => by
      unfold m_isIn
      rw [if_neg (show ¬ nI m < ci_0 from u1), if_neg u2]
      rfl
    have hv : (v = -1 ∨ ∃ j, j < tB T ∧ v = nI j) ∨ (¬ v = -1 ∧ (v < 0 ∨ nI (tB T) ≤ v)) := by
      by_cases z : v = -1
      · exact Or.inl (Or.inl z)
      · rcases ncases (tB T) (by omega) v with w | w
        · exact Or.inl (Or.inr w)
        · exact Or.inr ⟨z, w⟩
    rcases hv with hv | ⟨z, w⟩
    · have c26 : ∀ σ, σ = σC → cTop_prices 6000 x y (nI m) v σ = cTop_prices_b26 6000 x y (nI m) v σ := fun σ e => by
        unfold cTop_prices
        rw [if_neg u1, if_neg u2, cim1]
        rcases hv with rfl | ⟨j, hj, rfl⟩
        · rw [if_pos rfl]
        · rw [if_neg (nI_m1 (by omega)), e, c_isBank1 h2.1.1 (by omega) hj, ob_def, if_neg one_ne]
      have v1 : m_isIn 6000 v ci_m1 (nI (tB T) - ci_1) σM = some (1, σM) := by
        unfold m_isIn
        rcases hv with rfl | ⟨j, hj, rfl⟩
        · have q : ¬ (nI (tB T) - ci_1) < (-1 : Int32) := by
            have : tB T = 0 ∨ tB T = 1 ∨ tB T = 2 ∨ tB T = 3 ∨ tB T = 4 ∨ tB T = 5 ∨ tB T = 6 := by omega
            rcases this with e | e | e | e | e | e | e <;> rw [e] <;> decide
          rw [if_neg (show ¬ (-1 : Int32) < ci_m1 by decide), if_neg q]
          rfl
        · have q1 : ¬ nI j < ci_m1 := by
            have : j = 0 ∨ j = 1 ∨ j = 2 ∨ j = 3 ∨ j = 4 ∨ j = 5 := by omega
            rcases this with e | e | e | e | e | e <;> rw [e] <;> decide
          rw [if_neg q1, ci1_nI, nI_sub (by omega), if_neg (fun t => by have := (nI_ltI (by omega) (by omega)).mp t; omega)]
          rfl
      rcases rows with ⟨a1, a2⟩ | ⟨b, s, hb, h0, hs, rfl, rfl, a2, ⟨a3, a4⟩ | ⟨a3, a4, a5⟩⟩
      · refine ⟨6000, 6000, -1, σC, σM, ?_, ?_, hrel.mono (by omega)⟩
        · rw [c26 _ rfl]
          unfold cTop_prices_b26
          rw [a1, ob_def, if_neg m1_ne]
        · unfold m_prices
          rw [a2, ob_def, if_pos rfl, m_prices_b35, cim1]
      · refine ⟨6000, 6000, -2, σC, uI σM 0 40 ci_0, ?_, ?_, hrel.of (by omega) frC.rf frQw⟩
        · rw [c26 _ rfl]
          unfold cTop_prices_b26
          rw [a3, ob_def, if_neg m2_ne]
        · unfold m_prices
          rw [a2, ob_def, if_neg one_ne, u3, ob_def, if_neg one_ne, bin_c0 (by decide) (by decide), e12, m_prices_b29, v1, ob_def, if_neg one_ne, a4, ob_def, if_pos rfl, cbm2]
      · obtain ⟨l0, hl0, el0, -⟩ := lI_of (B := tB T) (by omega) (H.2.2.2.2.2.1.2.1 b hb)
        have hpw : (m + 1) ^ tB T ≤ 4 ^ 6 := Nat.le_trans (Nat.pow_le_pow_left (by omega) _) (Nat.pow_le_pow_right (by decide) hB)
        obtain ⟨σ1, c1, c2, c3⟩ := c_market (n := 6000) (m := m) (by omega) H.1 h2 H.2.2.2.1 (by omega) r2 hb h0 hs (by omega) hl0 el0
        have h3' : MTx T L (uI σM 0 40 ci_0) := h3.of (fun _ _ _ => rfl)
        obtain ⟨σ2, d1, d2⟩ := m_pri_l (n := 6000) (m := m) (all := (m + 1) ^ tB T) (σ0 := uI σM 0 40 ci_0) (by omega) H.1 (H.2.2.2.2.2.1.up hi) r2 (by omega) hb h0 hs a5 (by omega) hl0 el0 (by omega) hv 6000 0 (uI σM 0 40 ci_0) h3' H.2.2.2.2.1 frQ.rf (fun c ec => by cases ec) (by omega) (by omega)
        refine ⟨6000, 6000, anP (spP T m) (dg (m + 1) (tB T)) v (bs (spP T m) (gdP T L G hr s m l0) ((m + 1) ^ tB T)), σ1, σ2, ?_, ?_, hrel.of (by omega) (c3.mono (fun a z => by unfold scrC; omega)) (frQw.trans d2)⟩
        · rw [c26 _ rfl]
          unfold cTop_prices_b26
          rw [a3, ob_def, if_pos rfl, c1, ob_def]
          cases eb : bs (spP T m) (gdP T L G hr s m l0) ((m + 1) ^ tB T) with
          | none =>
            show (if (0 : Int32) = 0 then _ else _) = _
            rw [if_pos rfl, cbm2]
            rfl
          | some c =>
            obtain ⟨k1, k2⟩ := c2 c eb
            show (if (1 : Int32) = 0 then _ else _) = _
            rw [if_neg one_ne, cim1]
            have e8 : sI σ1 71 8 = nI (spP T m c) := k1
            unfold anP
            rcases hv with rfl | ⟨j, hj, rfl⟩
            · rw [if_pos rfl]
              show some (sI σ1 71 8, σ1) = some ((if (-1 : Int32) = -1 then nI (spP T m c) else _), σ1)
              rw [if_pos rfl, e8]
            · rw [if_neg (nI_m1 (by omega))]
              show bin_ (nI j) 6 (some (sA σ1 76 (nI j), σ1)) = some ((if nI j = -1 then nI (spP T m c) else nI (dg (m + 1) (tB T) c (nI j).toNatClampNeg)), σ1)
              rw [if_neg (nI_m1 (by omega)), bin_nI (by omega) (by decide), sA_n _ _ (by omega), nI_clamp (by omega), k2 c rfl j hj]
        · unfold m_prices
          rw [a2, ob_def, if_neg one_ne, u3, ob_def, if_neg one_ne, bin_c0 (by decide) (by decide), e12, m_prices_b29, v1, ob_def, if_neg one_ne, a4, ob_def, if_neg one_ne]
          rw [show m_prices_b55 6000 6000 (nI b) (nI s) (nI m) v ci_1 ci_0 (uI σM 0 40 ci_0) = _ from m_all_l (m := m) hB h3' 6000 0 (by omega) (by omega)]
          exact d1
    · refine ⟨6000, 6000, -1, σC, σM, ?_, ?_, hrel.mono (by omega)⟩
      · unfold cTop_prices
        rw [if_neg u1, if_neg u2, cim1, if_neg z, c_isBank0 h2.1.1 w, ob_def, if_pos rfl, cTop_prices_b24, cim1]
      · have v1 : m_isIn 6000 v ci_m1 (nI (tB T) - ci_1) σM = some (0, σM) := by
          unfold m_isIn
          by_cases t : v < ci_m1
          · rw [if_pos t]; rfl
          · rw [if_neg t, if_pos]
            · rfl
            · rcases w with w | w
              · exfalso
                apply z
                rw [cim1, Int32.lt_iff_toInt_lt] at t
                rw [Int32.lt_iff_toInt_lt] at w
                apply Int32.toInt_inj.mp
                have q1 : (-1 : Int32).toInt = -1 := by decide
                have q2 : (0 : Int32).toInt = 0 := by decide
                omega
              · refine Int32.lt_of_lt_of_le ?_ w
                have : tB T = 0 ∨ tB T = 1 ∨ tB T = 2 ∨ tB T = 3 ∨ tB T = 4 ∨ tB T = 5 ∨ tB T = 6 := by omega
                rcases this with e | e | e | e | e | e | e <;> rw [e] <;> decide
        unfold m_prices
        rcases rows with ⟨a1, a2⟩ | ⟨b, s, hb, h0, hs, rfl, rfl, a2, -⟩
        · rw [a2, ob_def, if_pos rfl, m_prices_b35, cim1]
        · rw [a2, ob_def, if_neg one_ne, u3, ob_def, if_neg one_ne, bin_c0 (by decide) (by decide), e12, m_prices_b29, v1, ob_def, if_pos rfl, m_prices_b35, cim1]
  · refine ⟨6000, 6000, -1, σC, σM, ?_, ?_, hrel.mono (by omega)⟩
    · unfold cTop_prices
      rcases hu with hu | hu
      · rw [if_pos hu, cTop_prices_b24, cim1]
      · split
        · rw [cTop_prices_b24, cim1]
        · rw [if_pos (show ci_3 < u from Int32.lt_of_lt_of_le (by decide) hu), cTop_prices_b24, cim1]
    · have u3 : ∀ σ : bS, m_isIn 6000 u ci_0 ci_3 σ = some (0, σ) := fun σ => by
        unfold m_isIn
        rcases hu with hu | hu
        · rw [if_pos (show u < ci_0 from hu)]; rfl
        · split
          · rfl
          · rw [if_pos (show ci_3 < u from Int32.lt_of_lt_of_le (by decide) hu)]; rfl
      unfold m_prices
      rcases rows with ⟨a1, a2⟩ | ⟨b, s, hb, h0, hs, rfl, rfl, a2, -⟩
      · rw [a2, ob_def, if_pos rfl, m_prices_b35, cim1]
      · rw [a2, ob_def, if_neg one_ne, u3, ob_def, if_pos rfl, m_prices_b35, cim1]
