theorem scrG_scG : ∀ a, scG 27 a → scrG a := fun a h => by unfold scrG scrC; unfold scG at h; omega
theorem scrG_sc : ∀ a, sc12 a → scrG a := fun a h => Or.inl (scrC12 a h)
theorem MG.w0 {T : aT} {w : Nat} {G : aG} {σ : bS} {k : Nat} {v : Int32} (h : MG T w G σ) : MG T w G (uI σ 0 k v) := h
theorem RelB.setw {i : Nat} {T : aT} {L : aL} {G : aG} {σC σM : bS} {v : Int32} (h : RelB i T L G σC σM) : RelB i T L G σC (uI σM 0 40 v) := h.go (Nat.le_refl _) frC.rf (frGM.uI (by unfold scrI; decide)) h.2.2.2.1 h.2.2.2.2.1 h.2.2.2.2.2.1 h.2.2.2.2.2.2.1
theorem RelB.could {i n m b h : Nat} {T : aT} {L : aL} {G : aG} {σC σM : bS} (hn : 1000 ≤ n) (H : RelB i T L G σC σM) (hw : σM.1 0 40 = nI 0) (hm : m < tM T) (hb : b < tG T) (hh : h < 2 ^ 31) (hh2 : G 0 0 = nI h) : ∃ σC' σM', cGoing_couldCross n (nI m) (nI b) σC = some (if G 5 m = nI (tFoot T b) ∧ ¬ G 7 m < sToll T L G m b h then 1 else 0, σC') ∧ m_could n (nI m) (nI b) σM = some (if G 5 m = nI (tFoot T b) ∧ ¬ G 7 m < sToll T L G m b h then 1 else 0, σM') ∧ RelB i T L G σC' σM' ∧ σM'.1 0 40 = nI 0 := by
  obtain ⟨σC1, c1, c2⟩ := c_could (n := n) (by omega) H.1 H.2.1 H.2.2.2.1 hm hb hh hh2
  obtain ⟨σM1, m1, m2⟩ := m_could_eq (n := n) (w := 0) hn H.1 H.2.2.1 H.2.2.2.2.1 H.2.2.2.2.2.1 hw (by omega) hm hb hh hh2
  exact ⟨σC1, σM1, c1, m1, H.go (Nat.le_refl _) (c2.mono scrG_sc) (frGM.ofS m2) (H.2.2.2.1.scr (by omega) c2) (H.2.2.2.2.1.scr m2) H.2.2.2.2.2.1 H.2.2.2.2.2.2.1, (m2.1 40 (by decide)).trans hw⟩
theorem RelB.cross {i n m b h : Nat} {T : aT} {L : aL} {G : aG} {σC σM : bS} (hn : 1000 ≤ n) (H : RelB i T L G σC σM) (hw : σM.1 0 40 = nI 0) (hm : m < tM T) (hb : b < tG T) (hh : h < 2 ^ 31) (hh2 : G 0 0 = nI h) (hat : G 5 m = nI (tFoot T b)) : ∃ σC' σM', cGoing_crossOver n (nI m) (nI b) σC = some (G 3 b, σC') ∧ m_crosses n (nI m) (nI b) σM = some (sTo G b, σM') ∧ RelB i T L (sCross T L G m b h) σC' σM' ∧ σM'.1 0 40 = nI 0 := by
  obtain ⟨σC1, c1, c2, c3⟩ := c_cross (n := n) (by omega) H.1 H.2.1 H.2.2.2.1 H.2.2.2.2.2.1 hm hb hh hh2
  obtain ⟨σM1, m1, m2, m3⟩ := m_cross_eq (n := n) (w := 0) hn H.1 H.2.2.1 H.2.2.2.2.1 H.2.2.2.2.2.1 hw (by omega) hm hb hh hh2 hat
  exact ⟨σC1, σM1, c1, m1, H.go (Nat.le_refl _) (c3.mono scrG_scG) (frGM.ofR m3 (by omega)) c2 m2 (sCross_inv H.1 H.2.2.2.2.2.1 hm hb) H.2.2.2.2.2.2.1, (m3.1 40 (by decide)).trans hw⟩
theorem RelB.hour {i j n h : Nat} {T : aT} {L : aL} {G : aG} {σC σM : bS} (hn : 20 ≤ n) (H : RelB i T L G σC σM) (hij : i ≤ j) (hw : σM.1 0 40 = nI 0) (hh : h + 1 < 2 ^ 31) (hh2 : G 0 0 = nI h) (hj : h + 1 ≤ 34 * j) : ∃ σC' σM', cGoing_hourPasses n σC = some σC' ∧ m_hourGoes n σM = some σM' ∧ RelB j T L (sHour T G h) σC' σM' ∧ σM'.1 0 40 = nI 0 := by
  obtain ⟨σC1, c1, c2, c3⟩ := c_hour hn H.1 H.2.1 H.2.2.2.1 hh hh2
  obtain ⟨σM1, m1, m2, m3⟩ := m_hour (w := 0) hn H.1 H.2.2.1 H.2.2.2.2.1 hw (by omega) hh hh2
  exact ⟨σC1, σM1, c1, m1, H.go hij (c3.mono scrG_scG) (frGM.ofR m3 (by omega)) c2 m2 (sHour_inv H.1 H.2.2.2.2.2.1 hj) H.2.2.2.2.2.2.1, (m3.1 40 (by decide)).trans hw⟩
theorem cross_ans {T : aT} {i b n : Nat} {G : aG} {σ : bS} (k : Int32 → bS → Option (Int32 × bS)) (hk : ∀ s σ, k s σ = some (s, σ)) : (if 0 ≤ G 3 b then k (G 3 b) σ else k cb_m3 σ) = some (sTo G b, σ) := by
  unfold sTo
  by_cases z : G 3 b < 0
  · rw [if_neg (Int32.not_le.mpr z), if_pos z, hk, cbm3]
  · rw [if_pos (Int32.not_lt.mp z), if_neg z, hk]
theorem sim_cross {i : Nat} {σC σM : bS} (hi : i ≤ 3072) (h : Rel i σC σM) (x y : Int32) : Sim_cross (Rel (i + 6)) x y σC σM := by
  have hrel := h
  obtain ⟨T, L, G, H0⟩ := h
  have H : RelB i T L G σC σM := H0
  have h2 := H.2.1
  have h3 := H.2.2.1
  have hM := H.1.2.2.2.1
  have hGG := H.1.2.2.1
  obtain ⟨hr, r1, r2, r3⟩ := Rel.hour H.2.2.2.2.2.1 hi
  rcases ncases (tM T) (by omega) x with ⟨m, hm, rfl⟩ | hx
  · rcases ncases (tG T) (by omega) y with ⟨b, hb, rfl⟩ | hy
    · obtain ⟨σC1, σM1, c1, m1, H1, w1⟩ := H.setw.could (n := 1000) (σM := uI σM 0 40 ci_0) (by omega) rfl hm hb r1 r2
      by_cases z : G 5 m = nI (tFoot T b) ∧ ¬ G 7 m < sToll T L G m b hr
      · rw [if_pos z] at c1 m1
        obtain ⟨σC2, σM2, c2, m2, H2, w2, -⟩ := H1.keep (n := 1000) (n1 := 1000) (by omega)
        obtain ⟨σC3, σM3, c3, m3, H3, w3⟩ := H2.cross (n := 1000) (by omega) w2 hm hb r1 r2 z.1
        obtain ⟨σC4, σM4, c4, m4, H4, w4⟩ := H3.hour (n := 1000) (j := i + 6) (h := hr) (by omega) (by omega) w3 (by omega) r2 (by omega)
        refine ⟨1000, 1000, sTo G b, σC4, σM4, ?_, ?_, H4.rel⟩
        · unfold cTop_cross
          rw [c_isMan1 h2.1.2.2.2 (by omega) hm, ob_def, if_neg one_ne, c_isBridge1 h2.1.2.2.1 (by omega) hb, ob_def, if_neg one_ne, c1, ob_def, if_neg one_ne, c2, ob_def, c3, ob_def, c4, ob_def]
          exact cross_ans (T := T) (i := i) (n := 0) (cTop_cross_b71 1000) (fun _ _ => rfl)
        · unfold m_cross
          rw [m_isMan1 h3.1.2.2.2 (by omega) hm, ob_def, if_neg one_ne, m_isBridge1 h3.1.2.2.1 (by omega) hb, ob_def, if_neg one_ne, m1, ob_def, if_neg one_ne, m2, ob_def, m3, ob_def, m4, ob_def]
      · rw [if_neg z] at c1 m1
        refine ⟨1000, 1000, -2, σC1, σM1, ?_, ?_, H1.rel.mono (by omega)⟩
        · unfold cTop_cross
          rw [c_isMan1 h2.1.2.2.2 (by omega) hm, ob_def, if_neg one_ne, c_isBridge1 h2.1.2.2.1 (by omega) hb, ob_def, if_neg one_ne, c1, ob_def, if_pos rfl, cbm2]
        · unfold m_cross
          rw [m_isMan1 h3.1.2.2.2 (by omega) hm, ob_def, if_neg one_ne, m_isBridge1 h3.1.2.2.1 (by omega) hb, ob_def, if_neg one_ne, m1, ob_def, if_pos rfl, cbm2]
    · refine ⟨1000, 1000, -1, σC, σM, ?_, ?_, hrel.mono (by omega)⟩
      · unfold cTop_cross
        rw [c_isMan1 h2.1.2.2.2 (by omega) hm, ob_def, if_neg one_ne, c_isBridge0 h2.1.2.2.1 hy, ob_def, if_pos rfl]
        rfl
      · unfold m_cross
        rw [m_isMan1 h3.1.2.2.2 (by omega) hm, ob_def, if_neg one_ne, m_isBridge0 h3.1.2.2.1 hy, ob_def, if_pos rfl]
        rfl
  · refine ⟨1000, 1000, -1, σC, σM, ?_, ?_, hrel.mono (by omega)⟩
    · unfold cTop_cross
      rw [c_isMan0 h2.1.2.2.2 hx, ob_def, if_pos rfl]
      rfl
    · unfold m_cross
      rw [m_isMan0 h3.1.2.2.2 hx, ob_def, if_pos rfl]
      rfl
/-! hire -/
def sHire (T : aT) (G : aG) (b : Nat) (x : Int32) : aG := fun t i => if t = 3 then (if i = b then x else G 3 i) else if t = 1 then (if i = 0 then G 1 0 + tHire T else G 1 i) else if t = 2 then (if i = 0 then G 2 0 + 1 else G 2 i) else G t i
theorem sim_hire {i : Nat} {σC σM : bS} (hi : i ≤ 3072) (h : Rel i σC σM) (x y : Int32) : Sim_hire (Rel (i + 6)) x y σC σM := by
  have hrel := h
  obtain ⟨T, L, G, H0⟩ := h
  have H : RelB i T L G σC σM := H0
  have h2 := H.2.1
  have h3 := H.2.2.1
  have hB := H.1.1
  have hM := H.1.2.2.2.1
  have hGG := H.1.2.2.1
  obtain ⟨hr, r1, r2, r3⟩ := Rel.hour H.2.2.2.2.2.1 hi
  rcases ncases (tG T) (by omega) x with ⟨b, hb, rfl⟩ | hx
  · rcases ncases (tB T) (by omega) y with ⟨k, hk, rfl⟩ | hy
    · obtain ⟨σC2, σM2, c2, m2, H2, w2, -⟩ := H.keep (n := 1000) (n1 := 1000) (by omega)
      have g4 := H2.2.2.2.1
      have g5 := H2.2.2.2.2.1
      have gi := H2.2.2.2.2.2.1
      obtain ⟨σC3, sC⟩ : ∃ z, z = uI (uI (uA σC2 28 (nI b) (nI k)) 27 3 (G 1 0 + tHire T)) 27 4 (G 2 0 + 1) := ⟨_, rfl⟩
      obtain ⟨σM3, sM⟩ : ∃ z, z = uA (uA (uA σM2 29 (nI (1 + b)) (nI k)) 29 (nI 40) (G 1 0 + tHire T)) 29 (nI 41) (G 2 0 + 1) := ⟨_, rfl⟩
      have fC : frC scrG σC2 σC3 := by
        rw [sC]
        exact frCaI (frCaI (frCaA frC.rf (Or.inr (by omega))) (Or.inr (by omega))) (Or.inr (by omega))
      have rM : ∀ p, σM3.2.1 29 p = if p = 41 then G 2 0 + 1 else if p = 40 then G 1 0 + tHire T else if p = 1 + b then nI k else σM2.2.1 29 p := fun p => by
        rw [sM, uA_2, uA_2, uA_2, nI_clamp (by omega), nI_clamp (by omega), nI_clamp (by omega)]
        simp
      have fM : frR 0 σM2 σM3 := by
        rw [sM]
        exact frRa (frRa (frRa frR.rf (by omega) (by omega) (by omega)) (by omega) (by omega) (by omega)) (by omega) (by omega) (by omega)
      have H3 : RelB i T L (sHire T G b (nI k)) σC3 σM3 := by
        refine H2.go (Nat.le_refl _) fC (frGM.ofR fM (by omega)) ⟨⟨?_, ?_, ?_, ?_⟩, fun j hj => ⟨?_, ?_⟩, fun j hj => ?_⟩ ⟨⟨?_, ?_, ?_, ?_⟩, fun j hj => ⟨?_, ?_⟩, fun j hj => ⟨?_, ?_, ?_, ?_, ?_⟩⟩ ⟨gi.1, fun b' hb' => ?_, gi.2.2⟩ H2.2.2.2.2.2.2.1
        · rw [sC, uI_1, uI_1]; exact g4.1.1
        · rw [sC, uI_1, uI_1]; rfl
        · rw [sC, uI_1]; rfl
        · rw [sC, uI_1, uI_1]; exact g4.1.2.2.2
        · rw [sC]
          show (uA σC2 28 (nI b) (nI k)).2.1 28 j = (if j = b then nI k else G 3 j)
          rw [uA_2, nI_clamp (by omega), (g4.2.1 j hj).1]
          simp
        · rw [sC]
          show (uA σC2 28 (nI b) (nI k)).2.1 29 j = G 4 j
          rw [uA_o _ _ _ _ (by decide)]
          exact (g4.2.1 j hj).2
        · rw [sC]
          show (uA σC2 28 (nI b) (nI k)).2.1 30 j = G 5 j ∧ (uA σC2 28 (nI b) (nI k)).2.1 31 j = G 6 j ∧ (uA σC2 28 (nI b) (nI k)).2.1 32 j = G 7 j ∧ (uA σC2 28 (nI b) (nI k)).2.1 33 j = G 8 j ∧ (uA σC2 28 (nI b) (nI k)).2.1 34 j = G 9 j
          rw [uA_o _ _ _ _ (by decide), uA_o _ _ _ _ (by decide), uA_o _ _ _ _ (by decide), uA_o _ _ _ _ (by decide), uA_o _ _ _ _ (by decide)]
          exact g4.2.2 j hj
        · rw [rM, if_neg (by omega), if_neg (by omega), if_neg (by omega)]; exact g5.1.1
        · rw [rM, if_neg (by omega), if_pos (by omega)]; rfl
        · rw [rM, if_pos (by omega)]; rfl
        · rw [rM, if_neg (by omega), if_neg (by omega), if_neg (by omega)]; exact g5.1.2.2.2
        · show _ = md (if j = b then nI k else G 3 j)
          rw [rM, if_neg (by omega), if_neg (by omega)]
          by_cases z : j = b
          · rw [if_pos (by omega), if_pos z, md_n (by omega)]
          · rw [if_neg (by omega), if_neg z]
            exact (g5.2.1 j hj).1
        · rw [rM, if_neg (by omega), if_neg (by omega), if_neg (by omega)]; exact (g5.2.1 j hj).2
        · rw [rM, if_neg (by omega), if_neg (by omega), if_neg (by omega)]; exact (g5.2.2 j hj).1
        · rw [rM, if_neg (by omega), if_neg (by omega), if_neg (by omega)]; exact (g5.2.2 j hj).2.1
        · rw [rM, if_neg (by omega), if_neg (by omega), if_neg (by omega)]; exact (g5.2.2 j hj).2.2.1
        · rw [rM, if_neg (by omega), if_neg (by omega), if_neg (by omega)]; exact (g5.2.2 j hj).2.2.2.1
        · rw [rM, if_neg (by omega), if_neg (by omega), if_neg (by omega)]; exact (g5.2.2 j hj).2.2.2.2
        · show orN (tB T) (if b' = b then nI k else G 3 b')
          by_cases z : b' = b
          · rw [if_pos z]; exact Or.inr ⟨k, hk, rfl⟩
          · rw [if_neg z]; exact gi.2.1 b' hb'
      obtain ⟨σC4, σM4, c4, m4, H4, w4⟩ := H3.hour (n := 1000) (j := i + 6) (h := hr) (by omega) (by omega) ((fM.1 40 (by decide)).trans w2) (by omega) r2 (by omega)
      refine ⟨1000, 1000, 1, σC4, σM4, ?_, ?_, H4.rel⟩
      · have e1 : sI (uA σC2 28 (nI b) (nI k)) 27 3 = G 1 0 := g4.1.2.1
        have e2 : sI (uA σC2 28 (nI b) (nI k)) 1 17 = tHire T := H2.2.1.2.1.2.2.1
        have e3 : sI (uI (uA σC2 28 (nI b) (nI k)) 27 3 (G 1 0 + tHire T)) 27 4 = G 2 0 := g4.1.2.2.1
        unfold cTop_hire
        rw [c_isBridge1 h2.1.2.2.1 (by omega) hb, ob_def, if_neg one_ne, c_isBank1 h2.1.1 (by omega) hk, ob_def, if_neg one_ne, c2, ob_def, bin_nI (by omega) (by decide), e1, e2, e3, ci1_1, ← sC, c4, ob_def]
        rfl
      · have e1 : sA (uA σM2 29 (nI (1 + b)) (nI k)) 29 (nI 40) = G 1 0 := by
          rw [sA_n _ _ (by decide), uA_2, nI_clamp (by omega), if_neg (show ¬ (29 = 29 ∧ 40 = 1 + b) by omega)]
          exact g5.1.2.1
        have e2 : sA (uA σM2 29 (nI (1 + b)) (nI k)) 24 (nI 2) = tHire T := by
          rw [sA_n _ _ (by decide), uA_o _ _ _ _ (by decide)]
          exact H2.2.2.1.2.1.2.2.1
        have e3 : sA (uA (uA σM2 29 (nI (1 + b)) (nI k)) 29 (nI 40) (G 1 0 + tHire T)) 29 (nI 41) = G 2 0 := by
          rw [sA_n _ _ (by decide), uA_2, uA_2, nI_clamp (by omega), nI_clamp (by omega), if_neg (show ¬ (29 = 29 ∧ 41 = 40) by omega), if_neg (show ¬ (29 = 29 ∧ 41 = 1 + b) by omega)]
          exact g5.1.2.2.1
        unfold m_hire
        rw [m_isBridge1 h3.1.2.2.1 (by omega) hb, ob_def, if_neg one_ne, m_isBank1 h3.1.1 (by omega) hk, ob_def, if_neg one_ne, m2, ob_def, ci1_nI, nI_add, cb_40_n, cb_41_n, ci_2_n, e1, e2, e3, bin_nI (by omega) (by decide), bin_nI (by omega) (by decide), bin_nI (by omega) (by decide), bin_nI (by omega) (by decide), bin_nI (by omega) (by decide), bin_nI (by omega) (by decide), show nI 1 = 1 from rfl, ← sM, m4, ob_def]
        rfl
    · refine ⟨1000, 1000, 0, σC, σM, ?_, ?_, hrel.mono (by omega)⟩
      · unfold cTop_hire
        rw [c_isBridge1 h2.1.2.2.1 (by omega) hb, ob_def, if_neg one_ne, c_isBank0 h2.1.1 hy, ob_def, if_pos rfl]
        rfl
      · unfold m_hire
        rw [m_isBridge1 h3.1.2.2.1 (by omega) hb, ob_def, if_neg one_ne, m_isBank0 h3.1.1 hy, ob_def, if_pos rfl]
        rfl
  · refine ⟨1000, 1000, 0, σC, σM, ?_, ?_, hrel.mono (by omega)⟩
    · unfold cTop_hire
      rw [c_isBridge0 h2.1.2.2.1 hx, ob_def, if_pos rfl]
      rfl
    · unfold m_hire
      rw [m_isBridge0 h3.1.2.2.1 hx, ob_def, if_pos rfl]
      rfl
/-! hours -/
theorem hours_l {n i c : Nat} {T : aT} {L : aL} (hn : 20 ≤ n) (hi : i ≤ 4000) (hc : c ≤ 200) : ∀ (k j h : Nat) (G : aG) (σC σM : bS), RelB i T L G σC σM → σM.1 0 40 = nI 0 → G 0 0 = nI h → h + (c - j) ≤ 34 * i → j ≤ c → c < j + k → ∃ (G' : aG) (σC' σM' : bS), cTop_hours_b30 n k (nI c) (nI j) σC = some (G' 0 0, σC') ∧ m_hoursGo_b2 n k (nI c) (nI j) σM = some σM' ∧ RelB i T L G' σC' σM'
  | 0, j, h, G, σC, σM, H, hw, hh, h1, h2, h3 => by omega
  | k + 1, j, h, G, σC, σM, H, hw, hh, h1, h2, h3 => by
    rw [cTop_hours_b30, m_hoursGo_b2]
    by_cases hj : j < c
    · obtain ⟨σC1, σM1, c1, m1, H1, w1⟩ := H.hour hn (Nat.le_refl _) hw (show h + 1 < 2 ^ 31 by omega) hh (by omega)
      rw [if_neg (nI_ge hj (by omega)), if_neg (nI_ge hj (by omega)), c1, m1, ob_def, ob_def, ci1_nI, nI_add]
      exact hours_l hn hi hc k (j + 1) (h + 1) _ σC1 σM1 H1 w1 rfl (by omega) hj (by omega)
    · have e : j = c := by omega
      subst e
      rw [if_pos (Int32.le_refl _), if_pos (Int32.le_refl _)]
      exact ⟨G, σC, σM, by rw [sI_d, H.2.2.2.1.1.1], rfl, H⟩
theorem walk_l {n i c : Nat} {T : aT} {L : aL} (hn : 20 ≤ n) (hi : i ≤ 4000) (hc : c ≤ 200) : ∀ (k j h : Nat) (G : aG) (σC σM : bS), RelB i T L G σC σM → σM.1 0 40 = nI 0 → G 0 0 = nI h → h + (c - j) ≤ 34 * i → j ≤ c → c < j + k → ∃ (G' : aG) (σC' σM' : bS), cTop_walk_b93 n k (nI c) (nI j) σC = some (nI c, σC') ∧ m_hoursGo_b2 n k (nI c) (nI j) σM = some σM' ∧ RelB i T L G' σC' σM'
  | 0, j, h, G, σC, σM, H, hw, hh, h1, h2, h3 => by omega
  | k + 1, j, h, G, σC, σM, H, hw, hh, h1, h2, h3 => by
    rw [cTop_walk_b93, m_hoursGo_b2]
    by_cases hj : j < c
    · obtain ⟨σC1, σM1, c1, m1, H1, w1⟩ := H.hour hn (Nat.le_refl _) hw (show h + 1 < 2 ^ 31 by omega) hh (by omega)
      rw [if_neg (nI_ge hj (by omega)), if_neg (nI_ge hj (by omega)), c1, m1, ob_def, ob_def, ci1_nI, nI_add]
      exact walk_l hn hi hc k (j + 1) (h + 1) _ σC1 σM1 H1 w1 rfl (by omega) hj (by omega)
    · have e : j = c := by omega
      subst e
      rw [if_pos (Int32.le_refl _), if_pos (Int32.le_refl _)]
      exact ⟨G, σC, σM, rfl, rfl, H⟩
theorem RelB.mono {i j : Nat} {T : aT} {L : aL} {G : aG} {σC σM : bS} (h : RelB i T L G σC σM) (hij : i ≤ j) : RelB j T L G σC σM := h.go hij frC.rf frGM.rf h.2.2.2.1 h.2.2.2.2.1 (h.2.2.2.2.2.1.mono hij) h.2.2.2.2.2.2.1
theorem out_neg {x : Int32} {b : Nat} (h : x < 0 ∨ nI b < x) : x < 0 ∨ (¬ x < 0 ∧ ¬ x ≤ nI b) := by
  by_cases z : x < 0
  · exact Or.inl z
  · exact Or.inr ⟨z, Int32.not_le.mpr (h.resolve_left z)⟩
theorem sim_hours {i : Nat} {σC σM : bS} (hi : i ≤ 3072) (h : Rel i σC σM) (x : Int32) : Sim_hours (Rel (i + 6)) x σC σM := by
  have hrel := h
  obtain ⟨T, L, G, H0⟩ := h
  have H : RelB i T L G σC σM := H0
  obtain ⟨hr, r1, r2, r3⟩ := Rel.hour H.2.2.2.2.2.1 hi
  rcases kcases 200 (by decide) x with ⟨c, hc, rfl⟩ | hx
  · have key : ∀ σC2 σM2, RelB i T L G σC2 σM2 → ∃ r σC3 σM3, cTop_hours_b28 1000 (nI c) σC2 = some (r, σC3) ∧ m_hours_b21 1000 (nI c) σM2 = some (r, σM3) ∧ Rel (i + 6) σC3 σM3 := fun σC2 σM2 H2 => by
      obtain ⟨G', σC3, σM3, c3, m3, H3⟩ := hours_l (n := 1000) (i := i + 6) (c := c) (by omega) (by omega) hc 1000 0 hr G σC2 (uI σM2 0 40 ci_0) (H2.setw.mono (by omega)) rfl r2 (by omega) (by omega) (by omega)
      refine ⟨G' 0 0, σC3, σM3, c3, ?_, H3.rel⟩
      unfold m_hours_b21 m_hoursGo
      rw [show m_hoursGo_b2 1000 1000 (nI c) ci_0 (uI σM2 0 40 ci_0) = _ from m3, ob_def, bin_c0 (by decide) (by decide), sA_c0, H3.2.2.2.2.1.1.1]
    have e0 : m_isIn 1000 (nI c) ci_0 cs_200 σM = some (1, σM) := by
      rw [cs_200_n]
      exact m_isIn1 (a := 0) (b := 200) (by omega) hc (by decide)
    by_cases z : c = 0
    · subst z
      obtain ⟨r, σC3, σM3, c3, m3, H3⟩ := key σC σM H
      refine ⟨1000, 1000, r, σC3, σM3, ?_, ?_, H3⟩
      · unfold cTop_hours
        rw [if_neg (nI_pos (by omega)), cs_200_n, if_pos ((nI_leI (by omega) (by omega)).mpr (by omega)), if_pos (show nI 0 ≤ 0 from Int32.le_refl _), c3]
      · unfold m_hours
        rw [e0, ob_def, if_neg one_ne, if_pos (show nI 0 ≤ 0 from Int32.le_refl _), m3]
    · obtain ⟨σC2, σM2, c2, m2, H2, w2, -⟩ := H.keep (n := 1000) (n1 := 1000) (by omega)
      obtain ⟨r, σC3, σM3, c3, m3, H3⟩ := key σC2 σM2 H2
      refine ⟨1000, 1000, r, σC3, σM3, ?_, ?_, H3⟩
      · unfold cTop_hours
        rw [if_neg (nI_pos (by omega)), cs_200_n, if_pos ((nI_leI (by omega) (by omega)).mpr (by omega)), if_neg (show ¬ nI c ≤ 0 from nI_ge (a := 0) (by omega) (by omega)), c2, ob_def, c3]
      · unfold m_hours
        rw [e0, ob_def, if_neg one_ne, if_neg (show ¬ nI c ≤ 0 from nI_ge (a := 0) (by omega) (by omega)), m2, ob_def, m3]
  · refine ⟨1000, 1000, -1, σC, σM, ?_, ?_, hrel.mono (by omega)⟩
    · unfold cTop_hours
      rw [cs_200_n]
      rcases out_neg hx with z | ⟨z1, z2⟩
      · rw [if_pos z]; rfl
      · rw [if_neg z1, if_neg z2]; rfl
    · unfold m_hours
      rw [cs_200_n, ci0_0, m_isIn0 hx, ob_def, if_pos rfl]
      rfl
/-! walk -/
def sWalk (G : aG) (m : Nat) (x : Int32) : aG := fun t i => if t = 5 then (if i = m then x else G 5 i) else if t = 9 then (if i = m then 0 else G 9 i) else G t i
theorem sim_walk {i : Nat} {σC σM : bS} (hi : i ≤ 3072) (h : Rel i σC σM) (x y : Int32) : Sim_walk (Rel (i + 6)) x y σC σM := by
  have hrel := h
  obtain ⟨T, L, G, H0⟩ := h
  have H : RelB i T L G σC σM := H0
  have h2 := H.2.1
  have h3 := H.2.2.1
  have hB := H.1.1
  have hM := H.1.2.2.2.1
  have hGG := H.1.2.2.1
  obtain ⟨hr, r1, r2, r3⟩ := Rel.hour H.2.2.2.2.2.1 hi
  rcases ncases (tM T) (by omega) x with ⟨m, hm, rfl⟩ | hx
  · rcases ncases (tB T) (by omega) y with ⟨k, hk, rfl⟩ | hy
    · have e1 : sA σC 30 (nI m) = G 5 m := (sA_n _ _ (by omega)).trans (H.2.2.2.1.2.2 m (by omega)).1
      rcases H.2.2.2.2.2.1.2.2 m hm with ⟨on, a, ha, at_⟩ | ⟨at_, a, ha, on⟩
      · have e2 : cTold_pathHours 1000 (nI a) (nI k) σC = some (nI (tWalk T a k), σC) := by
          unfold cTold_pathHours
          rw [cb_6_n, nI_mul, nI_add, bin_nI (by omega) (by decide), sA_n _ _ (by omega), Nat.mul_comm, h2.2.2.2.2.1 a k (by omega) (by omega)]
        have e3 : sA (uI σM 0 40 ci_0) 29 (nI (5 + m)) = nI a := by
          rw [sA_n _ _ (by omega)]
          show σM.2.1 29 (5 + m) = nI a
          have z := (H.2.2.2.2.1.2.2 m hm).1
          rw [Nat.zero_add] at z
          rw [z, at_, md_n (by omega)]
        have e4 := h3.2.2.2.2.1 a k 1000 (uI σM 0 40 ci_0) ha hk (by omega) (eqH.of rfl) (eqH.of rfl) (eqH.of rfl) (eqH.of rfl)
        by_cases z : tWalk T a k = 0
        · refine ⟨1000, 1000, -2, σC, uI σM 0 40 ci_0, ?_, ?_, H.setw.rel.mono (by omega)⟩
          · unfold cTop_walk
            rw [c_isMan1 h2.1.2.2.2 (by omega) hm, ob_def, if_neg one_ne, c_isBank1 h2.1.1 (by omega) hk, ob_def, if_neg one_ne, bin_nI (by omega) (by decide), e1, at_, if_pos (nI_pos' (by omega)), bin_nI (by omega) (by decide), e2, ob_def]
            unfold cTop_walk_b51
            rw [z, if_pos (show nI 0 = 0 from rfl), cbm2]
          · unfold m_walk
            rw [m_isMan1 h3.1.2.2.2 (by omega) hm, ob_def, if_neg one_ne, m_isBank1 h3.1.1 (by omega) hk, ob_def, if_neg one_ne, m_isOn0 (σ := uI σM 0 40 ci_0) (w := 0) rfl (by omega) (by omega) (H.2.2.2.2.1.2.2 m hm).2.1 (by rw [on]; decide), ob_def, if_pos rfl, ci_5_n, nI_add, bin_nI (by omega) (by decide), e3, e4, ob_def]
            unfold m_walk_b48
            rw [z, if_pos (show nI 0 = 0 from rfl), cbm2]
        · have hw9 := H.1.2.2.2.2.2.2.2.2.1 a k
          obtain ⟨σC2, σM2, c2, m2, H2, w2, -⟩ := H.setw.keep (σM := uI σM 0 40 ci_0) (n := 1000) (n1 := 1000) (by omega)
          have g4 := H2.2.2.2.1
          have g5 := H2.2.2.2.2.1
          have gi := H2.2.2.2.2.2.1
          obtain ⟨σC3, sC⟩ : ∃ z, z = uA (uA σC2 30 (nI m) (nI k)) 34 (nI m) 0 := ⟨_, rfl⟩
          obtain ⟨σM3, sM⟩ : ∃ z, z = uA (uA σM2 29 (nI (5 + m)) (nI k)) 29 (nI (33 + m)) 0 := ⟨_, rfl⟩
          have fC : frC scrG σC2 σC3 := by
            rw [sC]
            exact frCaA (frCaA frC.rf (Or.inr (by omega))) (Or.inr (by omega))
          have rM : ∀ p, σM3.2.1 29 p = if p = 33 + m then 0 else if p = 5 + m then nI k else σM2.2.1 29 p := fun p => by
            rw [sM, uA_2, uA_2, nI_clamp (by omega), nI_clamp (by omega)]
            simp
          have fM : frR 0 σM2 σM3 := by
            rw [sM]
            exact frRa (frRa frR.rf (by omega) (by omega) (by omega)) (by omega) (by omega) (by omega)
          have H3 : RelB i T L (sWalk G m (nI k)) σC3 σM3 := by
            refine H2.go (Nat.le_refl _) fC (frGM.ofR fM (by omega)) ⟨?_, fun j hj => ?_, fun j hj => ⟨?_, ?_, ?_, ?_, ?_⟩⟩ ⟨⟨?_, ?_, ?_, ?_⟩, fun j hj => ⟨?_, ?_⟩, fun j hj => ⟨?_, ?_, ?_, ?_, ?_⟩⟩ ⟨gi.1, gi.2.1, fun m' hm' => ?_⟩ H2.2.2.2.2.2.2.1
            · rw [sC]; exact g4.1
            · rw [sC]; exact g4.2.1 j hj
            · rw [sC, uA_o _ _ _ _ (by decide), uA_2, nI_clamp (by omega), (g4.2.2 j hj).1]
              show _ = (if j = m then nI k else G 5 j)
              simp
            · rw [sC]; exact (g4.2.2 j hj).2.1
            · rw [sC]; exact (g4.2.2 j hj).2.2.1
            · rw [sC]; exact (g4.2.2 j hj).2.2.2.1
            · rw [sC, uA_2, nI_clamp (by omega), uA_o _ _ _ _ (by decide), (g4.2.2 j hj).2.2.2.2]
              show _ = (if j = m then 0 else G 9 j)
              simp
            · rw [rM, if_neg (by omega), if_neg (by omega)]; exact g5.1.1
            · rw [rM, if_neg (by omega), if_neg (by omega)]; exact g5.1.2.1
            · rw [rM, if_neg (by omega), if_neg (by omega)]; exact g5.1.2.2.1
            · rw [rM, if_neg (by omega), if_neg (by omega)]; exact g5.1.2.2.2
            · rw [rM, if_neg (by omega), if_neg (by omega)]; exact (g5.2.1 j hj).1
            · rw [rM, if_neg (by omega), if_neg (by omega)]; exact (g5.2.1 j hj).2
            · show _ = md (if j = m then nI k else G 5 j)
              rw [rM, if_neg (by omega)]
              by_cases z : j = m
              · rw [if_pos (by omega), if_pos z, md_n (by omega)]
              · rw [if_neg (by omega), if_neg z]; exact (g5.2.2 j hj).1
            · rw [rM, if_neg (by omega), if_neg (by omega)]; exact (g5.2.2 j hj).2.1
            · rw [rM, if_neg (by omega), if_neg (by omega)]; exact (g5.2.2 j hj).2.2.1
            · rw [rM, if_neg (by omega), if_neg (by omega)]; exact (g5.2.2 j hj).2.2.2.1
            · show _ = (if j = m then 0 else G 9 j)
              rw [rM]
              by_cases z : j = m
              · rw [if_pos (by omega), if_pos z]
              · rw [if_neg (by omega), if_neg (by omega), if_neg z]; exact (g5.2.2 j hj).2.2.2.2
            · show (G 6 m' = -1 ∧ ∃ j, j < tB T ∧ (if m' = m then nI k else G 5 m') = nI j) ∨ ((if m' = m then nI k else G 5 m') = -1 ∧ ∃ j, j < tG T ∧ G 6 m' = nI j)
              by_cases z : m' = m
              · subst z
                simp only [if_true]
                exact Or.inl ⟨on, k, hk, rfl⟩
              · simp only [if_neg z]
                exact gi.2.2 m' hm'
          obtain ⟨G', σC4, σM4, c4, m4, H4⟩ := walk_l (n := 1000) (i := i + 6) (c := tWalk T a k) (by omega) (by omega) (by omega) 1000 0 hr _ σC3 σM3 (H3.mono (by omega)) ((fM.1 40 (by decide)).trans w2) r2 (by omega) (by omega) (by omega)
          refine ⟨1000, 1000, nI (tWalk T a k), σC4, σM4, ?_, ?_, H4.rel⟩
          · unfold cTop_walk
            rw [c_isMan1 h2.1.2.2.2 (by omega) hm, ob_def, if_neg one_ne, c_isBank1 h2.1.1 (by omega) hk, ob_def, if_neg one_ne, bin_nI (by omega) (by decide), e1, at_, if_pos (nI_pos' (by omega)), bin_nI (by omega) (by decide), e2, ob_def]
            unfold cTop_walk_b51
            rw [if_neg (nI_ne0 (by omega) (by omega)), c2, ob_def, bin_nI (by omega) (by decide), bin_nI (by omega) (by decide), ci0_0, ← sC]
            exact c4
          · unfold m_walk
            rw [m_isMan1 h3.1.2.2.2 (by omega) hm, ob_def, if_neg one_ne, m_isBank1 h3.1.1 (by omega) hk, ob_def, if_neg one_ne, m_isOn0 (σ := uI σM 0 40 ci_0) (w := 0) rfl (by omega) (by omega) (H.2.2.2.2.1.2.2 m hm).2.1 (by rw [on]; decide), ob_def, if_pos rfl, ci_5_n, nI_add, bin_nI (by omega) (by decide), e3, e4, ob_def]
            unfold m_walk_b48 m_hoursGo
            rw [if_neg (nI_ne0 (by omega) (by omega)), m2, ob_def, ci_5_n, cb_33_n, nI_add, nI_add, bin_nI (by omega) (by decide), bin_nI (by omega) (by decide), show (ci_0 : Int32) = 0 from ci0_0, ← sM, show m_hoursGo_b2 1000 1000 (nI (tWalk T a k)) 0 σM3 = _ from m4, ob_def]
      · refine ⟨1000, 1000, -2, σC, uI σM 0 40 ci_0, ?_, ?_, H.setw.rel.mono (by omega)⟩
        · unfold cTop_walk
          rw [c_isMan1 h2.1.2.2.2 (by omega) hm, ob_def, if_neg one_ne, c_isBank1 h2.1.1 (by omega) hk, ob_def, if_neg one_ne, bin_nI (by omega) (by decide), e1, at_, if_neg (by decide)]
          unfold cTop_walk_b51
          rw [if_pos ci0_0, cbm2]
        · unfold m_walk
          rw [m_isMan1 h3.1.2.2.2 (by omega) hm, ob_def, if_neg one_ne, m_isBank1 h3.1.1 (by omega) hk, ob_def, if_neg one_ne, m_isOn1 (σ := uI σM 0 40 ci_0) (w := 0) rfl (by omega) (by omega) (H.2.2.2.2.1.2.2 m hm).2.1 (by rw [on]; exact nI_pos (by omega)), ob_def, if_neg one_ne]
          unfold m_walk_b48
          rw [if_pos ci0_0, cbm2]
    · refine ⟨1000, 1000, -1, σC, σM, ?_, ?_, hrel.mono (by omega)⟩
      · unfold cTop_walk
        rw [c_isMan1 h2.1.2.2.2 (by omega) hm, ob_def, if_neg one_ne, c_isBank0 h2.1.1 hy, ob_def, if_pos rfl]
        rfl
      · unfold m_walk
        rw [m_isMan1 h3.1.2.2.2 (by omega) hm, ob_def, if_neg one_ne, m_isBank0 h3.1.1 hy, ob_def, if_pos rfl]
        rfl
  · refine ⟨1000, 1000, -1, σC, σM, ?_, ?_, hrel.mono (by omega)⟩
    · unfold cTop_walk
      rw [c_isMan0 h2.1.2.2.2 hx, ob_def, if_pos rfl]
      rfl
    · unfold m_walk
      rw [m_isMan0 h3.1.2.2.2 hx, ob_def, if_pos rfl]
      rfl
