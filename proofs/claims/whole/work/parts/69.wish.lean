abbrev sc12 : Nat → Prop := fun a => a = 12 ∨ a = 13
abbrev sc46 : Nat → Prop := fun k => k = 46
abbrev sc31 : Nat → Prop := fun a => a = 31 ∨ a = 32
theorem CT.scr {T : aT} {L : aL} {σ σ' : bS} (h : CT T L σ) (f : frC sc12 σ σ') : CT T L σ' := h.of (fun a h1 h2 => ⟨(f a (by unfold sc12; omega)).1, (f a (by unfold sc12; omega)).2.1⟩)
theorem CG.scr {g : Nat} {G : aG} {σ σ' : bS} (hg : 14 ≤ g) (h : CG g G σ) (f : frC sc12 σ σ') : CG g G σ' := h.of (fun a h1 h2 => ⟨(f a (by unfold sc12; omega)).1, (f a (by unfold sc12; omega)).2.1⟩)
theorem MTx.scr {T : aT} {L : aL} {σ σ' : bS} (h : MTx T L σ) (f : frM sc46 sc31 σ σ') : MTx T L σ' := h.of (fun a h1 h2 => f.2.1 a (by unfold sc31; omega))
theorem MG.scr {T : aT} {w : Nat} {G : aG} {σ σ' : bS} (h : MG T w G σ) (f : frM sc46 sc31 σ σ') : MG T w G σ' := by
  unfold MG
  rw [f.2.1 29 (by decide)]
  exact h
theorem scrC12 : ∀ a, sc12 a → scrC a := fun a h => by unfold scrC; unfold sc12 at h; omega
theorem frQ31 {σ σ' : bS} (f : frM sc46 sc31 σ σ') : frQ σ σ' := frQ.ofM f (fun k h => by unfold scrI; unfold sc46 at h; omega) (fun a h => by unfold scrA; unfold sc31 at h; omega)
theorem Rel.hour {T : aT} {i : Nat} {G : aG} (h : InvG T i G) (hi : i ≤ 3072) : ∃ h, h < 2 ^ 31 ∧ G 0 0 = nI h ∧ h ≤ 34 * i := by
  obtain ⟨⟨t, a, b⟩, -⟩ := h
  exact ⟨t, by omega, b, a⟩
theorem sim_wish {i : Nat} {σC σM : bS} (hi : i ≤ 3072) (h : Rel i σC σM) (x y : Int32) : Sim_wish (Rel (i + 6)) x y σC σM := by
  have hrel := h
  obtain ⟨T, L, G, h1, h2, h3, h4, h5, h6, h7, h8, h9, h10, h11, h12⟩ := h
  have hM := h1.2.2.2.1
  have hB := h1.1
  have hGG := h1.2.2.1
  obtain ⟨hr, r1, r2, -⟩ := Rel.hour h6 hi
  rcases ncases (tM T) (by omega) x with ⟨m, hm, rfl⟩ | hx
  · rcases ncases (tG T) (by omega) y with ⟨b, hb, rfl⟩ | hy
    · have e1 : sA σC 30 (nI m) = G 5 m := (sA_n _ _ (by omega)).trans (h4.2.2 m (by omega)).1
      rcases h6.2.2 m hm with ⟨on, j, hj, at_⟩ | ⟨at_, j, hj, on⟩
      · obtain ⟨σC1, c1, c2⟩ := c_wishNow (n := 1000) (by omega) h1 h2 h4 hm hb r1 r2
        obtain ⟨σM1, m1, m2⟩ := m_wishOf_eq (n := 1000) (w := 0) (σ := uI σM 0 40 ci_0) (by omega) h1 (h3.of (fun _ _ _ => rfl)) h5 rfl (by omega) hm hb r1 r2 hj at_ (h6.2.1 b hb)
        refine ⟨1000, 1000, md (sWish T L G m (G 3 b) hr), σC1, σM1, ?_, ?_, hrel.of (by omega) (c2.mono scrC12) (frQw.trans (frQ31 m2))⟩
        · unfold cTop_wish cTop_wish_b47
          rw [c_isMan1 h2.1.2.2.2 (by omega) hm, ob_def, if_neg one_ne, c_isBridge1 h2.1.2.2.1 (by omega) hb, ob_def, if_neg one_ne, bin_nI (by omega) (by decide), e1, at_, if_pos (nI_pos' (by omega)), c1, ob_def]
          rw [orNot_eq, ob_def]
        · unfold m_wish m_wish_b42
          rw [m_isMan1 h3.1.2.2.2 (by omega) hm, ob_def, if_neg one_ne, m_isBridge1 h3.1.2.2.1 (by omega) hb, ob_def, if_neg one_ne, m_isOn0 (σ := uI σM 0 40 ci_0) (w := 0) rfl (by omega) (by omega) (h5.2.2 m hm).2.1 (by rw [on]; decide), ob_def, if_pos rfl, m1, ob_def]
      · refine ⟨1000, 1000, -2, σC, uI σM 0 40 ci_0, ?_, ?_, hrel.of (by omega) frC.rf frQw⟩
        · unfold cTop_wish cTop_wish_b47
          rw [c_isMan1 h2.1.2.2.2 (by omega) hm, ob_def, if_neg one_ne, c_isBridge1 h2.1.2.2.1 (by omega) hb, ob_def, if_neg one_ne, bin_nI (by omega) (by decide), e1, at_, if_neg (by decide), cbm2]
        · unfold m_wish m_wish_b42
          rw [m_isMan1 h3.1.2.2.2 (by omega) hm, ob_def, if_neg one_ne, m_isBridge1 h3.1.2.2.1 (by omega) hb, ob_def, if_neg one_ne, m_isOn1 (σ := uI σM 0 40 ci_0) (w := 0) rfl (by omega) (by omega) (h5.2.2 m hm).2.1 (by rw [on]; exact nI_pos (by omega)), ob_def, if_neg one_ne, cbm2]
    · refine ⟨1000, 1000, -1, σC, σM, ?_, ?_, hrel.mono (by omega)⟩
      · unfold cTop_wish
        rw [c_isMan1 h2.1.2.2.2 (by omega) hm, ob_def, if_neg one_ne, c_isBridge0 h2.1.2.2.1 hy, ob_def, if_pos rfl]
        rfl
      · unfold m_wish
        rw [m_isMan1 h3.1.2.2.2 (by omega) hm, ob_def, if_neg one_ne, m_isBridge0 h3.1.2.2.1 hy, ob_def, if_pos rfl]
        rfl
  · refine ⟨1000, 1000, -1, σC, σM, ?_, ?_, hrel.mono (by omega)⟩
    · unfold cTop_wish
      rw [c_isMan0 h2.1.2.2.2 hx, ob_def, if_pos rfl]
      rfl
    · unfold m_wish
      rw [m_isMan0 h3.1.2.2.2 hx, ob_def, if_pos rfl]
      rfl
theorem sim_toll {i : Nat} {σC σM : bS} (hi : i ≤ 3072) (h : Rel i σC σM) (x y : Int32) : Sim_toll (Rel (i + 6)) x y σC σM := by
  have hrel := h
  obtain ⟨T, L, G, h1, h2, h3, h4, h5, h6, h7, h8, h9, h10, h11, h12⟩ := h
  have hM := h1.2.2.2.1
  have hB := h1.1
  have hGG := h1.2.2.1
  obtain ⟨hr, r1, r2, -⟩ := Rel.hour h6 hi
  rcases ncases (tM T) (by omega) x with ⟨m, hm, rfl⟩ | hx
  · rcases ncases (tG T) (by omega) y with ⟨b, hb, rfl⟩ | hy
    · have e1 : sA σC 30 (nI m) = G 5 m := (sA_n _ _ (by omega)).trans (h4.2.2 m (by omega)).1
      rcases h6.2.2 m hm with ⟨on, j, hj, at_⟩ | ⟨at_, j, hj, on⟩
      · obtain ⟨σC1, c1, c2⟩ := c_tollNow (n := 1000) (by omega) h1 h2 h4 hm hb r1 r2
        obtain ⟨σM1, m1, m2⟩ := m_tollOf_eq (n := 1000) (w := 0) (σ := uI σM 0 40 ci_0) (by omega) h1 (h3.of (fun _ _ _ => rfl)) h5 rfl (by omega) hm hb r1 r2 hj at_ (h6.2.1 b hb)
        refine ⟨1000, 1000, sToll T L G m b hr, σC1, σM1, ?_, ?_, hrel.of (by omega) (c2.mono scrC12) (frQw.trans (frQ31 m2))⟩
        · unfold cTop_toll cTop_toll_b44
          rw [c_isMan1 h2.1.2.2.2 (by omega) hm, ob_def, if_neg one_ne, c_isBridge1 h2.1.2.2.1 (by omega) hb, ob_def, if_neg one_ne, bin_nI (by omega) (by decide), e1, at_, if_pos (nI_pos' (by omega)), c1, ob_def]
          try rfl
        · unfold m_toll m_toll_b42
          rw [m_isMan1 h3.1.2.2.2 (by omega) hm, ob_def, if_neg one_ne, m_isBridge1 h3.1.2.2.1 (by omega) hb, ob_def, if_neg one_ne, m_isOn0 (σ := uI σM 0 40 ci_0) (w := 0) rfl (by omega) (by omega) (h5.2.2 m hm).2.1 (by rw [on]; decide), ob_def, if_pos rfl, m1, ob_def]
      · refine ⟨1000, 1000, -2, σC, uI σM 0 40 ci_0, ?_, ?_, hrel.of (by omega) frC.rf frQw⟩
        · unfold cTop_toll cTop_toll_b44
          rw [c_isMan1 h2.1.2.2.2 (by omega) hm, ob_def, if_neg one_ne, c_isBridge1 h2.1.2.2.1 (by omega) hb, ob_def, if_neg one_ne, bin_nI (by omega) (by decide), e1, at_, if_neg (by decide), cbm2]
        · unfold m_toll m_toll_b42
          rw [m_isMan1 h3.1.2.2.2 (by omega) hm, ob_def, if_neg one_ne, m_isBridge1 h3.1.2.2.1 (by omega) hb, ob_def, if_neg one_ne, m_isOn1 (σ := uI σM 0 40 ci_0) (w := 0) rfl (by omega) (by omega) (h5.2.2 m hm).2.1 (by rw [on]; exact nI_pos (by omega)), ob_def, if_neg one_ne, cbm2]
    · refine ⟨1000, 1000, -1, σC, σM, ?_, ?_, hrel.mono (by omega)⟩
      · unfold cTop_toll
        rw [c_isMan1 h2.1.2.2.2 (by omega) hm, ob_def, if_neg one_ne, c_isBridge0 h2.1.2.2.1 hy, ob_def, if_pos rfl]
        rfl
      · unfold m_toll
        rw [m_isMan1 h3.1.2.2.2 (by omega) hm, ob_def, if_neg one_ne, m_isBridge0 h3.1.2.2.1 hy, ob_def, if_pos rfl]
        rfl
  · refine ⟨1000, 1000, -1, σC, σM, ?_, ?_, hrel.mono (by omega)⟩
    · unfold cTop_toll
      rw [c_isMan0 h2.1.2.2.2 hx, ob_def, if_pos rfl]
      rfl
    · unfold m_toll
      rw [m_isMan0 h3.1.2.2.2 hx, ob_def, if_pos rfl]
      rfl
theorem follow_l {T : aT} {L : aL} {i m b hr : Nat} {G : aG} (hI : InvT T L) (hG : InvG T i G) (hm : m < tM T) (hb : b < tG T) (r1 : hr < 2 ^ 31) (r2 : G 0 0 = nI hr) : ∀ (k j : Nat) (σC σM : bS), j ≤ tM T → tM T < j + k → CT T L σC → CG 27 G σC → MTx T L σM → MG T 0 G σM → σM.1 0 40 = nI 0 → ∃ (r : Int32) (σC1 σM1 : bS), cTop_follow_b44 1000 k (nI m) (nI b) (nI j) σC = some (r, σC1) ∧ m_follow_b37 1000 k (nI m) (nI b) (nI j) σM = some (r, σM1) ∧ frC sc12 σC σC1 ∧ frM sc46 sc31 σM σM1
  | 0, j, σC, σM, h1, h2, c1, c2, m1, m2, w0 => by omega
  | k + 1, j, σC, σM, h1, h2, c1, c2, m1, m2, w0 => by
    have hM := hI.2.2.2.1
    have hB := hI.1
    have hH := hI.2.2.2.2.2.1 m hm
    rw [cTop_follow_b44, m_follow_b37, bin_c0 (by decide) (by decide), sA_c0, m1.1.2.2.2, sI_d, c1.1.2.2.2]
    by_cases hj : j < tM T
    · have n1 := nI_ge hj (by omega)
      rw [if_neg n1, if_neg n1]
      simp only [cTop_follow_b95, m_follow_b78, ci1_nI, nI_add]
      by_cases e : nI j = nI m
      · rw [if_pos e, if_pos e]
        exact follow_l hI hG hm hb r1 r2 k (j + 1) σC σM hj (by omega) c1 c2 m1 m2 w0
      · rw [if_neg e, if_neg e]
        obtain ⟨σC1, d1, d2⟩ := c_could (n := 1000) (by omega) hI c1 c2 hj hb r1 r2
        obtain ⟨σM1, f1, f2⟩ := m_could_eq (n := 1000) (by omega) hI m1 m2 hG w0 (by omega) hj hb r1 r2
        rw [d1, f1, ob_def, ob_def]
        have w1 : σM1.1 0 40 = nI 0 := (f2.1 40 (by decide)).trans w0
        by_cases z : G 5 j = nI (tFoot T b) ∧ ¬ G 7 j < sToll T L G j b hr
        · simp only [if_pos z]
          rw [if_neg one_ne, if_neg one_ne]
          obtain ⟨σC2, d3, d4⟩ := c_wishNow (n := 1000) (by omega) hI (c1.scr d2) (c2.scr (by omega) d2) hj hb r1 r2
          obtain ⟨σM2, f3, f4⟩ := m_wishOf_eq (n := 1000) (by omega) hI (m1.scr f2) (m2.scr f2) w1 (by omega) hj hb r1 r2 (hI.2.2.2.2.1 b hb) z.1 (hG.2.1 b hb)
          have e1 : sA σC2 6 (nI m) = nI (tHome T m) := (sA_n _ _ (by omega)).trans (((c1.scr d2).scr d4).2.2.2.1 m hm)
          have e2 : sA σM2 22 (nI m) = nI (tHome T m) := (sA_n _ _ (by omega)).trans (((m1.scr f2).scr f4).2.2.2.1 m hm)
          rw [d3, f3, ob_def, ob_def, bin_nI (by omega) (by decide), bin_nI (by omega) (by decide), e1, e2]
          have eq := md_eq (show tB T < 2 ^ 31 by omega) (sWish_in (L := L) (G := G) (la := G 3 b) (h := hr) hI hj) (show tHome T m < 2 ^ 31 by omega)
          by_cases y : sWish T L G j (G 3 b) hr = nI (tHome T m)
          · rw [if_pos y, if_pos (eq.mpr y)]
            exact ⟨nI j, σC2, σM2, rfl, rfl, d2.trans d4, f2.trans f4⟩
          · rw [if_neg y, if_neg (fun q => y (eq.mp q))]
            obtain ⟨r, σC3, σM3, g1, g2, g3, g4⟩ := follow_l hI hG hm hb r1 r2 k (j + 1) σC2 σM2 hj (by omega) ((c1.scr d2).scr d4) ((c2.scr (by omega) d2).scr (by omega) d4) ((m1.scr f2).scr f4) ((m2.scr f2).scr f4) ((f4.1 40 (by decide)).trans w1)
            exact ⟨r, σC3, σM3, g1, g2, (d2.trans d4).trans g3, (f2.trans f4).trans g4⟩
        · simp only [if_neg z]
          rw [if_pos trivial, if_pos trivial]
          obtain ⟨r, σC3, σM3, g1, g2, g3, g4⟩ := follow_l hI hG hm hb r1 r2 k (j + 1) σC1 σM1 hj (by omega) (c1.scr d2) (c2.scr (by omega) d2) (m1.scr f2) (m2.scr f2) w1
          exact ⟨r, σC3, σM3, g1, g2, d2.trans g3, f2.trans g4⟩
    · have e : j = tM T := by omega
      subst e
      rw [if_pos (Int32.le_refl _), if_pos (Int32.le_refl _)]
      exact ⟨_, σC, σM, rfl, rfl, frC.rf, frM.rf⟩
theorem sim_follow {i : Nat} {σC σM : bS} (hi : i ≤ 3072) (h : Rel i σC σM) (x y : Int32) : Sim_follow (Rel (i + 6)) x y σC σM := by
  have hrel := h
  obtain ⟨T, L, G, h1, h2, h3, h4, h5, h6, h7, h8, h9, h10, h11, h12⟩ := h
  have hM := h1.2.2.2.1
  have hB := h1.1
  have hGG := h1.2.2.1
  obtain ⟨hr, r1, r2, -⟩ := Rel.hour h6 hi
  rcases ncases (tM T) (by omega) x with ⟨m, hm, rfl⟩ | hx
  · rcases ncases (tG T) (by omega) y with ⟨b, hb, rfl⟩ | hy
    · have e1 : sA σC 30 (nI m) = G 5 m := (sA_n _ _ (by omega)).trans (h4.2.2 m (by omega)).1
      have e2 : sA σC 3 (nI b) = nI (tFoot T b) := (sA_n _ _ (by omega)).trans (h2.2.2.1 b hb)
      have hm0 : MTx T L (uI σM 0 40 ci_0) := h3.of (fun _ _ _ => rfl)
      have hat := m_atFoot_eq (n := 1000) (σ := uI σM 0 40 ci_0) (w := 0) h1 hm0 h5 h6 rfl (by omega) hm hb
      by_cases z : G 5 m = nI (tFoot T b)
      · obtain ⟨r, σC1, σM1, g1, g2, g3, g4⟩ := follow_l h1 h6 hm hb r1 r2 1000 0 σC (uI σM 0 40 ci_0) (by omega) (by omega) h2 h4 hm0 h5 rfl
        refine ⟨1000, 1000, r, σC1, σM1, ?_, ?_, hrel.of (by omega) (g3.mono scrC12) (frQw.trans (frQ31 g4))⟩
        · unfold cTop_follow
          rw [c_isMan1 h2.1.2.2.2 (by omega) hm, ob_def, if_neg one_ne, c_isBridge1 h2.1.2.2.1 (by omega) hb, ob_def, if_neg one_ne, bin_nI (by omega) (by decide), bin_nI (by omega) (by decide), e1, e2, if_pos z]
          exact g1
        · unfold m_follow
          rw [m_isMan1 h3.1.2.2.2 (by omega) hm, ob_def, if_neg one_ne, m_isBridge1 h3.1.2.2.1 (by omega) hb, ob_def, if_neg one_ne, hat, ob_def]
          simp only [if_pos z]
          rw [if_neg one_ne]
          exact g2
      · refine ⟨1000, 1000, -2, σC, uI σM 0 40 ci_0, ?_, ?_, hrel.of (by omega) frC.rf frQw⟩
        · unfold cTop_follow
          rw [c_isMan1 h2.1.2.2.2 (by omega) hm, ob_def, if_neg one_ne, c_isBridge1 h2.1.2.2.1 (by omega) hb, ob_def, if_neg one_ne, bin_nI (by omega) (by decide), bin_nI (by omega) (by decide), e1, e2, if_neg z, cbm2]
        · unfold m_follow
          rw [m_isMan1 h3.1.2.2.2 (by omega) hm, ob_def, if_neg one_ne, m_isBridge1 h3.1.2.2.1 (by omega) hb, ob_def, if_neg one_ne, hat, ob_def]
          simp only [if_neg z]
          rw [if_pos trivial, cbm2]
    · refine ⟨1000, 1000, -1, σC, σM, ?_, ?_, hrel.mono (by omega)⟩
      · unfold cTop_follow
        rw [c_isMan1 h2.1.2.2.2 (by omega) hm, ob_def, if_neg one_ne, c_isBridge0 h2.1.2.2.1 hy, ob_def, if_pos rfl]
        rfl
      · unfold m_follow
        rw [m_isMan1 h3.1.2.2.2 (by omega) hm, ob_def, if_neg one_ne, m_isBridge0 h3.1.2.2.1 hy, ob_def, if_pos rfl]
        rfl
  · refine ⟨1000, 1000, -1, σC, σM, ?_, ?_, hrel.mono (by omega)⟩
    · unfold cTop_follow
      rw [c_isMan0 h2.1.2.2.2 hx, ob_def, if_pos rfl]
      rfl
    · unfold m_follow
      rw [m_isMan0 h3.1.2.2.2 hx, ob_def, if_pos rfl]
      rfl
