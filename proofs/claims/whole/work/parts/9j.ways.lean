/-! WAYS and REACH -/
/-- LASTs as numbers from 0 on -/
def llO (G : aG) (g : Nat) : Nat := if G 3 g < 0 then 0 else (G 3 g).toNatClampNeg + 1
theorem llO_is {T : aT} {L : aL} {i : Nat} {G : aG} (hI : InvT T L) (hi : InvG T i G) : ∀ g, g < tG T → G 3 g = lI (llO G g) ∧ llO G g ≤ tB T := fun g hg => by
  have hB := hI.1
  unfold llO
  rcases hi.2.1 g hg with e | ⟨j, hj, e⟩
  · rw [e, if_pos (by decide)]
    exact ⟨rfl, by omega⟩
  · rw [e, if_neg (nI_pos (by omega)), nI_clamp (by omega), lI_S]
    exact ⟨rfl, by omega⟩
/-- both sides' costs from a bank -/
theorem both_ways {i n n1 bk : Nat} {T : aT} {L : aL} {G : aG} {σC σM : bS} (hn : 100 ≤ n) (hn1 : 99000000 ≤ n1) (H : RelB i T L G σC σM) (hb : bk < tB T) : ∃ σC' σM' K F, cWays_search_1_28 n (nI bk) σC = some σC' ∧ m_laysFar n1 (nI bk) (uI σM 0 40 ci_0) = some σM' ∧ KS K σC' ∧ FS F σM' ∧ KC T (llO G) (16 * bk) K ∧ KM T (llO G) (16 * bk) F ∧ frC sc57 σC σC' ∧ fr33 (uI σM 0 40 ci_0) σM' := by
  obtain ⟨σ1, K, a1, a2, a3, a4⟩ := c_search (n := n) hn H.1 hb (llO_is H.1 H.2.2.2.2.2.1) H.2.1 H.2.2.2.1
  obtain ⟨σ2, F, b1, b2, b3, b4⟩ := m_laysF (n := n1) (σ := uI σM 0 40 ci_0) hn1 H.1 hb (llO_is H.1 H.2.2.2.2.2.1) (H.2.2.1.of (fun _ _ _ => rfl)) H.2.2.2.2.1
  exact ⟨σ1, σ2, K, F, a1, b1, a2, b2, a3, b3, a4, b4⟩
theorem frQ33 {σ σ' : bS} (f : fr33 σ σ') : frQ σ σ' := frQ.ofM f (fun k z => z.elim) (fun a z => by unfold scrA; omega)
theorem frc_n : (1073741824 : Int32) = nI FRC := rfl
theorem far_n : (1000000 : Int32) = nI 1000000 := rfl
theorem c_hours {n bk : Nat} {K : Nat → Nat} {σ : bS} (hn : 20 ≤ n) (hb : bk < 6) (k0 : ∀ a, a < 96 → K a ≤ FRC) (H : KS K σ) : cWays_hoursTo n (nI bk) σ = some (if lsS K FRC bk 16 = FRC then -2 else nI (lsS K FRC bk 16 / 1024), σ) := by
  have fr : FRC = 1073741824 := rfl
  have lf := lsS_far K FRC bk 16
  unfold cWays_hoursTo cWays_hoursTo_b22
  rw [c_cost hn hb k0 H, ob_def, frc_n]
  by_cases z : lsS K FRC bk 16 = FRC
  · rw [if_pos (by rw [z]), if_pos z, cbm2]
  · rw [if_neg (fun u => z (nI_inj (by omega) (by omega) u)), if_neg z, if_neg (show ¬ cs_1024 = 0 by decide), cs_1024_n, nI_div (by omega) (by decide) (by decide)]
theorem sim_way {i : Nat} {σC σM : bS} (h : Rel i σC σM) (x y v : Int32) : Sim_way (Rel (i + 6)) x y v σC σM := by
  have hrel := h
  obtain ⟨T, L, G, H⟩ := h
  have H : RelB i T L G σC σM := H
  have hM := H.1.2.2.2.1
  have hB := H.1.1
  have hGG := H.1.2.2.1
  have h2 := H.2.1
  have h3 := H.2.2.1
  have fr : FRC = 1073741824 := rfl
  rcases ncases (tM T) (by omega) x with ⟨m, hm, rfl⟩ | hx
  · rcases ncases (tB T) (by omega) y with ⟨bk, hb, rfl⟩ | hy
    · rcases ncases 2 (by decide) v with ⟨w, hw, rfl⟩ | hv
      · have v1 : ¬ nI w < 0 := nI_pos (by omega)
        have v2 : nI w ≤ ci_1 := (nI_leI (b := 1) (by omega) (by decide)).mpr (by omega)
        have v3 : ∀ σ : bS, m_isIn 100000000 (nI w) ci_0 ci_1 σ = some (1, σ) := fun σ => by
          unfold m_isIn
          rw [if_neg (show ¬ nI w < ci_0 from v1), if_neg (Int32.not_lt.mpr v2)]
          rfl
        have e30 : sA σC 30 (nI m) = G 5 m := (sA_n _ _ (by omega)).trans (H.2.2.2.1.2.2 m (by omega)).1
        have cT : cTop_way 1000 (nI m) (nI bk) (nI w) σC = (if 0 ≤ G 5 m then (ob (cWays_search_1_28 1000 (G 5 m) σC) fun q3 => if nI w = 0 then (ob (cWays_hoursTo 1000 (nI bk) q3) fun q4 => cTop_way_b92 1000 q4.1 q4.2) else (ob (cWays_crossingsTo 1000 (nI bk) q3) fun q5 => cTop_way_b92 1000 q5.1 q5.2)) else some (cb_m2, σC)) := by
          unfold cTop_way
          rw [c_isMan1 h2.1.2.2.2 (by omega) hm, ob_def, if_neg one_ne, c_isBank1 h2.1.1 (by omega) hb, ob_def, if_neg one_ne, if_neg v1, if_pos v2, bin_nI (by omega) (by decide), e30, bin_nI (by omega) (by decide)]
        rcases H.2.2.2.2.2.1.2.2 m hm with ⟨on, j, hj, at_⟩ | ⟨at_, j, hj, on⟩
        · obtain ⟨σC1, σM1, K, F, a1, a2, a3, a4, a5, a6, a7, a8⟩ := both_ways (n := 1000) (n1 := 100000000) (by omega) (by omega) H hj
          have e29 : sA (uI σM 0 40 ci_0) 29 (ci_5 + nI m) = nI j := by
            rw [ci_5_n, nI_add, sA_n _ _ (by omega)]
            have := (H.2.2.2.2.1.2.2 m hm).1
            rw [at_, md_n (by omega), show 0 + 5 + m = 5 + m by omega] at this
            exact this
          have mT : m_way 100000000 (nI m) (nI bk) (nI w) σM = (if nI (lsS F 1000000 bk 16) = (1000000 : Int32) then some (cb_m2, σM1) else if nI w = 0 then (if cs_1000 = 0 then none else m_way_b92 100000000 (nI (lsS F 1000000 bk 16) / cs_1000) σM1) else if cs_1000 = 0 then none else m_way_b92 100000000 (brem (nI (lsS F 1000000 bk 16)) cs_1000) σM1) := by
            unfold m_way
            rw [m_isMan1 h3.1.2.2.2 (by omega) hm, ob_def, if_neg one_ne, m_isBank1 h3.1.1 (by omega) hb, ob_def, if_neg one_ne, v3, ob_def, if_neg one_ne]
            rw [m_isOn0 (σ := uI σM 0 40 ci_0) (w := 0) rfl (by omega) (by omega) (H.2.2.2.2.1.2.2 m hm).2.1 (by rw [on]; decide), ob_def, if_pos rfl, show bin_ (ci_5 + nI m) 2208 = bin_ (nI (5 + m)) 2208 by rw [ci_5_n, nI_add], bin_nI (by omega) (by decide), e29, a2, ob_def, m_nearest_eq (by omega) (by omega) a6.2.1 a4, ob_def]
          have rel := hrel.of (j := i + 6) (by omega) (a7.mono (fun a z => by unfold scrC; unfold sc57 at z; omega)) (frQw.trans (frQ33 a8))
          rcases ways_alike H.1 (by omega) (show bk < 6 by omega) a5 a6 with ⟨z1, z2⟩ | ⟨hh, cc, b1, b2, b3, b4⟩
          · refine ⟨1000, 100000000, -2, σC1, σM1, ?_, ?_, rel⟩
            · rw [cT, at_, if_pos (nI_pos' (by omega)), a1, ob_def, c_hours (by omega) (by omega) a5.2.1 a3, z1]
              by_cases t : nI w = 0
              · rw [if_pos t, ob_def, if_pos rfl]
                rfl
              · rw [if_neg t]
                unfold cWays_crossingsTo cWays_crossingsTo_b22
                rw [c_cost (by omega) (by omega) a5.2.1 a3, ob_def, z1, if_pos (show nI FRC = 1073741824 from rfl), ob_def, cbm2]
                rfl
            · rw [mT, z2, if_pos (show nI 1000000 = 1000000 from rfl), cbm2]
          · have ne1 : ¬ lsS K FRC bk 16 = FRC := by omega
            have ne2 : ¬ nI (lsS F 1000000 bk 16) = (1000000 : Int32) := fun u => by
              have u : nI (lsS F 1000000 bk 16) = nI 1000000 := u
              have := nI_inj (by omega) (by omega) u
              omega
            have ne3 : ¬ nI (lsS K FRC bk 16) = (1073741824 : Int32) := fun u => by
              have u : nI (lsS K FRC bk 16) = nI FRC := u
              exact ne1 (nI_inj (by omega) (by omega) u)
            refine ⟨1000, 100000000, if nI w = 0 then nI hh else nI cc, σC1, σM1, ?_, ?_, rel⟩
            · rw [cT, at_, if_pos (nI_pos' (by omega)), a1, ob_def, c_hours (by omega) (by omega) a5.2.1 a3]
              by_cases t : nI w = 0
              · rw [if_pos t, if_pos t, ob_def, if_neg ne1, show lsS K FRC bk 16 / 1024 = hh by omega]
                rfl
              · rw [if_neg t, if_neg t]
                unfold cWays_crossingsTo cWays_crossingsTo_b22
                rw [c_cost (by omega) (by omega) a5.2.1 a3, ob_def, if_neg ne3, if_neg (show ¬ cs_1024 = 0 by decide), cs_1024_n, brem_n (by omega) (by decide) (by decide), ob_def, show lsS K FRC bk 16 % 1024 = cc by omega]
                rfl
            · rw [mT, if_neg ne2]
              by_cases t : nI w = 0
              · rw [if_pos t, if_pos t, if_neg (show ¬ cs_1000 = 0 by decide), cs_1000_n, nI_div (by omega) (by decide) (by decide), show lsS F 1000000 bk 16 / 1000 = hh by omega]
                rfl
              · rw [if_neg t, if_neg t, if_neg (show ¬ cs_1000 = 0 by decide), cs_1000_n, brem_n (by omega) (by decide) (by decide), show lsS F 1000000 bk 16 % 1000 = cc by omega]
                rfl
        · refine ⟨1000, 100000000, -2, σC, uI σM 0 40 ci_0, ?_, ?_, hrel.of (by omega) frC.rf frQw⟩
          · rw [cT, at_, if_neg (by decide), cbm2]
          · unfold m_way
            rw [m_isMan1 h3.1.2.2.2 (by omega) hm, ob_def, if_neg one_ne, m_isBank1 h3.1.1 (by omega) hb, ob_def, if_neg one_ne, v3, ob_def, if_neg one_ne]
            rw [m_isOn1 (σ := uI σM 0 40 ci_0) (w := 0) rfl (by omega) (by omega) (H.2.2.2.2.1.2.2 m hm).2.1 (by rw [on]; exact nI_pos (by omega)), ob_def, if_neg one_ne, cbm2]
      · refine ⟨1000, 1000, -1, σC, σM, ?_, ?_, hrel.mono (by omega)⟩
        · unfold cTop_way
          rw [c_isMan1 h2.1.2.2.2 (by omega) hm, ob_def, if_neg one_ne, c_isBank1 h2.1.1 (by omega) hb, ob_def, if_neg one_ne]
          rcases hv with hv | hv
          · rw [if_pos hv, cTop_way_b25, cim1]
          · split
            · rw [cTop_way_b25, cim1]
            · rw [if_neg (fun u => absurd (Int32.le_trans hv u) (by decide)), cTop_way_b25, cim1]
        · have v3 : ∀ σ : bS, m_isIn 1000 v ci_0 ci_1 σ = some (0, σ) := fun σ => by
            unfold m_isIn
            rcases hv with hv | hv
            · rw [if_pos (show v < ci_0 from hv)]; rfl
            · split
              · rfl
              · rw [if_pos (Int32.not_le.mp (fun u => absurd (Int32.le_trans hv u) (by decide)))]; rfl
          unfold m_way
          rw [m_isMan1 h3.1.2.2.2 (by omega) hm, ob_def, if_neg one_ne, m_isBank1 h3.1.1 (by omega) hb, ob_def, if_neg one_ne, v3, ob_def, if_pos rfl, m_way_b25, cim1]
    · refine ⟨1000, 1000, -1, σC, σM, ?_, ?_, hrel.mono (by omega)⟩
      · unfold cTop_way
        rw [c_isMan1 h2.1.2.2.2 (by omega) hm, ob_def, if_neg one_ne, c_isBank0 h2.1.1 hy, ob_def, if_pos rfl, cTop_way_b25, cim1]
      · unfold m_way
        rw [m_isMan1 h3.1.2.2.2 (by omega) hm, ob_def, if_neg one_ne, m_isBank0 h3.1.1 hy, ob_def, if_pos rfl, m_way_b25, cim1]
  · refine ⟨1000, 1000, -1, σC, σM, ?_, ?_, hrel.mono (by omega)⟩
    · unfold cTop_way
      rw [c_isMan0 h2.1.2.2.2 hx, ob_def, if_pos rfl, cTop_way_b25, cim1]
    · unfold m_way
      rw [m_isMan0 h3.1.2.2.2 hx, ob_def, if_pos rfl, m_way_b25, cim1]
theorem c_reach_l {T : aT} {L : aL} {n c : Nat} {K : Nat → Nat} {σ : bS} {P : Nat → Prop} [DecidablePred P] (hn : 20 ≤ n) (hI : InvT T L) (hc : c ≤ 99) (hT : CT T L σ) (k0 : ∀ a, a < 96 → K a ≤ FRC) (H : KS K σ) (hP : ∀ b, b < tB T → (P b ↔ ¬ lsS K FRC b 16 = FRC ∧ lsS K FRC b 16 / 1024 ≤ c)) : ∀ (k j : Nat), j ≤ tB T → tB T < j + k → cWays_within_1_b5 n k (nI c) (bitsOf P j) (nI j) σ = some (bitsOf P (tB T), σ)
  | 0, j, h1, h2 => by omega
  | k + 1, j, h1, h2 => by
    have hB := hI.1
    have fr : FRC = 1073741824 := rfl
    rw [cWays_within_1_b5, sI_d, hT.1.1]
    by_cases hj : j < tB T
    · have ih := c_reach_l hn hI hc hT k0 H hP k (j + 1) hj (by omega)
      have lf := lsS_far K FRC j 16
      rw [bitsOf] at ih
      rw [if_neg (nI_ge hj (by omega)), c_hours hn (by omega) k0 H, ob_def]
      by_cases z : lsS K FRC j 16 = FRC
      · rw [if_pos z]
        simp only [if_pos (show (-2 : Int32) < 0 by decide)]
        rw [if_neg (fun u => ((hP j hj).mp u).1 z)] at ih
        rw [cWays_within_1_b40, ci1_nI, nI_add]
        exact ih
      · rw [if_neg z]
        simp only [if_neg (nI_pos (show lsS K FRC j 16 / 1024 < 2 ^ 31 by omega))]
        by_cases y : lsS K FRC j 16 / 1024 ≤ c
        · rw [if_pos ((hP j hj).mpr ⟨z, y⟩)] at ih
          rw [if_neg (fun u => by have := (nI_ltI (by omega) (by omega)).mp u; omega), cWays_within_1_b40, show (nI j + ci_1 : Int32) = nI (j + 1) from nI_add j 1, ci1_1]
          exact ih
        · rw [if_neg (fun u => y ((hP j hj).mp u).2)] at ih
          rw [if_pos ((nI_ltI (by omega) (by omega)).mpr (by omega)), cWays_within_1_b40, ci1_nI, nI_add]
          exact ih
    · have e : j = tB T := by omega
      subst e
      rw [if_pos (Int32.le_refl _)]
theorem m_reach_l {T : aT} {L : aL} {n c : Nat} {F : Nat → Nat} {σ : bS} {P : Nat → Prop} [DecidablePred P] (hn : 20 ≤ n) (hI : InvT T L) (hc : c ≤ 99) (hT : MTx T L σ) (k0 : ∀ a, a < 96 → F a ≤ 1000000) (H : FS F σ) (hP : ∀ b, b < tB T → (P b ↔ lsS F 1000000 b 16 / 1000 ≤ c)) : ∀ (k j : Nat), j ≤ tB T → tB T < j + k → m_reach_b53 n k (nI c) (bitsOf P j) (nI j) σ = some (bitsOf P (tB T), σ)
  | 0, j, h1, h2 => by omega
  | k + 1, j, h1, h2 => by
    have hB := hI.1
    rw [m_reach_b53, bin_c0 (by decide) (by decide), sA_c0, hT.1.1]
    by_cases hj : j < tB T
    · have ih := m_reach_l hn hI hc hT k0 H hP k (j + 1) hj (by omega)
      have lf := lsS_far F 1000000 j 16
      rw [bitsOf] at ih
      rw [if_neg (nI_ge hj (by omega)), m_nearest_eq hn (by omega) k0 H, ob_def, if_neg (show ¬ cs_1000 = 0 by decide), cs_1000_n, nI_div (by omega) (by decide) (by decide)]
      by_cases y : lsS F 1000000 j 16 / 1000 ≤ c
      · rw [if_pos ((hP j hj).mpr y)] at ih
        rw [if_neg (fun u => by have := (nI_ltI (by omega) (by omega)).mp u; omega), m_reach_b85, show (nI j + ci_1 : Int32) = nI (j + 1) from nI_add j 1, ci1_1]
        exact ih
      · rw [if_neg (fun u => y ((hP j hj).mp u))] at ih
        rw [if_pos ((nI_ltI (by omega) (by omega)).mpr (by omega)), m_reach_b85, ci1_nI, nI_add]
        exact ih
    · have e : j = tB T := by omega
      subst e
      rw [if_pos (Int32.le_refl _)]
theorem sim_reach {i : Nat} {σC σM : bS} (h : Rel i σC σM) (x v : Int32) : Sim_reach (Rel (i + 6)) x v σC σM := by
  have hrel := h
  obtain ⟨T, L, G, H⟩ := h
  have H : RelB i T L G σC σM := H
  have hM := H.1.2.2.2.1
  have hB := H.1.1
  have hGG := H.1.2.2.1
  have h2 := H.2.1
  have h3 := H.2.2.1
  have fr : FRC = 1073741824 := rfl
  rcases ncases (tM T) (by omega) x with ⟨m, hm, rfl⟩ | hx
  · rcases ncases 100 (by decide) v with ⟨w, hw, rfl⟩ | hv
    · have v1 : ¬ nI w < 0 := nI_pos (by omega)
      have v2 : nI w ≤ cb_99 := by
        rw [cb_99_n]
        exact (nI_leI (by omega) (by decide)).mpr (by omega)
      have v3 : ∀ σ : bS, m_isIn 100000000 (nI w) ci_0 cb_99 σ = some (1, σ) := fun σ => by
        unfold m_isIn
        rw [if_neg (show ¬ nI w < ci_0 from v1), if_neg (Int32.not_lt.mpr v2)]
        rfl
      have e30 : sA σC 30 (nI m) = G 5 m := (sA_n _ _ (by omega)).trans (H.2.2.2.1.2.2 m (by omega)).1
      have cT : cTop_reach 1000 (nI m) (nI w) σC = (if 0 ≤ G 5 m then (ob (cWays_search_1_28 1000 (G 5 m) σC) fun q2 => ob (cWays_within_1 1000 (nI w) q2) fun q3 => some (q3.1, q3.2)) else some (cb_m2, σC)) := by
        unfold cTop_reach
        rw [c_isMan1 h2.1.2.2.2 (by omega) hm, ob_def, if_neg one_ne, if_neg v1, if_pos v2, bin_nI (by omega) (by decide), e30, bin_nI (by omega) (by decide)]
      rcases H.2.2.2.2.2.1.2.2 m hm with ⟨on, j, hj, at_⟩ | ⟨at_, j, hj, on⟩
      · obtain ⟨σC1, σM1, K, F, a1, a2, a3, a4, a5, a6, a7, a8⟩ := both_ways (n := 1000) (n1 := 100000000) (by omega) (by omega) H hj
        have e29 : sA (uI σM 0 40 ci_0) 29 (ci_5 + nI m) = nI j := by
          rw [ci_5_n, nI_add, sA_n _ _ (by omega)]
          have := (H.2.2.2.2.1.2.2 m hm).1
          rw [at_, md_n (by omega), show 0 + 5 + m = 5 + m by omega] at this
          exact this
        have rel := hrel.of (j := i + 6) (by omega) (a7.mono (fun a z => by unfold scrC; unfold sc57 at z; omega)) (frQw.trans (frQ33 a8))
        have hC := c_reach_l (n := 1000) (c := w) (K := K) (P := fun b => lsS F 1000000 b 16 / 1000 ≤ w) (by omega) H.1 (by omega) (h2.fr a7 (fun a x y => by unfold sc57; omega)) a5.2.1 a3 (fun b hb => by
          rcases ways_alike H.1 (show 16 * j < 96 by omega) (show b < 6 by omega) a5 a6 with ⟨z1, z2⟩ | ⟨hh, cc, b1, b2, b3, b4⟩
          · rw [z1, z2]
            exact ⟨fun u => by omega, fun u => absurd rfl u.1⟩
          · rw [b3, b4]
            constructor
            · intro u
              omega
            · intro u
              omega) 1000 0 (by omega) (by omega)
        have hM' := m_reach_l (n := 100000000) (c := w) (F := F) (P := fun b => lsS F 1000000 b 16 / 1000 ≤ w) (by omega) H.1 (by omega) (h3.of (fun a x y => a8.2.1 a (by omega))) a6.2.1 a4 (fun b hb => Iff.rfl) 100000000 0 (by omega) (by omega)
        refine ⟨1000, 100000000, bitsOf (fun b => lsS F 1000000 b 16 / 1000 ≤ w) (tB T), σC1, σM1, ?_, ?_, rel⟩
        · rw [cT, at_, if_pos (nI_pos' (by omega)), a1, ob_def]
          rw [show cWays_within_1 1000 (nI w) σC1 = _ from hC, ob_def]
        · unfold m_reach
          rw [m_isMan1 h3.1.2.2.2 (by omega) hm, ob_def, if_neg one_ne, v3, ob_def, if_neg one_ne]
          rw [m_isOn0 (σ := uI σM 0 40 ci_0) (w := 0) rfl (by omega) (by omega) (H.2.2.2.2.1.2.2 m hm).2.1 (by rw [on]; decide), ob_def, if_pos rfl, show bin_ (ci_5 + nI m) 2208 = bin_ (nI (5 + m)) 2208 by rw [ci_5_n, nI_add], bin_nI (by omega) (by decide), e29, a2, ob_def]
          exact hM'
      · refine ⟨1000, 100000000, -2, σC, uI σM 0 40 ci_0, ?_, ?_, hrel.of (by omega) frC.rf frQw⟩
        · rw [cT, at_, if_neg (by decide), cbm2]
        · unfold m_reach
          rw [m_isMan1 h3.1.2.2.2 (by omega) hm, ob_def, if_neg one_ne, v3, ob_def, if_neg one_ne]
          rw [m_isOn1 (σ := uI σM 0 40 ci_0) (w := 0) rfl (by omega) (by omega) (H.2.2.2.2.1.2.2 m hm).2.1 (by rw [on]; exact nI_pos (by omega)), ob_def, if_neg one_ne, cbm2]
    · refine ⟨1000, 1000, -1, σC, σM, ?_, ?_, hrel.mono (by omega)⟩
      · unfold cTop_reach
        rw [c_isMan1 h2.1.2.2.2 (by omega) hm, ob_def, if_neg one_ne]
        rcases hv with hv | hv
        · rw [if_pos hv, cTop_reach_b18, cim1]
        · split
          · rw [cTop_reach_b18, cim1]
          · rw [if_neg (fun u => absurd (Int32.le_trans hv u) (by decide)), cTop_reach_b18, cim1]
      · have v3 : ∀ σ : bS, m_isIn 1000 v ci_0 cb_99 σ = some (0, σ) := fun σ => by
          unfold m_isIn
          rcases hv with hv | hv
          · rw [if_pos (show v < ci_0 from hv)]; rfl
          · split
            · rfl
            · rw [if_pos (Int32.not_le.mp (fun u => absurd (Int32.le_trans hv u) (by decide)))]; rfl
        unfold m_reach
        rw [m_isMan1 h3.1.2.2.2 (by omega) hm, ob_def, if_neg one_ne, v3, ob_def, if_pos rfl, m_reach_b18, cim1]
  · refine ⟨1000, 1000, -1, σC, σM, ?_, ?_, hrel.mono (by omega)⟩
    · unfold cTop_reach
      rw [c_isMan0 h2.1.2.2.2 hx, ob_def, if_pos rfl, cTop_reach_b18, cim1]
    · unfold m_reach
      rw [m_isMan0 h3.1.2.2.2 hx, ob_def, if_pos rfl, m_reach_b18, cim1]
