/-! a dream -/
def drm (G : aG) (σ : bS) : bS := uC (uC (uC (uC (uC (uC (uC (uI (uI (uI (uI σ 35 1 (G 10 0)) 35 2 (G 0 0)) 35 3 (G 1 0)) 35 4 (G 2 0)) 28 36 (nI 0) (nI 0) (nI 4)) 29 37 (nI 0) (nI 0) (nI 4)) 30 38 (nI 0) (nI 0) (nI 7)) 31 39 (nI 0) (nI 0) (nI 7)) 32 40 (nI 0) (nI 0) (nI 7)) 33 41 (nI 0) (nI 0) (nI 7)) 34 42 (nI 0) (nI 0) (nI 7)
theorem drm_eq {n : Nat} {G : aG} {σ : bS} (hG : CG 27 G σ) : cGoing_copyFrom_d_27 n σ = some (drm G σ) := by
  have e1 : sI σ 27 1 = G 10 0 := hG.1.2.2.2
  have e2 : sI σ 27 2 = G 0 0 := hG.1.1
  have e3 : sI σ 27 3 = G 1 0 := hG.1.2.1
  have e4 : sI σ 27 4 = G 2 0 := hG.1.2.2.1
  have e5 : ∀ k v j, sI (uI σ 35 k v) 27 j = sI σ 27 j := fun _ _ _ => rfl
  have e6 : ∀ (k k2 : Nat) (v v2 : Int32) (j : Nat), sI (uI (uI σ 35 k v) 35 k2 v2) 27 j = sI σ 27 j := fun _ _ _ _ _ => rfl
  have e7 : ∀ (k k2 k3 : Nat) (v v2 v3 : Int32) (j : Nat), sI (uI (uI (uI σ 35 k v) 35 k2 v2) 35 k3 v3) 27 j = sI σ 27 j := fun _ _ _ _ _ _ _ => rfl
  unfold cGoing_copyFrom_d_27
  simp only [e5, e6, e7, e1, e2, e3, e4]
  simp only [ci0_nI, ci_4_n, cb7_nI]
  rw [if_neg (cpk (by omega) (by omega) (by decide) (by decide)), if_neg (cpk (by omega) (by omega) (by decide) (by decide)), if_neg (cpk (by omega) (by omega) (by decide) (by decide)), if_neg (cpk (by omega) (by omega) (by decide) (by decide)), if_neg (cpk (by omega) (by omega) (by decide) (by decide)), if_neg (cpk (by omega) (by omega) (by decide) (by decide)), if_neg (cpk (by omega) (by omega) (by decide) (by decide))]
  rfl
theorem drm_fr {G : aG} {σ : bS} : frC (fun a => 35 ≤ a ∧ a ≤ 42) σ (drm G σ) := frCaC (frCaC (frCaC (frCaC (frCaC (frCaC (frCaC (frCaI (frCaI (frCaI (frCaI frC.rf (by decide)) (by decide)) (by decide)) (by decide)) (by decide)) (by decide)) (by decide)) (by decide)) (by decide)) (by decide)) (by decide)
theorem drm_cg {G : aG} {σ : bS} (hG : CG 27 G σ) : CG 35 G (drm G σ) := by
  have rd : ∀ j, (j < 4 → (drm G σ).2.1 36 j = σ.2.1 28 j) ∧ (j < 4 → (drm G σ).2.1 37 j = σ.2.1 29 j) ∧ (j < 7 → (drm G σ).2.1 38 j = σ.2.1 30 j) ∧ (j < 7 → (drm G σ).2.1 39 j = σ.2.1 31 j) ∧ (j < 7 → (drm G σ).2.1 40 j = σ.2.1 32 j) ∧ (j < 7 → (drm G σ).2.1 41 j = σ.2.1 33 j) ∧ (j < 7 → (drm G σ).2.1 42 j = σ.2.1 34 j) := fun j => by
    refine ⟨fun hj => ?_, fun hj => ?_, fun hj => ?_, fun hj => ?_, fun hj => ?_, fun hj => ?_, fun hj => ?_⟩
    · unfold drm
      rw [uC_o _ _ _ _ _ _ (show ¬ 36 = 42 by decide), uC_o _ _ _ _ _ _ (show ¬ 36 = 41 by decide), uC_o _ _ _ _ _ _ (show ¬ 36 = 40 by decide), uC_o _ _ _ _ _ _ (show ¬ 36 = 39 by decide), uC_o _ _ _ _ _ _ (show ¬ 36 = 38 by decide), uC_o _ _ _ _ _ _ (show ¬ 36 = 37 by decide), uC_n _ 28 36 (s := 0) (d := 0) (c := 4) (by decide) (by decide) (by decide), if_pos (by omega), Nat.sub_zero, Nat.zero_add]
      rfl
    · unfold drm
      rw [uC_o _ _ _ _ _ _ (show ¬ 37 = 42 by decide), uC_o _ _ _ _ _ _ (show ¬ 37 = 41 by decide), uC_o _ _ _ _ _ _ (show ¬ 37 = 40 by decide), uC_o _ _ _ _ _ _ (show ¬ 37 = 39 by decide), uC_o _ _ _ _ _ _ (show ¬ 37 = 38 by decide), uC_n _ 29 37 (s := 0) (d := 0) (c := 4) (by decide) (by decide) (by decide), if_pos (by omega), Nat.sub_zero, Nat.zero_add, uC_o _ _ _ _ _ _ (show ¬ 29 = 36 by decide)]
      rfl
    · unfold drm
      rw [uC_o _ _ _ _ _ _ (show ¬ 38 = 42 by decide), uC_o _ _ _ _ _ _ (show ¬ 38 = 41 by decide), uC_o _ _ _ _ _ _ (show ¬ 38 = 40 by decide), uC_o _ _ _ _ _ _ (show ¬ 38 = 39 by decide), uC_n _ 30 38 (s := 0) (d := 0) (c := 7) (by decide) (by decide) (by decide), if_pos (by omega), Nat.sub_zero, Nat.zero_add, uC_o _ _ _ _ _ _ (show ¬ 30 = 37 by decide), uC_o _ _ _ _ _ _ (show ¬ 30 = 36 by decide)]
      rfl
    · unfold drm
      rw [uC_o _ _ _ _ _ _ (show ¬ 39 = 42 by decide), uC_o _ _ _ _ _ _ (show ¬ 39 = 41 by decide), uC_o _ _ _ _ _ _ (show ¬ 39 = 40 by decide), uC_n _ 31 39 (s := 0) (d := 0) (c := 7) (by decide) (by decide) (by decide), if_pos (by omega), Nat.sub_zero, Nat.zero_add, uC_o _ _ _ _ _ _ (show ¬ 31 = 38 by decide), uC_o _ _ _ _ _ _ (show ¬ 31 = 37 by decide), uC_o _ _ _ _ _ _ (show ¬ 31 = 36 by decide)]
      rfl
    · unfold drm
      rw [uC_o _ _ _ _ _ _ (show ¬ 40 = 42 by decide), uC_o _ _ _ _ _ _ (show ¬ 40 = 41 by decide), uC_n _ 32 40 (s := 0) (d := 0) (c := 7) (by decide) (by decide) (by decide), if_pos (by omega), Nat.sub_zero, Nat.zero_add, uC_o _ _ _ _ _ _ (show ¬ 32 = 39 by decide), uC_o _ _ _ _ _ _ (show ¬ 32 = 38 by decide), uC_o _ _ _ _ _ _ (show ¬ 32 = 37 by decide), uC_o _ _ _ _ _ _ (show ¬ 32 = 36 by decide)]
      rfl
    · unfold drm
      rw [uC_o _ _ _ _ _ _ (show ¬ 41 = 42 by decide), uC_n _ 33 41 (s := 0) (d := 0) (c := 7) (by decide) (by decide) (by decide), if_pos (by omega), Nat.sub_zero, Nat.zero_add, uC_o _ _ _ _ _ _ (show ¬ 33 = 40 by decide), uC_o _ _ _ _ _ _ (show ¬ 33 = 39 by decide), uC_o _ _ _ _ _ _ (show ¬ 33 = 38 by decide), uC_o _ _ _ _ _ _ (show ¬ 33 = 37 by decide), uC_o _ _ _ _ _ _ (show ¬ 33 = 36 by decide)]
      rfl
    · unfold drm
      rw [uC_n _ 34 42 (s := 0) (d := 0) (c := 7) (by decide) (by decide) (by decide), if_pos (by omega), Nat.sub_zero, Nat.zero_add, uC_o _ _ _ _ _ _ (show ¬ 34 = 41 by decide), uC_o _ _ _ _ _ _ (show ¬ 34 = 40 by decide), uC_o _ _ _ _ _ _ (show ¬ 34 = 39 by decide), uC_o _ _ _ _ _ _ (show ¬ 34 = 38 by decide), uC_o _ _ _ _ _ _ (show ¬ 34 = 37 by decide), uC_o _ _ _ _ _ _ (show ¬ 34 = 36 by decide)]
      rfl
  refine ⟨⟨rfl, rfl, rfl, rfl⟩, fun b hb => ⟨?_, ?_⟩, fun m hm => ⟨?_, ?_, ?_, ?_, ?_⟩⟩
  · rw [(rd b).1 (by omega)]
    exact (hG.2.1 b hb).1
  · rw [(rd b).2.1 (by omega)]
    exact (hG.2.1 b hb).2
  · rw [(rd m).2.2.1 (by omega)]
    exact (hG.2.2 m hm).1
  · rw [(rd m).2.2.2.1 (by omega)]
    exact (hG.2.2 m hm).2.1
  · rw [(rd m).2.2.2.2.1 (by omega)]
    exact (hG.2.2 m hm).2.2.1
  · rw [(rd m).2.2.2.2.2.1 (by omega)]
    exact (hG.2.2 m hm).2.2.2.1
  · rw [(rd m).2.2.2.2.2.2 (by omega)]
    exact (hG.2.2 m hm).2.2.2.2
theorem m_tries_eq {T : aT} {n : Nat} {G : aG} {σ : bS} (hn : 60 ≤ n) (hT : tG T ≤ 4 ∧ tM T ≤ 7) (h : MG T 0 G σ) : ∃ σ', m_tries n σ = some σ' ∧ MG T 48 G σ' ∧ σ'.1 0 40 = nI 48 ∧ frQ σ σ' ∧ (∀ a, ¬ a = 29 → σ'.2.1 a = σ.2.1 a) := by
  obtain ⟨σ1, d1, d2, d3⟩ := m_copy (n := n) (a := 0) (b := 48) (σ := σ) hn (by omega) (by omega) (by omega)
  refine ⟨uI σ1 0 40 cb_48, ?_, h.cp hT d2, ?_, ⟨fun k hk => ?_, fun a ha => ?_, fun j hj => ?_⟩, fun a ha => d3.2.1 a ha⟩
  · unfold m_tries
    rw [cb_48_n, show m_copies n ci_0 (nI 48) σ = some σ1 from d1, ob_def]
  · rw [uI_1, if_pos ⟨rfl, rfl⟩, cb_48_n]
  · rw [uI_1, if_neg, d3.1 k (fun z => z)]
    rintro ⟨-, rfl⟩
    exact hk (by unfold scrI; decide)
  · exact d3.2.1 a (fun z => ha (by subst z; unfold scrA; omega))
  · exact (d2 j).trans (by rw [if_neg (by omega)])
theorem scG35 : ∀ a, scG 35 a → scrC a := fun a h => by unfold scrC; unfold scG at h; omega
theorem CG.go {g : Nat} {G : aG} {σ σ' : bS} {P : Nat → Prop} (h : CG g G σ) (f : frC P σ σ') (hp : ∀ a, g ≤ a → a ≤ g + 7 → ¬ P a) : CG g G σ' := h.of (fun a x y => ⟨(f a (hp a x y)).1, (f a (hp a x y)).2.1⟩)
theorem CT.fr {T : aT} {L : aL} {σ σ' : bS} {P : Nat → Prop} (h : CT T L σ) (f : frC P σ σ') (hp : ∀ a, 1 ≤ a → a ≤ 11 → ¬ P a) : CT T L σ' := h.of (fun a x y => ⟨(f a (hp a x y)).1, (f a (hp a x y)).2.1⟩)
theorem frQ.ofR48 {σ σ' : bS} (h : frR 48 σ σ') : frQ σ σ' := ⟨fun k hk => h.1 k (fun z => hk (by subst z; unfold scrI; decide)), fun a ha => h.2.1 a (fun z => ha (by unfold scrA; omega)), fun j hj => h.2.2.1 j (by omega)⟩
theorem RelB.q {i : Nat} {T : aT} {L : aL} {G : aG} {σC σM σC' σM' : bS} (h : RelB i T L G σC σM) (hC : frC scrC σC σC') (hM : frQ σM σM') : RelB i T L G σC' σM' := h.go (Nat.le_refl _) (hC.mono (fun a z => Or.inl z)) (frGM.ofQ hM) (h.2.2.2.1.go hC (fun a x y z => by unfold scrC at z; omega)) (h.2.2.2.2.1.of ⟨h.1.2.2.1, h.1.2.2.2.1⟩ (fun j x y => hM.2.2 j (by omega))) h.2.2.2.2.2.1 h.2.2.2.2.2.2.1
theorem sim_pair {i : Nat} {σC σM : bS} (hi : i ≤ 3072) (h : Rel i σC σM) (x y v : Int32) : Sim_pair (Rel (i + 6)) x y v σC σM := by
  have hrel := h
  obtain ⟨T, L, G, H0⟩ := h
  have H : RelB i T L G σC σM := H0
  have h1 := H.1
  have h2 := H.2.1
  have h3 := H.2.2.1
  have hM := H.1.2.2.2.1
  have hGG := H.1.2.2.1
  have hT : tG T ≤ 4 ∧ tM T ≤ 7 := ⟨hGG, hM⟩
  obtain ⟨hr, r1, r2, r3⟩ := Rel.hour H.2.2.2.2.2.1 hi
  have hi6 := H.2.2.2.2.2.1
  rcases ncases (tM T) (by omega) x with ⟨m, hm, rfl⟩ | hx
  · rcases ncases (tM T) (by omega) y with ⟨m', hm', rfl⟩ | hy
    · by_cases em : m = m'
      · subst em
        refine ⟨1000, 1000, -1, σC, σM, ?_, ?_, hrel.mono (by omega)⟩
        · unfold cTop_pair
          rw [c_isMan1 h2.1.2.2.2 (by omega) hm, ob_def, if_neg one_ne, c_isMan1 h2.1.2.2.2 (by omega) hm, ob_def, if_neg one_ne, if_pos rfl]
          rfl
        · unfold m_pair
          rw [m_isMan1 h3.1.2.2.2 (by omega) hm, ob_def, if_neg one_ne, m_isMan1 h3.1.2.2.2 (by omega) hm, ob_def, if_neg one_ne, if_pos rfl]
          rfl
      · have em2 : ¬ nI m = nI m' := fun z => em (nI_inj (by omega) (by omega) z)
        rcases ncases (tG T) (by omega) v with ⟨b, hb, rfl⟩ | hv
        · -- both ask whether the first could
          obtain ⟨σM1, m1, m1g, m1w, m1f, m1o⟩ := m_tries_eq (T := T) (n := 1000) (by omega) hT H.2.2.2.2.1
          have h31 : MTx T L σM1 := h3.of (fun a x y => m1o a (by omega))
          obtain ⟨σC1, c1, c1f⟩ := c_could (n := 1000) (by omega) h1 h2 H.2.2.2.1 hm hb r1 r2
          obtain ⟨σM2, m2, m2f⟩ := m_could_eq (n := 1000) (w := 48) (by omega) h1 h31 m1g hi6 m1w (by omega) hm hb r1 r2
          have H1 : RelB i T L G σC1 σM2 := H.q (c1f.mono scrC12) (m1f.trans (frQ31 m2f))
          have w2 : σM2.1 0 40 = nI 48 := (m2f.1 40 (by decide)).trans m1w
          by_cases z : G 5 m = nI (tFoot T b) ∧ ¬ G 7 m < sToll T L G m b hr
          · rw [if_pos z] at c1 m2
            have g1 := H1.2.2.2.1
            have hd := drm_cg g1
            have hT1 : CT T L (drm G σC1) := H1.2.1.fr drm_fr (fun a x y => by omega)
            obtain ⟨σC3, c3, c3g, c3f⟩ := c_cross_d (n := 1000) (by omega) h1 hT1 hd hi6 hm hb r1 r2
            obtain ⟨σM3, m3, m3g, m3f⟩ := m_cross_eq (n := 1000) (w := 48) (by omega) h1 H1.2.2.1 (m1g.scr m2f) hi6 w2 (by omega) hm hb r1 r2 z.1
            have hi7 := sCross_inv (h := hr) h1 hi6 hm hb
            have hT3 : CT T L σC3 := hT1.go (by omega) c3f
            have hT3m : MTx T L σM3 := H1.2.2.1.go m3f
            have w3 : σM3.1 0 40 = nI 48 := (m3f.1 40 (by decide)).trans w2
            obtain ⟨σC4, c4, c4f⟩ := c_could_d (n := 1000) (by omega) h1 hT3 c3g hm' hb r1 r2
            obtain ⟨σM4, m4, m4f⟩ := m_could_eq (n := 1000) (w := 48) (by omega) h1 hT3m m3g hi7 w3 (by omega) hm' hb r1 r2
            have H4 : RelB i T L G σC4 σM4 := H1.q (((drm_fr.mono (fun a z => by unfold scrC; omega)).trans (c3f.mono scG35)).trans (c4f.mono scrC12)) ((frQ.ofR48 m3f).trans (frQ31 m4f))
            have w4 : σM4.1 0 40 = nI 48 := (m4f.1 40 (by decide)).trans w3
            by_cases z2 : sCross T L G m b hr 5 m' = nI (tFoot T b) ∧ ¬ sCross T L G m b hr 7 m' < sToll T L (sCross T L G m b hr) m' b hr
            · rw [if_pos z2] at c4 m4
              obtain ⟨σM5, m5, m5g, m5f⟩ := m_cross_eq (n := 1000) (w := 48) (by omega) h1 H4.2.2.1 (m3g.scr m4f) hi7 w4 (by omega) hm' hb r1 r2 z2.1
              have w5 : σM5.1 0 40 = nI 48 := (m5f.1 40 (by decide)).trans w4
              have hi8 := sCross_inv (h := hr) h1 hi7 hm' hb
              have hT5m : MTx T L σM5 := H4.2.2.1.go m5f
              obtain ⟨σM6, m6, m6g, m6f⟩ := m_hour (n := 1000) (w := 48) (h := hr) (by omega) h1 hT5m m5g w5 (by omega) (by omega) r2
              have H6 : RelB i T L G σC4 σM6 := H4.q frC.rf ((frQ.ofR48 m5f).trans (frQ.ofR48 m6f))
              obtain ⟨σC7, σM7, c7, m7, H7, w7, f7, g7⟩ := H6.keep (n := 1000) (n1 := 1000) (by omega)
              have m7g : MG T 48 (sHour T (sCross T L (sCross T L G m b hr) m' b hr) hr) σM7 := m6g.of hT (fun j _ hj => g7 j (by omega))
              obtain ⟨σM8, m8, m8r, m8f⟩ := m_copy (n := 1000) (a := 48) (b := 0) (σ := σM7) (by omega) (by omega) (by omega) (by omega)
              obtain ⟨σC8, c8, c8g, c8f⟩ := c_cross (n := 1000) (by omega) h1 H7.2.1 H7.2.2.2.1 hi6 hm hb r1 r2
              have hT8 : CT T L σC8 := H7.2.1.go (by omega) c8f
              obtain ⟨σC9, c9, c9g, c9f⟩ := c_cross (n := 1000) (by omega) h1 hT8 c8g hi7 hm' hb r1 r2
              have hT9 : CT T L σC9 := hT8.go (by omega) c9f
              obtain ⟨σC10, c10, c10g, c10f⟩ := c_hour (n := 1000) (h := hr) (by omega) h1 hT9 c9g (by omega) r2
              have H10 : RelB (i + 6) T L (sHour T (sCross T L (sCross T L G m b hr) m' b hr) hr) σC10 σM8 := H7.go (by omega) (((c8f.mono scrG_scG).trans (c9f.mono scrG_scG)).trans (c10f.mono scrG_scG)) ⟨fun k hk => m8f.1 k (fun z => z), fun a ha => m8f.2.1 a (fun z => ha (by subst z; unfold scrA; omega)), fun j hj => by rw [m8r, if_neg (by omega)]⟩ c10g (m7g.cp hT m8r) (sHour_inv h1 hi8 (by omega)) H7.2.2.2.2.2.2.1
              refine ⟨1000, 1000, sTo (sCross T L G m b hr) b, σC10, σM8, ?_, ?_, H10.rel⟩
              · unfold cTop_pair
                rw [c_isMan1 h2.1.2.2.2 (by omega) hm, ob_def, if_neg one_ne, c_isMan1 h2.1.2.2.2 (by omega) hm', ob_def, if_neg one_ne, if_neg em2, c_isBridge1 h2.1.2.2.1 (by omega) hb, ob_def, if_neg one_ne, c1, ob_def, if_neg one_ne, drm_eq g1, ob_def, c3, ob_def, c4, ob_def, if_neg one_ne, c7, ob_def, c8, ob_def, c9, ob_def, c10, ob_def]
                exact cross_ans (T := T) (i := i) (n := 0) (cTop_pair_b133 1000) (fun _ _ => rfl)
              · unfold m_pair
                rw [m_isMan1 h3.1.2.2.2 (by omega) hm, ob_def, if_neg one_ne, m_isMan1 h3.1.2.2.2 (by omega) hm', ob_def, if_neg one_ne, if_neg em2, m_isBridge1 h3.1.2.2.1 (by omega) hb, ob_def, if_neg one_ne, m1, ob_def, m2, ob_def, if_neg one_ne, m3, ob_def, m4, ob_def, if_neg one_ne, m5, ob_def, m6, ob_def, m7, ob_def, cb_48_n, show m_copies 1000 (nI 48) ci_0 σM7 = some σM8 from m8, ob_def]
            · rw [if_neg z2] at c4 m4
              refine ⟨1000, 1000, -2, σC4, σM4, ?_, ?_, H4.rel.mono (by omega)⟩
              · unfold cTop_pair
                rw [c_isMan1 h2.1.2.2.2 (by omega) hm, ob_def, if_neg one_ne, c_isMan1 h2.1.2.2.2 (by omega) hm', ob_def, if_neg one_ne, if_neg em2, c_isBridge1 h2.1.2.2.1 (by omega) hb, ob_def, if_neg one_ne, c1, ob_def, if_neg one_ne, drm_eq g1, ob_def, c3, ob_def, c4, ob_def, if_pos rfl, cbm2]
              · unfold m_pair
                rw [m_isMan1 h3.1.2.2.2 (by omega) hm, ob_def, if_neg one_ne, m_isMan1 h3.1.2.2.2 (by omega) hm', ob_def, if_neg one_ne, if_neg em2, m_isBridge1 h3.1.2.2.1 (by omega) hb, ob_def, if_neg one_ne, m1, ob_def, m2, ob_def, if_neg one_ne, m3, ob_def, m4, ob_def, if_pos rfl, cbm2]
          · rw [if_neg z] at c1 m2
            refine ⟨1000, 1000, -2, σC1, σM2, ?_, ?_, H1.rel.mono (by omega)⟩
            · unfold cTop_pair
              rw [c_isMan1 h2.1.2.2.2 (by omega) hm, ob_def, if_neg one_ne, c_isMan1 h2.1.2.2.2 (by omega) hm', ob_def, if_neg one_ne, if_neg em2, c_isBridge1 h2.1.2.2.1 (by omega) hb, ob_def, if_neg one_ne, c1, ob_def, if_pos rfl, cbm2]
            · unfold m_pair
              rw [m_isMan1 h3.1.2.2.2 (by omega) hm, ob_def, if_neg one_ne, m_isMan1 h3.1.2.2.2 (by omega) hm', ob_def, if_neg one_ne, if_neg em2, m_isBridge1 h3.1.2.2.1 (by omega) hb, ob_def, if_neg one_ne, m1, ob_def, m2, ob_def, if_pos rfl, cbm2]
        · refine ⟨1000, 1000, -1, σC, σM, ?_, ?_, hrel.mono (by omega)⟩
          · unfold cTop_pair
            rw [c_isMan1 h2.1.2.2.2 (by omega) hm, ob_def, if_neg one_ne, c_isMan1 h2.1.2.2.2 (by omega) hm', ob_def, if_neg one_ne, if_neg em2, c_isBridge0 h2.1.2.2.1 hv, ob_def, if_pos rfl]
            rfl
          · unfold m_pair
            rw [m_isMan1 h3.1.2.2.2 (by omega) hm, ob_def, if_neg one_ne, m_isMan1 h3.1.2.2.2 (by omega) hm', ob_def, if_neg one_ne, if_neg em2, m_isBridge0 h3.1.2.2.1 hv, ob_def, if_pos rfl]
            rfl
    · refine ⟨1000, 1000, -1, σC, σM, ?_, ?_, hrel.mono (by omega)⟩
      · unfold cTop_pair
        rw [c_isMan1 h2.1.2.2.2 (by omega) hm, ob_def, if_neg one_ne, c_isMan0 h2.1.2.2.2 hy, ob_def, if_pos rfl]
        rfl
      · unfold m_pair
        rw [m_isMan1 h3.1.2.2.2 (by omega) hm, ob_def, if_neg one_ne, m_isMan0 h3.1.2.2.2 hy, ob_def, if_pos rfl]
        rfl
  · refine ⟨1000, 1000, -1, σC, σM, ?_, ?_, hrel.mono (by omega)⟩
    · unfold cTop_pair
      rw [c_isMan0 h2.1.2.2.2 hx, ob_def, if_pos rfl]
      rfl
    · unfold m_pair
      rw [m_isMan0 h3.1.2.2.2 hx, ob_def, if_pos rfl]
      rfl
