/-- as RelB.go, with the shelf told anew -/
theorem RelB.sh {i j : Nat} {T : aT} {L : aL} {G G' : aG} {σC σM σC' σM' : bS} (h : RelB i T L G σC σM) (hC : frC (fun a => a = 54 ∨ a = 55 ∨ scrG a) σC σC') (hM1 : ∀ k, ¬ (k = 41 ∨ k = 42 ∨ scrI k) → σM'.1 0 k = σM.1 0 k) (hM2 : ∀ a, ¬ (a = 30 ∨ scrA a) → σM'.2.1 a = σM.2.1 a) (hG : CG 27 G' σC') (hG2 : MG T 0 G' σM') (hi : InvG T j G') (hs : G' 10 0 = tSeed T) (hR : RShelf T j σC' σM') : RelB j T L G' σC' σM' := by
  obtain ⟨h1, h2, h3, h4, h5, h6, h7, h8, h9, h10, h11, h12⟩ := h
  have c := fun a (ha : ¬ (a = 54 ∨ a = 55 ∨ scrG a)) => hC a ha
  have nC : ∀ a, (a = 0 ∨ (1 ≤ a ∧ a ≤ 11) ∨ a = 43 ∨ a = 50 ∨ (77 ≤ a ∧ a ≤ 79) ∨ a = 81) → ¬ (a = 54 ∨ a = 55 ∨ scrG a) := fun a ha hs => by unfold scrG scrC at hs; omega
  have nI' : ∀ k, (k = 0 ∨ k = 9 ∨ k = 62) → ¬ (k = 41 ∨ k = 42 ∨ scrI k) := fun a ha hs => by unfold scrI at hs; omega
  have nA : ∀ a, (a = 1 ∨ (7 ≤ a ∧ a ≤ 24) ∨ a = 44 ∨ a = 45 ∨ a = 46) → ¬ (a = 30 ∨ scrA a) := fun a ha hs => by unfold scrA at hs; omega
  refine ⟨h1, h2.of (fun a h1 h2 => ⟨(c a (nC a (by omega))).1, (c a (nC a (by omega))).2.1⟩), h3.of (fun a h1 h2 => hM2 a (nA a (by omega))), hG, hG2, hi, hs, ?_, ?_, ?_, hR, ?_⟩
  · obtain ⟨t, by_, a1, a2, a3, a4, a5⟩ := h8
    exact ⟨t, by_, a1, a2, by rw [(c 0 (nC 0 (by omega))).1]; exact a3, by rw [hM1 0 (nI' 0 (by omega))]; exact a4, fun j hj => by rw [hM2 1 (nA 1 (by omega)), (c 43 (nC 43 (by omega))).2.1]; exact a5 j hj⟩
  · rw [(c 0 (nC 0 (by omega))).1, hM1 9 (nI' 9 (by omega))]; exact h9
  · rw [(c 50 (nC 50 (by omega))).2.2]; exact h10
  · obtain ⟨⟨k, a1, a2, a3, a4⟩, b⟩ := h12
    refine ⟨⟨k, a1, ?_, ?_, fun q hq => ?_⟩, fun m hm => ?_⟩
    · rw [(c 77 (nC 77 (by omega))).1]; exact a2
    · rw [hM1 62 (nI' 62 (by omega))]; exact a3
    · rw [(c 78 (nC 78 (by omega))).2.1, (c 79 (nC 79 (by omega))).2.1, hM2 44 (nA 44 (by omega)), hM2 45 (nA 45 (by omega))]; exact a4 q hq
    · rw [(c 81 (nC 81 (by omega))).2.1, hM2 46 (nA 46 (by omega))]; exact b m hm
theorem bits3_or (hd : Nat → Bool) {k : Nat} (hk : k < 3) : (bitsOf (fun j => hd j = true) 3 ||| (ci_1 <<< (nI k &&& 31))) = bitsOf (fun j => (if j = k then true else hd j) = true) 3 := by
  have hc : k = 0 ∨ k = 1 ∨ k = 2 := by omega
  rcases hc with rfl | rfl | rfl <;> cases e0 : hd 0 <;> cases e1 : hd 1 <;> cases e2 : hd 2 <;> simp only [bitsOf, e0, e1, e2] <;> decide
theorem bits3_at (hd : Nat → Bool) {k : Nat} (hk : k < 3) : (((bitsOf (fun j => hd j = true) 3) >>> (nI k &&& 31)) &&& ci_1) = 0 ↔ hd k = false := by
  have hc : k = 0 ∨ k = 1 ∨ k = 2 := by omega
  rcases hc with rfl | rfl | rfl <;> cases e0 : hd 0 <;> cases e1 : hd 1 <;> cases e2 : hd 2 <;> simp only [bitsOf, e0, e1, e2] <;> decide
theorem sim_undo {i : Nat} {σC σM : bS} (h : Rel i σC σM) : Sim_undo (Rel (i + 6)) σC σM := by
  have hrel := h
  obtain ⟨T, L, G, H0⟩ := h
  have H : RelB i T L G σC σM := H0
  have hT : tG T ≤ 4 ∧ tM T ≤ 7 := ⟨H.1.2.2.1, H.1.2.2.2.1⟩
  obtain ⟨⟨u, hh, a1, a2, a3, a4, a5, a6, a7⟩, hd, b1, b2⟩ := H.2.2.2.2.2.2.2.2.2.2.1
  have p1 : sI σC 54 2 = nI hh := a5
  have p2 : sI σM 0 41 = nI hh := a6
  by_cases z : hh = 0
  · subst z
    refine ⟨1000, 1000, 0, σC, σM, ?_, ?_, hrel.mono (by omega)⟩
    · unfold cTop_undo cShelf_takeBack_27
      rw [p1, if_pos (show nI 0 = 0 from rfl), bz_0, ob_def]
      rfl
    · unfold m_undo
      rw [p2, if_pos (show nI 0 = 0 from rfl), bz_0]
  · obtain ⟨G', g1, g2, g3, g4⟩ := a7 0 (by omega)
    obtain ⟨p, ep, hp⟩ : ∃ p, (u + 39 - 0) % 40 = p ∧ p < 40 := ⟨_, rfl, Nat.mod_lt _ (by decide)⟩
    rw [ep] at g1 g2
    obtain ⟨σC1, sC⟩ : ∃ y, y = uI (uI σC 54 2 (nI (hh - 1))) 54 1 (nI p) := ⟨_, rfl⟩
    obtain ⟨σM1, sM⟩ : ∃ y, y = uI (uI σM 0 41 (nI (hh - 1))) 0 42 (nI p) := ⟨_, rfl⟩
    have g1' : CSh p G' σC1 := by rw [sC]; exact g1
    obtain ⟨σM2, d1, d2, d3⟩ := m_copy (n := 1000) (a := 288 + 48 * p) (b := 0) (σ := σM1) (by omega) (by omega) (by omega) (by omega)
    have iM : ∀ k, σM2.1 0 k = if k = 42 then nI p else if k = 41 then nI (hh - 1) else σM.1 0 k := fun k => by
      rw [d3.1 k (fun z => z), sM, uI_1, uI_1]
      by_cases y : k = 42
      · simp [y]
      · by_cases y2 : k = 41 <;> simp [y, y2]
    have oM : ∀ a, ¬ a = 29 → σM2.2.1 a = σM.2.1 a := fun a ha => by rw [d3.2.1 a ha, sM]; rfl
    have rM : ∀ j, σM2.2.1 29 j = if 0 ≤ j ∧ j < 0 + 48 then σM.2.1 29 (j - 0 + (288 + 48 * p)) else σM.2.1 29 j := fun j => by rw [d2, sM]; rfl
    have fT := take55_fr (q := 46 * p) (G := G') (σ := σC1)
    have iC : ∀ k, (take55 (46 * p) G' σC1).1 54 k = if k = 1 then nI p else if k = 2 then nI (hh - 1) else σC.1 54 k := fun k => by
      rw [(fT 54 (by decide)).1, sC, uI_1, uI_1]
      by_cases y : k = 1
      · simp [y]
      · by_cases y2 : k = 2 <;> simp [y, y2]
    have c55 : (take55 (46 * p) G' σC1).2.1 55 = σC.2.1 55 := by rw [(fT 55 (by decide)).2.1, sC]; rfl
    have fin : RelB (i + 6) T L G' (take55 (46 * p) G' σC1) σM2 := by
      refine H.sh (j := i + 6) ?_ ?_ ?_ (take55_cg (by omega) g1' ?_) (MG.cp (a := 288 + 48 * p) (b := 0) hT g2 rM) (g3.mono (by omega)) g4 ⟨⟨p, hh - 1, hp, by omega, ?_, ?_, ?_, ?_, fun j hj => ?_⟩, hd, ?_, fun k hk => ⟨?_, fun y => ?_⟩⟩
      · refine frC.trans (σ1 := σC1) ?_ (fT.mono (fun a h => Or.inr (Or.inr (Or.inr h))))
        rw [sC]
        exact frCaI (frCaI frC.rf (Or.inl rfl)) (Or.inl rfl)
      · intro k hk
        rw [iM, if_neg (fun y => hk (by omega)), if_neg (fun y => hk (by omega))]
      · intro a ha
        exact oM a (fun y => ha (Or.inr (by subst y; unfold scrA; omega)))
      · rw [sC]
        exact H.2.2.2.1.1.2.2.2.trans (H.2.2.2.2.2.2.1.trans g4.symm)
      · rw [iC]; rfl
      · rw [iM]; rfl
      · rw [iC]; rfl
      · rw [iM]; rfl
      · have e : (p + 39 - j) % 40 = (u + 39 - (j + 1)) % 40 := by omega
        rw [e]
        exact (a7 (j + 1) (by omega)).of hT (by omega) c55 (fun q x y => by rw [rM, if_neg (by omega)])
      · rw [iC]; exact b1
      · rw [oM 30 (by decide)]; exact (b2 k hk).1
      · exact ((b2 k hk).2 y).of hT (by omega) c55 (fun q x y => by rw [rM, if_neg (by omega)])
    refine ⟨1000, 1000, 1, take55 (46 * p) G' σC1, σM2, ?_, ?_, fin.rel⟩
    · unfold cTop_undo cShelf_takeBack_27 cShelf_takeBack_27_b16 cShelf_takeBack_27_b29
      have q1 : sI (uI σC 54 2 (nI (hh - 1))) 54 1 = nI u := by rw [sI_d, uI_1, if_neg (by decide)]; exact a3
      have q2 : sI (uI (uI σC 54 2 (nI (hh - 1))) 54 1 (nI p)) 54 1 = nI p := by rw [sI_d, uI_1, if_pos ⟨rfl, rfl⟩]
      rw [p1, if_neg (nI_ne0 (by omega) (by omega)), ci1_nI, nI_sub (by omega), q1, cb_40_n, nI_add, nI_sub (by omega), if_neg (show ¬ nI 40 = 0 by decide), brem_n (by omega) (by decide) (by decide), show (u + 40 - 1) % 40 = p by omega, q2, cb_46_n, nI_mul, Nat.mul_comm p 46, ← sC, take55_eq (by omega) g1', ob_def, ← ci1_nI, bz_1, ob_def]
      rfl
    · unfold m_undo m_undo_b16
      have q1 : sI (uI σM 0 41 (nI (hh - 1))) 0 42 = nI u := by rw [sI_d, uI_1, if_neg (by decide)]; exact a4
      have q2 : sI (uI (uI σM 0 41 (nI (hh - 1))) 0 42 (nI p)) 0 42 = nI p := by rw [sI_d, uI_1, if_pos ⟨rfl, rfl⟩]
      rw [p2, if_neg (nI_ne0 (by omega) (by omega)), ci1_nI, nI_sub (by omega), if_neg (show ¬ cb_40 = 0 by decide), q1, cb_39_n, nI_add, cb_40_n, brem_n (by omega) (by decide) (by decide), show (u + 39) % 40 = p from ep, q2, cb_48_n, nI_mul, cs_288_n, nI_add, ← sM, show m_copies 1000 (nI (288 + 48 * p)) ci_0 σM1 = some σM2 from d1, ob_def, ← ci1_nI, bz_1]
theorem out2 {x : Int32} (h : x < 0 ∨ nI 2 < x) : x < 0 ∨ (¬ x < 0 ∧ ¬ x < ci_3 ∧ ci_3 ≤ x) := by
  by_cases z : x < 0
  · exact Or.inl z
  · obtain ⟨j, hj, rfl⟩ := nI_of z
    have y := (nI_ltI (by decide) hj).mp (h.resolve_left z)
    have e : ci_3 ≤ nI j := by rw [ci_3_n]; exact (nI_leI (by decide) hj).mpr (by omega)
    exact Or.inr ⟨z, Int32.not_lt.mpr e, e⟩
theorem sim_hold {i : Nat} {σC σM : bS} (h : Rel i σC σM) (x : Int32) : Sim_hold (Rel (i + 6)) x σC σM := by
  have hrel := h
  obtain ⟨T, L, G, H0⟩ := h
  have H : RelB i T L G σC σM := H0
  have hT : tG T ≤ 4 ∧ tM T ≤ 7 := ⟨H.1.2.2.1, H.1.2.2.2.1⟩
  obtain ⟨⟨u, hh, a1, a2, a3, a4, a5, a6, a7⟩, hd, b1, b2⟩ := H.2.2.2.2.2.2.2.2.2.2.1
  have h4 := H.2.2.2.1
  rcases kcases 2 (by decide) x with ⟨k, hk, rfl⟩ | hx
  · obtain ⟨σM1, d1, d2, d3⟩ := m_copy (n := 1000) (a := 0) (b := 144 + 48 * k) (σ := σM) (by omega) (by omega) (by omega) (by omega)
    obtain ⟨σM2, sM⟩ : ∃ y, y = uA σM1 30 (nI k) 1 := ⟨_, rfl⟩
    obtain ⟨σC2, sC⟩ : ∃ y, y = uI (put55 (46 * (40 + k)) G σC) 54 3 (bitsOf (fun j => (if j = k then true else hd j) = true) 3) := ⟨_, rfl⟩
    have e1 : (put55 (46 * (40 + k)) G σC).1 = σC.1 := rfl
    have fC : frC (fun a => a = 54 ∨ a = 55) σC σC2 := by
      rw [sC]
      exact frCaI (put55_fr.mono (fun a h => Or.inr h)) (Or.inl rfl)
    have iC : ∀ j, σC2.1 54 j = if j = 3 then bitsOf (fun j => (if j = k then true else hd j) = true) 3 else σC.1 54 j := fun j => by
      rw [sC, uI_1, e1]
      by_cases y : j = 3 <;> simp [y]
    have cC : σC2.2.1 55 = (put55 (46 * (40 + k)) G σC).2.1 55 := by rw [sC]; rfl
    have oM : ∀ a, ¬ a = 29 → ¬ a = 30 → σM2.2.1 a = σM.2.1 a := fun a ha hb => by rw [sM, uA_o _ _ _ _ hb, d3.2.1 a ha]
    have rM : ∀ j, σM2.2.1 29 j = if 144 + 48 * k ≤ j ∧ j < 144 + 48 * k + 48 then σM.2.1 29 (j - (144 + 48 * k) + 0) else σM.2.1 29 j := fun j => by rw [sM, uA_o _ _ _ _ (by decide), d2]
    have r30 : ∀ j, σM2.2.1 30 j = if j = k then 1 else σM.2.1 30 j := fun j => by
      rw [sM, uA_2, nI_clamp (by omega), d3.2.1 30 (by decide)]
      simp
    have iM : ∀ j, σM2.1 0 j = σM.1 0 j := fun j => by rw [sM]; exact d3.1 j (fun z => z)
    have ot : ∀ p w, ¬ p = 40 + k → (w + 48 ≤ 144 + 48 * k ∨ 144 + 48 * k + 48 ≤ w) → RHeld T i p w σC σM → RHeld T (i + 6) p w σC2 σM2 := fun p w hp hw => by
      rintro ⟨G', g1, g2, g3, g4⟩
      refine ⟨G', ?_, g2.of hT (fun j j1 j2 => by rw [rM, if_neg (by omega)]), g3.mono (by omega), g4⟩
      have z := put55_ot (G := G) (show 40 + k ≤ 42 by omega) hp g1
      unfold CSh at z ⊢
      rw [cC]
      exact z
    have fin : RelB (i + 6) T L G σC2 σM2 := by
      refine H.sh (j := i + 6) (fC.mono (fun a h => by omega)) (fun k _ => iM k) (fun a ha => oM a (fun y => ha (Or.inr (by subst y; unfold scrA; omega))) (fun y => ha (Or.inl y))) (h4.go fC (fun a x y => by omega)) (H.2.2.2.2.1.of hT (fun j _ hj => by rw [rM, if_neg (by omega)])) (H.2.2.2.2.2.1.mono (by omega)) H.2.2.2.2.2.2.1 ⟨⟨u, hh, a1, a2, ?_, ?_, ?_, ?_, fun j hj => ot _ _ (by omega) (by omega) (a7 j hj)⟩, fun j => if j = k then true else hd j, ?_, fun j hj => ⟨?_, fun y => ?_⟩⟩
      · rw [iC]; exact a3
      · rw [iM]; exact a4
      · rw [iC]; exact a5
      · rw [iM]; exact a6
      · rw [iC]; rfl
      · show _ = (if (if j = k then true else hd j) = true then 1 else 0)
        rw [r30]
        by_cases y : j = k
        · rw [if_pos y, if_pos y, if_pos rfl]
        · rw [if_neg y, if_neg y]; exact (b2 j hj).1
      · by_cases y2 : j = k
        · subst y2
          refine ⟨G, ?_, H.2.2.2.2.1.cp hT rM, H.2.2.2.2.2.1.mono (by omega), H.2.2.2.2.2.2.1⟩
          have z := put55_sh (show 40 + j ≤ 42 by omega) h4
          unfold CSh at z ⊢
          rw [cC]
          exact z
        · have y : (if j = k then true else hd j) = true := y
          rw [if_neg y2] at y
          exact ot _ _ (by omega) (by omega) ((b2 j hj).2 y)
    refine ⟨1000, 1000, 1, σC2, σM2, ?_, ?_, fin.rel⟩
    · unfold cTop_hold cShelf_putInSlot_27
      have q1 : sI (put55 (46 * (40 + k)) G σC) 54 3 = bitsOf (fun j => hd j = true) 3 := b1
      rw [if_neg (nI_pos (by omega)), if_pos (show nI k < ci_3 by rw [ci_3_n]; exact (nI_ltI (by omega) (by omega)).mpr (by omega)), cb_40_n, nI_add, cb_46_n, nI_mul, Nat.mul_comm, put55_eq (by omega) h4, ob_def, q1, bits3_or hd (by omega), ← sC, bz_1, ob_def]
      rfl
    · unfold m_hold
      rw [show m_isIn 1000 (nI k) ci_0 ci_2 σM = some (1, σM) from m_isIn1 (a := 0) (b := 2) (by omega) hk (by decide), ob_def, if_neg one_ne, cb_48_n, nI_mul, cs_144_n, nI_add, show m_copies 1000 ci_0 (nI (144 + 48 * k)) σM = some σM1 from d1, ob_def, bin_nI (by omega) (by decide), show vp_nar .boolean ci_1 = 1 from by decide, ← sM, bz_1]
  · refine ⟨1000, 1000, 0, σC, σM, ?_, ?_, hrel.mono (by omega)⟩
    · unfold cTop_hold cShelf_putInSlot_27 cShelf_putInSlot_27_b9
      rcases out2 hx with z | ⟨z1, z2, z3⟩
      · rw [if_pos z]; rfl
      · rw [if_neg z1, if_neg z2]; rfl
    · unfold m_hold
      rw [m_isIn0 (by rw [ci0_0, ci_2_n]; exact hx), ob_def, if_pos rfl, bz_0]
theorem sim_restore {i : Nat} {σC σM : bS} (h : Rel i σC σM) (x : Int32) : Sim_restore (Rel (i + 6)) x σC σM := by
  have hrel := h
  obtain ⟨T, L, G, H0⟩ := h
  have H : RelB i T L G σC σM := H0
  have hT : tG T ≤ 4 ∧ tM T ≤ 7 := ⟨H.1.2.2.1, H.1.2.2.2.1⟩
  obtain ⟨⟨u, hh, a1, a2, a3, a4, a5, a6, a7⟩, hd, b1, b2⟩ := H.2.2.2.2.2.2.2.2.2.2.1
  rcases kcases 2 (by decide) x with ⟨k, hk, rfl⟩ | hx
  · have e0 : m_isIn 1000 (nI k) ci_0 ci_2 σM = some (1, σM) := m_isIn1 (a := 0) (b := 2) (by omega) hk (by decide)
    have e3 : ¬ ci_3 ≤ nI k := by rw [ci_3_n]; exact nI_ge (by omega) (by omega)
    have p1 : sI σC 54 3 = bitsOf (fun j => hd j = true) 3 := b1
    have p2 : sA σM 30 (nI k) = (if hd k = true then 1 else 0) := (sA_n _ _ (by omega)).trans (b2 k (by omega)).1
    by_cases z : hd k = true
    · obtain ⟨G', g1, g2, g3, g4⟩ := (b2 k (by omega)).2 z
      obtain ⟨σM1, d1, d2, d3⟩ := m_copy (n := 1000) (a := 144 + 48 * k) (b := 0) (σ := σM) (by omega) (by omega) (by omega) (by omega)
      have fT := take55_fr (q := 46 * (40 + k)) (G := G') (σ := σC)
      have fin : RelB (i + 6) T L G' (uI (take55 (46 * (40 + k)) G' σC) 54 2 ci_0) (uI σM1 0 41 ci_0) := by
        have iC : ∀ j, (uI (take55 (46 * (40 + k)) G' σC) 54 2 ci_0).1 54 j = if j = 2 then nI 0 else σC.1 54 j := fun j => by
          rw [uI_1, (fT 54 (by decide)).1]
          by_cases y : j = 2 <;> simp [y, ci0_nI]
        have iM : ∀ j, (uI σM1 0 41 ci_0).1 0 j = if j = 41 then nI 0 else σM.1 0 j := fun j => by
          rw [uI_1, d3.1 j (fun z => z)]
          by_cases y : j = 41 <;> simp [y, ci0_nI]
        have oM : ∀ a, ¬ a = 29 → (uI σM1 0 41 ci_0).2.1 a = σM.2.1 a := fun a ha => d3.2.1 a ha
        have rM : ∀ j, (uI σM1 0 41 ci_0).2.1 29 j = if 0 ≤ j ∧ j < 0 + 48 then σM.2.1 29 (j - 0 + (144 + 48 * k)) else σM.2.1 29 j := d2
        have c55 : (uI (take55 (46 * (40 + k)) G' σC) 54 2 ci_0).2.1 55 = σC.2.1 55 := (fT 55 (by decide)).2.1
        refine H.sh (j := i + 6) (frCaI (fT.mono (fun a h => Or.inr (Or.inr (Or.inr h)))) (Or.inl rfl)) ?_ ?_ ?_ (MG.cp (a := 144 + 48 * k) (b := 0) hT g2 rM) (g3.mono (by omega)) g4 ⟨⟨u, 0, a1, by omega, ?_, ?_, ?_, ?_, fun j hj => by omega⟩, hd, ?_, fun j hj => ⟨?_, fun y => ?_⟩⟩
        · intro j hj
          rw [iM, if_neg (fun y => hj (by omega))]
        · intro a ha
          exact oM a (fun y => ha (Or.inr (by subst y; unfold scrA; omega)))
        · exact take55_cg (by omega) g1 (H.2.2.2.1.1.2.2.2.trans (H.2.2.2.2.2.2.1.trans g4.symm))
        · rw [iC]; exact a3
        · rw [iM]; exact a4
        · rw [iC]; rfl
        · rw [iM]; rfl
        · rw [iC]; exact b1
        · rw [oM 30 (by decide)]; exact (b2 j hj).1
        · exact ((b2 j hj).2 y).of hT (by omega) c55 (fun q x y => by rw [rM, if_neg (by omega)])
      refine ⟨1000, 1000, 1, _, _, ?_, ?_, fin.rel⟩
      · unfold cTop_restore cShelf_goOnFrom_27
        rw [if_neg (nI_pos (by omega)), if_neg e3, p1, if_neg (fun y => by have := (bits3_at hd (by omega)).mp y; rw [z] at this; cases this), cb_40_n, nI_add, cb_46_n, nI_mul, Nat.mul_comm, take55_eq (by omega) g1, ob_def, bz_1, ob_def]
        rfl
      · unfold m_restore
        rw [e0, ob_def, if_neg one_ne, bin_nI (by omega) (by decide), p2, if_pos z, if_neg one_ne, cb_48_n, nI_mul, cs_144_n, nI_add, show m_copies 1000 (nI (144 + 48 * k)) ci_0 σM = some σM1 from d1, ob_def, bz_1]
    · have z2 : hd k = false := by cases y : hd k; rfl; exact absurd y z
      refine ⟨1000, 1000, 0, σC, σM, ?_, ?_, hrel.mono (by omega)⟩
      · unfold cTop_restore cShelf_goOnFrom_27
        rw [if_neg (nI_pos (by omega)), if_neg e3, p1, if_pos ((bits3_at hd (by omega)).mpr z2)]
        rfl
      · unfold m_restore
        rw [e0, ob_def, if_neg one_ne, bin_nI (by omega) (by decide), p2, if_neg z, if_pos rfl]
        rfl
  · refine ⟨1000, 1000, 0, σC, σM, ?_, ?_, hrel.mono (by omega)⟩
    · unfold cTop_restore cShelf_goOnFrom_27
      rcases out2 hx with z | ⟨z1, z2, z3⟩
      · rw [if_pos z]; rfl
      · rw [if_neg z1, if_pos z3]; rfl
    · unfold m_restore
      rw [m_isIn0 (by rw [ci0_0, ci_2_n]; exact hx), ob_def, if_pos rfl]
      rfl
