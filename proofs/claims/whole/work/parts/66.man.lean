theorem sim_man {i : Nat} {σC σM : bS} (h : Rel i σC σM) (x y : Int32) : Sim_man (Rel (i + 6)) x y σC σM := by
  have hrel := h
  obtain ⟨T, L, G, h1, h2, h3, h4, h5, h6, h7, h8, h9, h10, h11, h12⟩ := h
  have hM := h1.2.2.2.1
  have hB := h1.1
  have hGG := h1.2.2.1
  rcases ncases (tM T) (by omega) x with ⟨m, hm, rfl⟩ | hx
  · rcases kcases 5 (by decide) y with ⟨q, hq, rfl⟩ | hy
    · have hc : ∀ r, (if (nI q).toInt = 0 then bin_ (nI m) 7 (ob (cTop_orNot 20 (sA σC 30 (nI m)) σC) fun q2 => some (q2.1, q2.2)) else if (nI q).toInt = 1 then bin_ (nI m) 7 (some (sA σC 6 (nI m), σC)) else if (nI q).toInt = 2 then bin_ (nI m) 7 (some (sA σC 32 (nI m), σC)) else if (nI q).toInt = 3 then bin_ (nI m) 7 (some (sA σC 33 (nI m), σC)) else if (nI q).toInt = 4 then bin_ (nI m) 7 (some (sA σC 34 (nI m), σC)) else if (nI q).toInt = 5 then bin_ (nI m) 7 (ob (cTop_orNot 20 (sA σC 31 (nI m)) σC) fun q3 => some (q3.1, q3.2)) else some (ci_m1, σC)) = some (r, σC) → cTop_man 20 (nI m) (nI q) σC = some (r, σC) := fun r hr => by
        unfold cTop_man
        rw [c_isMan1 h2.1.2.2.2 (by omega) hm, ob_def, if_neg one_ne]
        exact hr
      have hm' : ∀ r, (if nI q = 0 then bin_ (ci_5 + nI m) 2208 (some (sA σM 29 (ci_5 + nI m), σM)) else if nI q = ci_1 then bin_ (nI m) 14 (some (sA σM 22 (nI m), σM)) else if nI q = ci_2 then bin_ (cb_19 + nI m) 2208 (some (sA σM 29 (cb_19 + nI m), σM)) else if nI q = ci_3 then bin_ (cb_26 + nI m) 2208 (some (sA σM 29 (cb_26 + nI m), σM)) else if nI q = ci_4 then bin_ (cb_33 + nI m) 2208 (m_man_b100 20 (sA σM 29 (cb_33 + nI m)) σM) else bin_ (cb_12 + nI m) 2208 (m_man_b100 20 (sA σM 29 (cb_12 + nI m)) σM)) = some (r, σM) → m_man 20 (nI m) (nI q) σM = some (r, σM) := fun r hr => by
        unfold m_man
        rw [m_isMan1 h3.1.2.2.2 (by omega) hm, ob_def, if_neg one_ne, show m_isIn 20 (nI q) ci_0 ci_5 σM = some (1, σM) from m_isIn1 (a := 0) (b := 5) (by omega) hq (by decide), ob_def, if_neg one_ne]
        exact hr
      match q, hq with
      | 0, _ =>
        refine ⟨20, 20, md (G 5 m), σC, σM, hc _ ?_, hm' _ ?_, hrel.mono (by omega)⟩
        · rw [if_pos (by decide), bin_nI (by omega) (by decide), sA_n _ _ (by omega), (h4.2.2 m (by omega)).1, orNot_eq]
          rfl
        · have e := (h5.2.2 m hm).1
          rw [Nat.zero_add] at e
          rw [if_pos (by decide), ci_5_n, nI_add, bin_nI (by omega) (by decide)]
          skip
          rw [sA_n _ _ (by omega), e]
      | 1, _ =>
        refine ⟨20, 20, nI (tHome T m), σC, σM, hc _ ?_, hm' _ ?_, hrel.mono (by omega)⟩
        · rw [if_neg (by decide), if_pos (by decide), bin_nI (by omega) (by decide), sA_n _ _ (by omega), h2.2.2.2.1 m hm]
        · rw [if_neg (by decide), if_pos (by decide), bin_nI (by omega) (by decide), sA_n _ _ (by omega), h3.2.2.2.1 m hm]
      | 2, _ =>
        refine ⟨20, 20, G 7 m, σC, σM, hc _ ?_, hm' _ ?_, hrel.mono (by omega)⟩
        · rw [if_neg (by decide), if_neg (by decide), if_pos (by decide), bin_nI (by omega) (by decide), sA_n _ _ (by omega), (h4.2.2 m (by omega)).2.2.1]
        · have e := (h5.2.2 m hm).2.2.1
          rw [Nat.zero_add] at e
          rw [if_neg (by decide), if_neg (by decide), if_pos (by decide), cb_19_n, nI_add, bin_nI (by omega) (by decide)]
          skip
          rw [sA_n _ _ (by omega), e]
      | 3, _ =>
        refine ⟨20, 20, G 8 m, σC, σM, hc _ ?_, hm' _ ?_, hrel.mono (by omega)⟩
        · rw [if_neg (by decide), if_neg (by decide), if_neg (by decide), if_pos (by decide), bin_nI (by omega) (by decide), sA_n _ _ (by omega), (h4.2.2 m (by omega)).2.2.2.1]
        · have e := (h5.2.2 m hm).2.2.2.1
          rw [Nat.zero_add] at e
          rw [if_neg (by decide), if_neg (by decide), if_neg (by decide), if_pos (by decide), cb_26_n, nI_add, bin_nI (by omega) (by decide)]
          skip
          rw [sA_n _ _ (by omega), e]
      | 4, _ =>
        refine ⟨20, 20, G 9 m, σC, σM, hc _ ?_, hm' _ ?_, hrel.mono (by omega)⟩
        · rw [if_neg (by decide), if_neg (by decide), if_neg (by decide), if_neg (by decide), if_pos (by decide), bin_nI (by omega) (by decide), sA_n _ _ (by omega), (h4.2.2 m (by omega)).2.2.2.2]
        · have e := (h5.2.2 m hm).2.2.2.2
          rw [Nat.zero_add] at e
          rw [if_neg (by decide), if_neg (by decide), if_neg (by decide), if_neg (by decide), if_pos (by decide), cb_33_n, nI_add, bin_nI (by omega) (by decide)]
          unfold m_man_b100
          rw [sA_n _ _ (by omega), e]
      | 5, _ =>
        refine ⟨20, 20, md (G 6 m), σC, σM, hc _ ?_, hm' _ ?_, hrel.mono (by omega)⟩
        · rw [if_neg (by decide), if_neg (by decide), if_neg (by decide), if_neg (by decide), if_neg (by decide), if_pos (by decide), bin_nI (by omega) (by decide), sA_n _ _ (by omega), (h4.2.2 m (by omega)).2.1, orNot_eq]
          rfl
        · have e := (h5.2.2 m hm).2.1
          rw [Nat.zero_add] at e
          rw [if_neg (by decide), if_neg (by decide), if_neg (by decide), if_neg (by decide), if_neg (by decide), cb12_nI, nI_add, bin_nI (by omega) (by decide)]
          unfold m_man_b100
          rw [sA_n _ _ (by omega), e]
      | q + 6, hq => omega
    · refine ⟨20, 20, -1, σC, σM, ?_, ?_, hrel.mono (by omega)⟩
      · unfold cTop_man
        rw [c_isMan1 h2.1.2.2.2 (by omega) hm, ob_def, if_neg one_ne, if_neg (show ¬ y.toInt = 0 from out_ne (k := 0) (by decide) hy (by omega)), if_neg (show ¬ y.toInt = 1 from out_ne (k := 1) (by decide) hy (by omega)), if_neg (show ¬ y.toInt = 2 from out_ne (k := 2) (by decide) hy (by omega)), if_neg (show ¬ y.toInt = 3 from out_ne (k := 3) (by decide) hy (by omega)), if_neg (show ¬ y.toInt = 4 from out_ne (k := 4) (by decide) hy (by omega)), if_neg (show ¬ y.toInt = 5 from out_ne (k := 5) (by decide) hy (by omega))]
        rfl
      · unfold m_man
        rw [m_isMan1 h3.1.2.2.2 (by omega) hm, ob_def, if_neg one_ne, m_isIn0 (by rw [ci0_0, ci_5_n]; exact hy), ob_def, if_pos rfl]
        rfl
  · refine ⟨20, 20, -1, σC, σM, ?_, ?_, hrel.mono (by omega)⟩
    · unfold cTop_man
      rw [c_isMan0 h2.1.2.2.2 hx, ob_def, if_pos rfl]
      rfl
    · unfold m_man
      rw [m_isMan0 h3.1.2.2.2 hx, ob_def, if_pos rfl]
      rfl
theorem c_say_l {n : Nat} {σ : bS} : ∀ (k j : Nat), j ≤ 7 → 7 < j + k → cSeen_sayers_b4 n k (bitsOf (fun m => ¬ σ.2.1 81 m < 0) j) (nI j) σ = some (bitsOf (fun m => ¬ σ.2.1 81 m < 0) 7, σ)
  | 0, j, h1, h2 => by omega
  | k + 1, j, h1, h2 => by
    rw [cSeen_sayers_b4, cb7_nI]
    by_cases hj : j < 7
    · rw [if_neg (nI_ge hj (by omega)), bin_nI (by omega) (by decide), sA_n _ _ (by omega)]
      have ih := c_say_l k (j + 1) hj (by omega) (n := n) (σ := σ)
      rw [bitsOf] at ih
      simp only [cSeen_sayers_b25, ci1_nI, nI_add]
      by_cases hx : σ.2.1 81 j < 0
      · rw [if_neg (fun z => z hx)] at ih
        rw [if_pos hx]
        exact ih
      · rw [if_pos hx] at ih
        rw [if_neg hx]
        exact ih
    · have e : j = 7 := by omega
      subst e
      rw [if_pos (Int32.le_refl _)]
theorem m_say_l {n c : Nat} {σ : bS} (hc : σ.2.1 20 0 = nI c) (h7 : c ≤ 7) : ∀ (k j : Nat), j ≤ c → c < j + k → m_saidBy_b4 n k (bitsOf (fun m => ¬ σ.2.1 46 m < 0) j) (nI j) σ = some (bitsOf (fun m => ¬ σ.2.1 46 m < 0) c, σ)
  | 0, j, h1, h2 => by omega
  | k + 1, j, h1, h2 => by
    rw [m_saidBy_b4, bin_c0 (by decide) (by decide), sA_c0, hc]
    by_cases hj : j < c
    · rw [if_neg (nI_ge hj (by omega)), bin_nI (by omega) (by decide), sA_n _ _ (by omega)]
      have ih := m_say_l hc h7 k (j + 1) hj (by omega) (n := n)
      rw [bitsOf] at ih
      simp only [m_saidBy_b29, ci1_nI, nI_add]
      by_cases hx : σ.2.1 46 j < 0
      · rw [if_neg (fun z => z hx)] at ih
        rw [if_pos hx]
        exact ih
      · rw [if_pos hx] at ih
        rw [if_neg hx]
        exact ih
    · have e : j = c := by omega
      subst e
      rw [if_pos (Int32.le_refl _)]
theorem bitsOf_more {P : Nat → Prop} [DecidablePred P] {c : Nat} : ∀ (k : Nat), (∀ j, c ≤ j → j < c + k → ¬ P j) → bitsOf P (c + k) = bitsOf P c
  | 0, _ => rfl
  | k + 1, h => by
    rw [← Nat.add_assoc, bitsOf, if_neg (h (c + k) (by omega) (by omega))]
    exact bitsOf_more k (fun j h1 h2 => h j h1 (by omega))
theorem held3 {n : Nat} {σC σM : bS} {hd : Nat → Bool} (h1 : σC.1 54 3 = bitsOf (fun k => hd k = true) 3) (h2 : ∀ k, k < 3 → σM.2.1 30 k = (if hd k = true then 1 else 0)) : ∃ v, cj_bitCount n (sI σC 54 3) σC = some (v, σC) ∧ m_heldMany (n + 4) σM = some (v, σM) := by
  unfold m_heldMany cj_bitCount cj_bitCount_b9
  refine ⟨_, rfl, ?_⟩
  have a0 : sA σM 30 ci_0 = _ := (sA_n σM 30 (show 0 < 2 ^ 31 by decide)).trans (h2 0 (by decide))
  have a1 : sA σM 30 (ci_0 + ci_1) = _ := (sA_n σM 30 (show 1 < 2 ^ 31 by decide)).trans (h2 1 (by decide))
  have a2 : sA σM 30 (ci_0 + ci_1 + ci_1) = _ := (sA_n σM 30 (show 2 < 2 ^ 31 by decide)).trans (h2 2 (by decide))
  rw [sI_d, h1]
  simp only [m_heldMany_b4, m_heldMany_b21, a0, a1, a2, bin_nI (show 0 < 3 by decide) (by decide)]
  have b0 : ∀ x : Option (Int32 × bS), bin_ ci_0 3 x = x := fun x => bin_nI (j := 0) (by decide) (by decide) x
  have b1 : ∀ x : Option (Int32 × bS), bin_ (ci_0 + ci_1) 3 x = x := fun x => bin_nI (j := 1) (by decide) (by decide) x
  have b2 : ∀ x : Option (Int32 × bS), bin_ (ci_0 + ci_1 + ci_1) 3 x = x := fun x => bin_nI (j := 2) (by decide) (by decide) x
  have c0 : ¬ ci_3 ≤ ci_0 := by decide
  have c1 : ¬ ci_3 ≤ ci_0 + ci_1 := by decide
  have c2 : ¬ ci_3 ≤ ci_0 + ci_1 + ci_1 := by decide
  have c3 : ci_3 ≤ ci_0 + ci_1 + ci_1 + ci_1 := by decide
  simp only [b0, b1, b2, c0, c1, c2, c3, if_false, if_true, bitsOf]
  obtain ⟨v0, e0⟩ : ∃ v, hd 0 = v := ⟨_, rfl⟩
  obtain ⟨v1, e1⟩ : ∃ v, hd 1 = v := ⟨_, rfl⟩
  obtain ⟨v2, e2⟩ : ∃ v, hd 2 = v := ⟨_, rfl⟩
  simp only [e0, e1, e2]
  cases v0 <;> cases v1 <;> cases v2 <;> rfl
theorem sim_count {i : Nat} {σC σM : bS} (h : Rel i σC σM) (y : Int32) : Sim_count (Rel (i + 6)) y σC σM := by
  have hrel := h
  have fin := hrel.mono (j := i + 6) (by omega)
  obtain ⟨T, L, G, h1, h2, h3, h4, h5, h6, h7, h8, h9, h10, h11, h12⟩ := h
  have hM := h1.2.2.2.1
  rcases kcases 12 (by decide) y with ⟨q, hq, rfl⟩ | hy
  · match q, hq with
    | 0, _ => exact ⟨20, 20, nI (tB T), σC, σM, by rw [← h2.1.1]; rfl, by rw [← h3.1.1]; rfl, fin⟩
    | 1, _ => exact ⟨20, 20, nI (tP T), σC, σM, by rw [← h2.1.2.1]; rfl, by rw [← h3.1.2.1]; rfl, fin⟩
    | 2, _ => exact ⟨20, 20, nI (tG T), σC, σM, by rw [← h2.1.2.2.1]; rfl, by rw [← h3.1.2.2.1]; rfl, fin⟩
    | 3, _ => exact ⟨20, 20, nI (tM T), σC, σM, by rw [← h2.1.2.2.2]; rfl, by rw [← h3.1.2.2.2]; rfl, fin⟩
    | 4, _ => exact ⟨20, 20, G 0 0, σC, σM, by rw [← h4.1.1]; rfl, by rw [← h5.1.1]; rfl, fin⟩
    | 5, _ => exact ⟨20, 20, G 1 0, σC, σM, by rw [← h4.1.2.1]; rfl, by rw [← h5.1.2.1]; rfl, fin⟩
    | 6, _ => exact ⟨20, 20, G 2 0, σC, σM, by rw [← h4.1.2.2.1]; rfl, by rw [← h5.1.2.2.1]; rfl, fin⟩
    | 7, _ =>
      obtain ⟨t, by_, a1, a2, a3, a4, a5⟩ := h8
      exact ⟨20, 20, nI t, σC, σM, by rw [← a3]; rfl, by rw [← a4]; rfl, fin⟩
    | 8, _ =>
      obtain ⟨⟨u, hh, a1, a2, a3, a4, a5, a6, a7⟩, -⟩ := h11
      exact ⟨20, 20, nI hh, σC, σM, by rw [← a5]; rfl, by rw [← a6]; rfl, fin⟩
    | 9, _ =>
      obtain ⟨c, a1, a2, a3, a4⟩ := h12.1
      exact ⟨20, 20, nI c, σC, σM, by rw [← a2]; rfl, by rw [← a3]; rfl, fin⟩
    | 10, _ =>
      obtain ⟨-, hd, b1, b2⟩ := h11
      obtain ⟨v, f1, f2⟩ := held3 (n := 16) b1 (fun k hk => (b2 k hk).1)
      refine ⟨16, 20, v, σC, σM, ?_, ?_, fin⟩
      · show (ob (cj_bitCount 16 (sI σC 54 3) σC) fun q1 => some (q1.1, q1.2)) = _
        rw [f1]; rfl
      · show (ob (m_heldMany 20 σM) fun q1 => some (q1.1, q1.2)) = _
        rw [f2]; rfl
    | 11, _ =>
      refine ⟨20, 20, bitsOf (fun m => ¬ σC.2.1 81 m < 0) 7, σC, σM, ?_, ?_, fin⟩
      · show (ob (cSeen_sayers_b4 20 20 ci_0 ci_0 σC) fun q1 => some (q1.1, q1.2)) = _
        rw [show cSeen_sayers_b4 20 20 ci_0 ci_0 σC = _ from c_say_l (n := 20) 20 0 (by omega) (by omega)]; rfl
      · show (ob (m_saidBy_b4 20 20 ci_0 ci_0 σM) fun q1 => some (q1.1, q1.2)) = _
        rw [show m_saidBy_b4 20 20 ci_0 ci_0 σM = _ from m_say_l (n := 20) h3.1.2.2.2 hM 20 0 (by omega) (by omega), ob_def]
        have e1 : bitsOf (fun m => ¬ σM.2.1 46 m < 0) (tM T) = bitsOf (fun m => ¬ σC.2.1 81 m < 0) (tM T) := bitsOf_congr _ (fun j hj => by rw [(h12.2 j (by omega)).1])
        have e2 : bitsOf (fun m => ¬ σC.2.1 81 m < 0) (tM T + (7 - tM T)) = bitsOf (fun m => ¬ σC.2.1 81 m < 0) (tM T) := bitsOf_more _ (fun j h1 h2 => by
          rcases (h12.2 j (by omega)).2 with e | ⟨e, -⟩
          · rw [e]; decide
          · omega)
        rw [e1, ← e2, show tM T + (7 - tM T) = 7 by omega]
    | 12, _ =>
      refine ⟨20, 20, md (tDawn T), σC, σM, ?_, ?_, fin⟩
      · show (ob (cTop_orNot 20 (sI σC 1 15) σC) fun q1 => some (q1.1, q1.2)) = _
        rw [orNot_eq, sI_d, h2.2.1.1]; rfl
      · show some (σM.2.1 24 0, σM) = _
        rw [h3.2.1.1]
    | q + 13, hq => omega
  · refine ⟨20, 20, -1, σC, σM, ?_, ?_, fin⟩
    · unfold cTop_count
      rw [if_neg (show ¬ y.toInt = 0 from out_ne (k := 0) (by decide) hy (by omega)), if_neg (show ¬ y.toInt = 1 from out_ne (k := 1) (by decide) hy (by omega)), if_neg (show ¬ y.toInt = 2 from out_ne (k := 2) (by decide) hy (by omega)), if_neg (show ¬ y.toInt = 3 from out_ne (k := 3) (by decide) hy (by omega)), if_neg (show ¬ y.toInt = 4 from out_ne (k := 4) (by decide) hy (by omega)), if_neg (show ¬ y.toInt = 5 from out_ne (k := 5) (by decide) hy (by omega)), if_neg (show ¬ y.toInt = 6 from out_ne (k := 6) (by decide) hy (by omega)), if_neg (show ¬ y.toInt = 7 from out_ne (k := 7) (by decide) hy (by omega)), if_neg (show ¬ y.toInt = 8 from out_ne (k := 8) (by decide) hy (by omega)), if_neg (show ¬ y.toInt = 9 from out_ne (k := 9) (by decide) hy (by omega)), if_neg (show ¬ y.toInt = 10 from out_ne (k := 10) (by decide) hy (by omega)), if_neg (show ¬ y.toInt = 11 from out_ne (k := 11) (by decide) hy (by omega)), if_neg (show ¬ y.toInt = 12 from out_ne (k := 12) (by decide) hy (by omega))]
      rfl
    · unfold m_count m_count_b157
      have n0 : ∀ k, k ≤ 12 → ¬ y = nI k := fun k hk => out_ne2 (by decide) hy hk
      rw [if_neg (show ¬ y = 0 from n0 0 (by omega)), if_neg (show ¬ y = ci_1 from n0 1 (by omega)), if_neg (show ¬ y = ci_2 from n0 2 (by omega)), if_neg (show ¬ y = ci_3 from n0 3 (by omega)), if_neg (show ¬ y = ci_4 from n0 4 (by omega)), if_neg (show ¬ y = ci_5 from n0 5 (by omega)), if_neg (show ¬ y = cb_6 from n0 6 (by omega)), if_neg (show ¬ y = cb_7 from n0 7 (by omega)), if_neg (show ¬ y = cb_8 from n0 8 (by omega)), if_neg (show ¬ y = cb_9 from n0 9 (by omega)), if_neg (show ¬ y = cb_10 from n0 10 (by omega)), if_neg (show ¬ y = cb_11 from n0 11 (by omega)), if_neg (show ¬ y = cb_12 from n0 12 (by omega))]
      rfl
