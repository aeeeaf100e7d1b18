theorem md_n {j : Nat} (h : j < 2 ^ 31) : md (nI j) = nI j := by
  unfold md
  rw [if_neg (nI_pos h)]
theorem md_m : md (-1) = -2 := by decide
theorem nI_m1 {j : Nat} (h : j < 2 ^ 31) : ¬ nI j = -1 := fun e => nI_pos h (by rw [e]; decide)
theorem nI_inj {a b : Nat} (ha : a < 2 ^ 31) (hb : b < 2 ^ 31) (h : nI a = nI b) : a = b := (nI_eq ha hb).mp h
theorem ci1_nI : ci_1 = nI 1 := rfl
theorem ci0_nI : ci_0 = nI 0 := rfl
theorem ci0_0 : ci_0 = 0 := by decide
theorem ci1_1 : ci_1 = 1 := by decide
theorem cim1 : ci_m1 = -1 := by decide
theorem cbm2 : cb_m2 = -2 := by decide
theorem cb7_nI : cb_7 = nI 7 := by decide
theorem cb12_nI : cb_12 = nI 12 := by decide
theorem cn7_nI : cn_7 = nI 7 := by decide
/-! who is at a bank -/
theorem c_menAt_l {n c : Nat} {x : Int32} {σ : bS} (hc : σ.1 1 3 = nI c) (h7 : c ≤ 7) : ∀ (k j : Nat), j ≤ c → c < j + k → cGoing_menAt_b4 n k x (bitsOf (fun m => σ.2.1 30 m = x) j) (nI j) σ = some (bitsOf (fun m => σ.2.1 30 m = x) c, σ)
  | 0, j, h1, h2 => by omega
  | k + 1, j, h1, h2 => by
    rw [cGoing_menAt_b4]
    by_cases hj : j < c
    · rw [sI_d, hc, if_neg (nI_ge hj (by omega)), bin_nI (by omega) (by decide), sA_n _ _ (by omega)]
      have ih := c_menAt_l hc h7 k (j + 1) hj (by omega) (n := n) (x := x)
      rw [bitsOf] at ih
      by_cases hx : σ.2.1 30 j = x
      · rw [if_pos hx] at ih ⊢
        rw [cGoing_menAt_b31, ci1_nI, nI_add]
        exact ih
      · rw [if_neg hx] at ih ⊢
        rw [cGoing_menAt_b31, ci1_nI, nI_add]
        exact ih
    · have e : j = c := by omega
      subst e
      rw [sI_d, hc, if_pos (Int32.le_refl _)]
theorem bitsOf_congr {P Q : Nat → Prop} [DecidablePred P] [DecidablePred Q] : ∀ (n : Nat), (∀ j, j < n → (P j ↔ Q j)) → bitsOf P n = bitsOf Q n
  | 0, _ => rfl
  | n + 1, h => by
    have ih := bitsOf_congr n (fun j hj => h j (by omega))
    rw [bitsOf, bitsOf, ih]
    by_cases hp : P n
    · rw [if_pos hp, if_pos ((h n (by omega)).mp hp)]
    · rw [if_neg hp, if_neg (fun z => hp ((h n (by omega)).mpr z))]
theorem RTape.of {σC σM σC' σM' : bS} (h : RTape σC σM) (c1 : σC'.1 0 1 = σC.1 0 1) (c2 : σC'.2.1 43 = σC.2.1 43) (m1 : σM'.1 0 0 = σM.1 0 0) (m2 : σM'.2.1 1 = σM.2.1 1) : RTape σC' σM' := by
  obtain ⟨t, by_, a1, a2, a3, a4, a5⟩ := h
  exact ⟨t, by_, a1, a2, c1.trans a3, m1.trans a4, fun j hj => by rw [m2, c2]; exact a5 j hj⟩
theorem RSeen.of {T : aT} {σC σM σC' σM' : bS} (h : RSeen T σC σM) (c1 : σC'.1 77 = σC.1 77) (c2 : σC'.2.1 78 = σC.2.1 78) (c3 : σC'.2.1 79 = σC.2.1 79) (c4 : σC'.2.1 81 = σC.2.1 81) (m1 : σM'.1 0 62 = σM.1 0 62) (m2 : σM'.2.1 44 = σM.2.1 44) (m3 : σM'.2.1 45 = σM.2.1 45) (m4 : σM'.2.1 46 = σM.2.1 46) : RSeen T σC' σM' := by
  unfold RSeen
  rw [c1, c2, c3, c4, m1, m2, m3, m4]
  exact h
theorem RShelf.of {T : aT} {i j : Nat} {σC σM σC' σM' : bS} (hT : tG T ≤ 4 ∧ tM T ≤ 7) (hij : i ≤ j) (h : RShelf T i σC σM) (c1 : σC'.1 54 = σC.1 54) (c2 : σC'.2.1 55 = σC.2.1 55) (m1 : σM'.1 0 42 = σM.1 0 42) (m2 : σM'.1 0 41 = σM.1 0 41) (m3 : σM'.2.1 30 = σM.2.1 30) (m4 : ∀ k, 144 ≤ k → σM'.2.1 29 k = σM.2.1 29 k) : RShelf T j σC' σM' := by
  obtain ⟨⟨u, h, a1, a2, a3, a4, a5, a6, a7⟩, hd, b1, b2⟩ := h
  refine ⟨⟨u, h, a1, a2, by rw [c1]; exact a3, m1.trans a4, by rw [c1]; exact a5, m2.trans a6, fun k hk => (a7 k hk).of hT hij c2 (fun q _ _ => m4 q (by omega))⟩, hd, by rw [c1]; exact b1, fun k hk => ⟨by rw [m3]; exact (b2 k hk).1, fun z => ((b2 k hk).2 z).of hT hij c2 (fun q _ _ => m4 q (by omega))⟩⟩
/-- what the seen and said cells are is no matter of all else -/
theorem Rel.seen {T : aT} {L : aL} {G : aG} {i : Nat} {σC σM σC' σM' : bS} (h1 : InvT T L) (h2 : CT T L σC) (h3 : MTx T L σM) (h4 : CG 27 G σC) (h5 : MG T 0 G σM) (h6 : InvG T i G) (h7 : G 10 0 = tSeed T) (h8 : RTape σC σM) (h9 : σC.1 0 2 = σM.1 0 9) (h10 : σC.2.2 50 = tkW) (h11 : RShelf T i σC σM) (hC : frC (fun a => 77 ≤ a) σC σC') (hM : frM (fun k => k = 62) (fun a => 44 ≤ a) σM σM') (h12 : RSeen T σC' σM') : Rel (i + 6) σC' σM' := by
  have hT : tG T ≤ 4 ∧ tM T ≤ 7 := ⟨h1.2.2.1, h1.2.2.2.1⟩
  have c := fun a (ha : a < 77) => hC a (by omega)
  have m := fun a (ha : a < 44) => hM.2.1 a (by omega)
  exact ⟨T, L, G, h1, h2.of (fun a _ h => ⟨(c a (by omega)).1, (c a (by omega)).2.1⟩), h3.of (fun a _ h => m a (by omega)), h4.of (fun a _ h => ⟨(c a (by omega)).1, (c a (by omega)).2.1⟩), h5.of hT (fun k _ _ => congrFun (m 29 (by omega)) k), h6.mono (by omega), h7, h8.of (by rw [(c 0 (by omega)).1]) (c 43 (by omega)).2.1 (hM.1 0 (by decide)) (m 1 (by omega)), by rw [(c 0 (by omega)).1, hM.1 9 (by decide)]; exact h9, by rw [(c 50 (by omega)).2.2]; exact h10, h11.of hT (by omega) (c 54 (by omega)).1 (c 55 (by omega)).2.1 (hM.1 42 (by decide)) (hM.1 41 (by decide)) (m 30 (by omega)) (fun k _ => congrFun (m 29 (by omega)) k), h12⟩
theorem sim_see {i : Nat} {σC σM : bS} (h : Rel i σC σM) (x1 x2 : Int32) : Sim_see (Rel (i + 6)) x1 x2 σC σM := by
  have hrel := h.mono (j := i + 6) (by omega)
  obtain ⟨T, L, G, h1, h2, h3, h4, h5, h6, h7, h8, h9, h10, h11, h12⟩ := h
  have hB := h1.1
  have hM := h1.2.2.2.1
  rcases ncases (tM T) (by omega) x1 with ⟨m, hm, rfl⟩ | hx1
  · rcases ncases (tB T) (by omega) x2 with ⟨b, hb, rfl⟩ | hx2
    · obtain ⟨⟨c, a1, a2, a3, a4⟩, b1⟩ := id h12
      by_cases hc : c < 12
      · refine ⟨0, 0, nI c, uI (uA (uA σC 78 (nI c) (nI m)) 79 (nI c) (nI b)) 77 4 (nI (c + 1)), uI (uA (uA σM 44 (nI c) (nI m)) 45 (nI c) (nI b)) 0 62 (nI (c + 1)), ?_, ?_, ?_⟩
        · unfold cTop_see
          rw [c_isMan1 h2.1.2.2.2 (by omega) hm, ob_def, if_neg (by decide : ¬ (1 : Int32) = 0), c_isBank1 h2.1.1 (by omega) hb, ob_def, if_neg (by decide : ¬ (1 : Int32) = 0)]
          unfold cSeen_add
          have e1 : sI σC 77 4 = nI c := a2
          have e2 : sI (uA σC 78 (nI c) (nI m)) 77 4 = nI c := a2
          have e3 : sI (uA (uA σC 78 (nI c) (nI m)) 79 (nI c) (nI b)) 77 4 = nI c := a2
          simp only [e1, e2, e3]
          rw [cb12_nI, if_pos (nI_lt hc (by decide)), bin_nI hc (by decide), bin_nI hc (by decide), ci1_nI, nI_add]
          unfold cSeen_add_b47 cTop_see_b29
          rw [ob_def, show sI (uI (uA (uA σC 78 (nI c) (nI m)) 79 (nI c) (nI b)) 77 4 (nI (c + 1))) 77 4 = nI (c + 1) from rfl, nI_sub (by omega)]
          rfl
        · unfold m_see
          rw [m_isMan1 h3.1.2.2.2 (by omega) hm, ob_def, if_neg (by decide : ¬ (1 : Int32) = 0), m_isBank1 h3.1.1 (by omega) hb, ob_def, if_neg (by decide : ¬ (1 : Int32) = 0)]
          have e1 : sI σM 0 62 = nI c := a3
          have e2 : sI (uA σM 44 (nI c) (nI m)) 0 62 = nI c := a3
          have e3 : sI (uA (uA σM 44 (nI c) (nI m)) 45 (nI c) (nI b)) 0 62 = nI c := a3
          simp only [e1, e2, e3]
          rw [cb12_nI, if_neg (fun z => absurd (nI_inj (by omega) (by decide) z) (by omega)), bin_nI hc (by decide), bin_nI hc (by decide), ci1_nI, nI_add]
          unfold m_see_b63
          rw [show sI (uI (uA (uA σM 44 (nI c) (nI m)) 45 (nI c) (nI b)) 0 62 (nI (c + 1))) 0 62 = nI (c + 1) from rfl, nI_sub (by omega)]
          rfl
        · refine Rel.seen h1 h2 h3 h4 h5 h6 h7 h8 h9 h10 h11 ((frC.uA (by omega)).trans ((frC.uA (by omega)).trans (frC.uI (by omega)))) ((frM.uA (by omega)).trans ((frM.uA (by omega)).trans (frM.uI rfl))) ?_
          refine ⟨⟨c + 1, by omega, rfl, rfl, fun j hj => ?_⟩, b1⟩
          simp only [uI_2, uA_2, nI_clamp (show c < 2 ^ 31 by omega)]
          by_cases e : j = c
          · subst e
            exact ⟨⟨m, hm, by simp, by simp⟩, b, hb, by simp, by simp⟩
          · simp only [e, and_false, if_false]
            exact a4 j (by omega)
      · have e : c = 12 := by omega
        subst e
        refine ⟨0, 0, -1, σC, σM, ?_, ?_, hrel⟩
        · unfold cTop_see
          rw [c_isMan1 h2.1.2.2.2 (by omega) hm, ob_def, if_neg (by decide : ¬ (1 : Int32) = 0), c_isBank1 h2.1.1 (by omega) hb, ob_def, if_neg (by decide : ¬ (1 : Int32) = 0)]
          unfold cSeen_add
          rw [show sI σC 77 4 = nI 12 from a2, cb12_nI, if_neg (by decide)]
          rfl
        · unfold m_see
          rw [m_isMan1 h3.1.2.2.2 (by omega) hm, ob_def, if_neg (by decide : ¬ (1 : Int32) = 0), m_isBank1 h3.1.1 (by omega) hb, ob_def, if_neg (by decide : ¬ (1 : Int32) = 0)]
          rw [show sI σM 0 62 = nI 12 from a3, cb12_nI, if_pos rfl]
          rfl
    · refine ⟨0, 0, -1, σC, σM, ?_, ?_, hrel⟩
      · unfold cTop_see cTop_see_b28 cTop_see_b29
        rw [c_isMan1 h2.1.2.2.2 (by omega) hm, ob_def, if_neg (by decide : ¬ (1 : Int32) = 0), c_isBank0 h2.1.1 hx2, ob_def, if_pos rfl]
        rfl
      · unfold m_see m_see_b25
        rw [m_isMan1 h3.1.2.2.2 (by omega) hm, ob_def, if_neg (by decide : ¬ (1 : Int32) = 0), m_isBank0 h3.1.1 hx2, ob_def, if_pos rfl]
        rfl
  · refine ⟨0, 0, -1, σC, σM, ?_, ?_, hrel⟩
    · unfold cTop_see cTop_see_b28 cTop_see_b29
      rw [c_isMan0 h2.1.2.2.2 hx1, ob_def, if_pos rfl]
      rfl
    · unfold m_see m_see_b25
      rw [m_isMan0 h3.1.2.2.2 hx1, ob_def, if_pos rfl]
      rfl
theorem sim_say {i : Nat} {σC σM : bS} (h : Rel i σC σM) (x1 x2 : Int32) : Sim_say (Rel (i + 6)) x1 x2 σC σM := by
  have hrel := h.mono (j := i + 6) (by omega)
  obtain ⟨T, L, G, h1, h2, h3, h4, h5, h6, h7, h8, h9, h10, h11, h12⟩ := h
  have hB := h1.1
  have hM := h1.2.2.2.1
  rcases ncases (tM T) (by omega) x1 with ⟨m, hm, rfl⟩ | hx1
  · rcases ncases (tB T) (by omega) x2 with ⟨b, hb, rfl⟩ | hx2
    · refine ⟨0, 0, 1, uA σC 81 (nI m) (nI b), uA σM 46 (nI m) (nI b), ?_, ?_, ?_⟩
      · unfold cTop_say
        rw [c_isMan1 h2.1.2.2.2 (by omega) hm, ob_def, if_neg (by decide : ¬ (1 : Int32) = 0), c_isBank1 h2.1.1 (by omega) hb, ob_def, if_neg (by decide : ¬ (1 : Int32) = 0), bin_nI (by omega) (by decide)]
        rfl
      · unfold m_say
        rw [m_isMan1 h3.1.2.2.2 (by omega) hm, ob_def, if_neg (by decide : ¬ (1 : Int32) = 0), m_isBank1 h3.1.1 (by omega) hb, ob_def, if_neg (by decide : ¬ (1 : Int32) = 0), bin_nI (by omega) (by decide)]
        rfl
      · refine Rel.seen h1 h2 h3 h4 h5 h6 h7 h8 h9 h10 h11 (frC.uA (by omega)) (frM.uA (by omega)) ⟨h12.1, fun j hj => ?_⟩
        simp only [uA_2, nI_clamp (show m < 2 ^ 31 by omega)]
        by_cases e : j = m
        · subst e
          simp only [and_self, if_true]
          exact ⟨trivial, Or.inr ⟨hm, b, hb, rfl⟩⟩
        · simp only [e, and_false, if_false]
          exact h12.2 j hj
    · refine ⟨0, 0, 0, σC, σM, ?_, ?_, hrel⟩
      · unfold cTop_say cTop_say_b16
        rw [c_isMan1 h2.1.2.2.2 (by omega) hm, ob_def, if_neg (by decide : ¬ (1 : Int32) = 0), c_isBank0 h2.1.1 hx2, ob_def, if_pos rfl]
        rfl
      · unfold m_say m_say_b16
        rw [m_isMan1 h3.1.2.2.2 (by omega) hm, ob_def, if_neg (by decide : ¬ (1 : Int32) = 0), m_isBank0 h3.1.1 hx2, ob_def, if_pos rfl]
        rfl
  · refine ⟨0, 0, 0, σC, σM, ?_, ?_, hrel⟩
    · unfold cTop_say cTop_say_b16
      rw [c_isMan0 h2.1.2.2.2 hx1, ob_def, if_pos rfl]
      rfl
    · unfold m_say m_say_b16
      rw [m_isMan0 h3.1.2.2.2 hx1, ob_def, if_pos rfl]
      rfl
