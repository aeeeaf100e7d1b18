/-- as frR, with one field more -/
def frS (w : Nat) (σ σ' : bS) : Prop := (∀ k, ¬ (k = 46 ∨ k = 47) → σ'.1 0 k = σ.1 0 k) ∧ (∀ a, ¬ (a = 29 ∨ a = 31 ∨ a = 32) → σ'.2.1 a = σ.2.1 a) ∧ (∀ p, (p < w ∨ w + 48 ≤ p) → σ'.2.1 29 p = σ.2.1 29 p) ∧ σ'.2.2 = σ.2.2
theorem frS.rf {w : Nat} {σ : bS} : frS w σ σ := ⟨fun _ _ => rfl, fun _ _ => rfl, fun _ _ => rfl, rfl⟩
theorem frS.trans {w : Nat} {σ σ1 σ2 : bS} (h : frS w σ σ1) (h' : frS w σ1 σ2) : frS w σ σ2 := ⟨fun k hk => (h'.1 k hk).trans (h.1 k hk), fun a ha => (h'.2.1 a ha).trans (h.2.1 a ha), fun p hp => (h'.2.2.1 p hp).trans (h.2.2.1 p hp), h'.2.2.2.trans h.2.2.2⟩
theorem frS.ofR {w : Nat} {σ σ' : bS} (h : frR w σ σ') : frS w σ σ' := ⟨fun k hk => h.1 k (fun z => hk (Or.inl z)), h.2.1, h.2.2.1, h.2.2.2⟩
theorem frS.uI {w : Nat} {σ : bS} {v : Int32} : frS w σ (uI σ 0 47 v) := ⟨fun k hk => by
  rw [uI_1, if_neg]
  rintro ⟨-, rfl⟩
  exact hk (Or.inr rfl), fun _ _ => rfl, fun _ _ => rfl, rfl⟩
theorem MTx.goS {T : aT} {L : aL} {w : Nat} {σ σ' : bS} (h : MTx T L σ) (f : frS w σ σ') : MTx T L σ' := h.of (fun a h1 h2 => f.2.1 a (by omega))
theorem frGM.ofS2 {w : Nat} {σ σ' : bS} (h : frS w σ σ') (hw : w ≤ 96) : frGM σ σ' := ⟨fun k hk => h.1 k (fun z => hk (by unfold scrI; omega)), fun a ha => h.2.1 a (fun z => ha (by unfold scrA; omega)), fun j hj => h.2.2.1 j (by omega)⟩
theorem frQ.ofS48 {w : Nat} {σ σ' : bS} (h : frS w σ σ') (h1 : 48 ≤ w) (h2 : w ≤ 96) : frQ σ σ' := ⟨fun k hk => h.1 k (fun z => hk (by unfold scrI; omega)), fun a ha => h.2.1 a (fun z => ha (by unfold scrA; omega)), fun j hj => h.2.2.1 j (by omega)⟩
theorem m_tak1_l {T : aT} {L : aL} {i n m h w : Nat} {G : aG} {U : Int32} (hn : 1000 ≤ n) (hI : InvT T L) (hm : m < tM T) (hh : h < 2 ^ 31) (hh2 : G 0 0 = nI h) (hi : InvG T i G) (hw2 : w ≤ 2000) : ∀ (k j : Nat) (σ : bS), MTx T L σ → MG T w G σ → σ.1 0 40 = nI w → σ.1 0 47 = U → j ≤ tG T → tG T < j + k → (∀ b, b < j → ¬ P1 T L G U m h b) → ∃ (r : Int32) (σ' : bS), m_taken_b2 n k (nI m) ci_1 (nI j) σ = some (r, σ') ∧ isFst (P1 T L G U m h) (tG T) r ∧ frM sc46 sc31 σ σ'
  | 0, j, σ, hT, hG, hw, hU, h1, h2, a => by omega
  | k + 1, j, σ, hT, hG, hw, hU, h1, h2, a => by
    have hBB := hI.1
    have hGG := hI.2.2.1
    have hMM := hI.2.2.2.1
    have eU : sI σ 0 47 = U := hU
    rw [m_taken_b2, bin_c0 (by decide) (by decide), sA_c0, hT.1.2.2.1, eU]
    by_cases hj : j < tG T
    · rw [if_neg (nI_ge hj (by omega))]
      have nx : ¬ P1 T L G U m h j → ∀ b, b < j + 1 → ¬ P1 T L G U m h b := fun z b hb => by
        by_cases e : b = j
        · rw [e]; exact z
        · exact a b (by omega)
      by_cases u : isFr U j
      · have u2 : ¬ ((U >>> (nI j &&& 31)) &&& ci_1) = ci_1 := fun q => by
          have u3 : ((U >>> (nI j &&& 31)) &&& ci_1) = 0 := u
          rw [u3] at q
          exact absurd q (by decide)
        rw [if_neg u2]
        obtain ⟨σ1, c1, c2⟩ := m_could_eq hn hI hT hG hi hw hw2 hm hj hh hh2
        by_cases z : canB T L G m j h
        · rw [if_pos z] at c1
          have q1 : sA σ1 29 (nI (w + 1 + j)) = md (G 3 j) := (sA_n _ _ (by omega)).trans ((hG.scr c2).2.1 j hj).1
          have q2 : sA σ1 22 (nI m) = nI (tHome T m) := (sA_n _ _ (by omega)).trans ((hT.scr c2).2.2.2.1 m hm)
          have q3 : sI σ1 0 40 = nI w := (c2.1 40 (by decide)).trans hw
          have q4 := hI.2.2.2.2.2.1 m hm
          rw [c1, ob_def, if_neg one_ne, if_neg (show ¬ ci_1 = 0 by decide)]
          simp only [q3]
          rw [ci1_nI, nI_add, nI_add, bin_nI (by omega) (by decide), bin_nI (by omega) (by decide), q1, q2, ← ci1_nI]
          by_cases y : G 3 j = nI (tHome T m)
          · rw [if_pos ((md_eq (show tB T < 2 ^ 31 by omega) (hi.2.1 j hj) (by omega)).mpr y)]
            exact ⟨nI j, σ1, rfl, Or.inl ⟨j, hj, rfl, ⟨u, y, z⟩, a⟩, c2⟩
          · rw [if_neg (fun q => y ((md_eq (show tB T < 2 ^ 31 by omega) (hi.2.1 j hj) (by omega)).mp q)), m_taken_b76, ci1_nI, nI_add, ← ci1_nI]
            obtain ⟨r, σ3, e1, e2, e3⟩ := m_tak1_l hn hI hm hh hh2 hi hw2 k (j + 1) σ1 (hT.scr c2) (hG.scr c2) q3 ((c2.1 47 (by decide)).trans hU) hj (by omega) (nx (fun q => y q.2.1))
            exact ⟨r, σ3, e1, e2, c2.trans e3⟩
        · rw [if_neg z] at c1
          rw [c1, ob_def, if_pos rfl, m_taken_b76, show (nI j + ci_1 : Int32) = nI (j + 1) from nI_add j 1]
          obtain ⟨r, σ3, e1, e2, e3⟩ := m_tak1_l hn hI hm hh hh2 hi hw2 k (j + 1) σ1 (hT.scr c2) (hG.scr c2) ((c2.1 40 (by decide)).trans hw) ((c2.1 47 (by decide)).trans hU) hj (by omega) (nx (fun q => z q.2.2))
          exact ⟨r, σ3, e1, e2, c2.trans e3⟩
      · have u2 : ((U >>> (nI j &&& 31)) &&& ci_1) = ci_1 := (and1 _).resolve_left u
        rw [if_pos u2, m_taken_b76, show (nI j + ci_1 : Int32) = nI (j + 1) from nI_add j 1]
        exact m_tak1_l hn hI hm hh hh2 hi hw2 k (j + 1) σ hT hG hw hU hj (by omega) (nx (fun q => u q.1))
    · have e : j = tG T := by omega
      subst e
      rw [if_pos (Int32.le_refl _), cim1]
      exact ⟨-1, σ, rfl, Or.inr ⟨rfl, a⟩, frM.rf⟩
theorem m_tak0_l {T : aT} {L : aL} {i n m h w : Nat} {G : aG} {U : Int32} (hn : 1000 ≤ n) (hI : InvT T L) (hm : m < tM T) (hh : h < 2 ^ 31) (hh2 : G 0 0 = nI h) (hi : InvG T i G) (hw2 : w ≤ 2000) : ∀ (k j : Nat) (σ : bS), MTx T L σ → MG T w G σ → σ.1 0 40 = nI w → σ.1 0 47 = U → j ≤ tG T → tG T < j + k → (∀ b, b < j → ¬ P2 T L G U m h b) → ∃ (r : Int32) (σ' : bS), m_taken_b2 n k (nI m) ci_0 (nI j) σ = some (r, σ') ∧ isFst (P2 T L G U m h) (tG T) r ∧ frM sc46 sc31 σ σ'
  | 0, j, σ, hT, hG, hw, hU, h1, h2, a => by omega
  | k + 1, j, σ, hT, hG, hw, hU, h1, h2, a => by
    have hBB := hI.1
    have hGG := hI.2.2.1
    have hMM := hI.2.2.2.1
    have eU : sI σ 0 47 = U := hU
    rw [m_taken_b2, bin_c0 (by decide) (by decide), sA_c0, hT.1.2.2.1, eU]
    by_cases hj : j < tG T
    · rw [if_neg (nI_ge hj (by omega))]
      have nx : ¬ P2 T L G U m h j → ∀ b, b < j + 1 → ¬ P2 T L G U m h b := fun z b hb => by
        by_cases e : b = j
        · rw [e]; exact z
        · exact a b (by omega)
      by_cases u : isFr U j
      · have u2 : ¬ ((U >>> (nI j &&& 31)) &&& ci_1) = ci_1 := fun q => by
          have u3 : ((U >>> (nI j &&& 31)) &&& ci_1) = 0 := u
          rw [u3] at q
          exact absurd q (by decide)
        rw [if_neg u2]
        obtain ⟨σ1, c1, c2⟩ := m_could_eq hn hI hT hG hi hw hw2 hm hj hh hh2
        by_cases z : canB T L G m j h
        · rw [if_pos z] at c1
          have q3 : σ1.1 0 40 = nI w := (c2.1 40 (by decide)).trans hw
          have q4 := hI.2.2.2.2.1 j hj
          obtain ⟨r, σ2, d1, d2, d3⟩ := m_goesBy_eq hn hI (hT.scr c2) (hG.scr c2) q3 hw2 hm hj hh hh2 q4 z.1 (hi.2.1 j hj)
          rw [c1, ob_def, if_neg one_ne, if_pos ci0_0, d1, ob_def]
          rcases d2 with ⟨rfl, y⟩ | ⟨rfl, y⟩
          · rw [if_neg one_ne]
            exact ⟨nI j, σ2, rfl, Or.inl ⟨j, hj, rfl, ⟨u, z, y⟩, a⟩, c2.trans d3⟩
          · rw [if_pos rfl, m_taken_b76, ci1_nI, nI_add]
            obtain ⟨r, σ3, e1, e2, e3⟩ := m_tak0_l hn hI hm hh hh2 hi hw2 k (j + 1) σ2 ((hT.scr c2).scr d3) ((hG.scr c2).scr d3) ((d3.1 40 (by decide)).trans q3) ((d3.1 47 (by decide)).trans ((c2.1 47 (by decide)).trans hU)) hj (by omega) (nx (fun q => y q.2.2))
            exact ⟨r, σ3, e1, e2, (c2.trans d3).trans e3⟩
        · rw [if_neg z] at c1
          rw [c1, ob_def, if_pos rfl, m_taken_b76, show (nI j + ci_1 : Int32) = nI (j + 1) from nI_add j 1]
          obtain ⟨r, σ3, e1, e2, e3⟩ := m_tak0_l hn hI hm hh hh2 hi hw2 k (j + 1) σ1 (hT.scr c2) (hG.scr c2) ((c2.1 40 (by decide)).trans hw) ((c2.1 47 (by decide)).trans hU) hj (by omega) (nx (fun q => z q.2.1))
          exact ⟨r, σ3, e1, e2, c2.trans e3⟩
      · have u2 : ((U >>> (nI j &&& 31)) &&& ci_1) = ci_1 := (and1 _).resolve_left u
        rw [if_pos u2, m_taken_b76, show (nI j + ci_1 : Int32) = nI (j + 1) from nI_add j 1]
        exact m_tak0_l hn hI hm hh hh2 hi hw2 k (j + 1) σ hT hG hw hU hj (by omega) (nx (fun q => u q.1))
    · have e : j = tG T := by omega
      subst e
      rw [if_pos (Int32.le_refl _), cim1]
      exact ⟨-1, σ, rfl, Or.inr ⟨rfl, a⟩, frM.rf⟩
theorem m_men_l {T : aT} {L : aL} {i n h w : Nat} {x : Int32} {G : aG} (hn : 1000 ≤ n) (hI : InvT T L) (hw2 : w ≤ 2000) (hh : h + 1 < 2 ^ 31) (hh2 : G 0 0 = nI h) : ∀ (k j : Nat) (σ : bS), MTx T L σ → MG T w (sMen T L h x G j).2 σ → InvG T i (sMen T L h x G j).2 → (sMen T L h x G j).2 0 0 = nI h → σ.1 0 40 = nI w → σ.1 0 47 = (sMen T L h x G j).1 → j ≤ tM T → tM T < j + k → ∃ σ', m_ruleGoes_b7 n k x (nI j) σ = some σ' ∧ MG T w (sRule T L h x G) σ' ∧ frS w σ σ'
  | 0, j, σ, hT, hG, hi, ho, hw, hU, h1, h2 => by omega
  | k + 1, j, σ, hT, hG, hi, ho, hw, hU, h1, h2 => by
    have hBB := hI.1
    have hGG := hI.2.2.1
    have hMM := hI.2.2.2.1
    rw [m_ruleGoes_b7, bin_c0 (by decide) (by decide), sA_c0, hT.1.2.2.2]
    by_cases hj : j < tM T
    · rw [if_neg (nI_ge hj (by omega))]
      have es : sMen T L h x G (j + 1) = sMan T L h x (sMen T L h x G j) j := rfl
      obtain ⟨U, eU⟩ : ∃ U, U = (sMen T L h x G j).1 := ⟨_, rfl⟩
      obtain ⟨G1, eG⟩ : ∃ G1, G1 = (sMen T L h x G j).2 := ⟨_, rfl⟩
      have ep : sMen T L h x G j = (U, G1) := by rw [eU, eG]
      have skip : (nI j = x ∨ 0 ≤ G1 6 j ∨ G1 5 j = nI (tHome T j)) → ∃ σ', m_ruleGoes_b104 n (m_ruleGoes_b7 n k) x (nI j) σ = some σ' ∧ MG T w (sRule T L h x G) σ' ∧ frS w σ σ' := fun z => by
        have e : sMen T L h x G (j + 1) = sMen T L h x G j := by
          rw [es, ep]
          unfold sMan
          rw [if_pos z]
        rw [m_ruleGoes_b104, ci1_nI, nI_add]
        exact m_men_l hn hI hw2 hh hh2 k (j + 1) σ hT (by rw [e]; exact hG) (by rw [e]; exact hi) (by rw [e]; exact ho) hw (by rw [e]; exact hU) hj (by omega)
      rw [← eU] at hU
      rw [← eG] at hG hi ho
      by_cases x1 : nI j = x
      · rw [if_pos x1]
        exact skip (Or.inl x1)
      · rw [if_neg x1]
        by_cases x2 : 0 ≤ G1 6 j
        · rw [m_isOn1 hw hw2 (by omega) (hG.2.2 j hj).2.1 (Int32.not_lt.mpr x2), ob_def, if_neg one_ne]
          exact skip (Or.inr (Or.inl x2))
        · rw [m_isOn0 hw hw2 (by omega) (hG.2.2 j hj).2.1 (Int32.not_le.mp x2), ob_def, if_pos rfl, m_isHome_eq hI hT hG hi hw hw2 hj, ob_def]
          by_cases x3 : G1 5 j = nI (tHome T j)
          · rw [if_pos x3]
            simp only [if_neg one_ne]
            exact skip (Or.inr (Or.inr x3))
          · rw [if_neg x3]
            simp only [if_true]
            have ez : ¬ (nI j = x ∨ 0 ≤ (U, G1).2 6 j ∨ (U, G1).2 5 j = nI (tHome T j)) := by
              rintro (y | y | y)
              · exact x1 y
              · exact x2 y
              · exact x3 y
            -- both ways of taking one
            have fin : ∀ (r : Int32) (σ1 : bS), isRule (P1 T L G1 U j h) (P2 T L G1 U j h) (tG T) r → frM sc46 sc31 σ σ1 → ∃ σ', m_ruleGoes_b59 n (m_ruleGoes_b7 n k) x (nI j) r σ1 = some σ' ∧ MG T w (sRule T L h x G) σ' ∧ frS w σ σ' := fun r σ1 c2 c3 => by
              have er : sPick T L G1 U j h = r := pick_eq c2
              have hT1 := hT.scr c3
              have hG1 := hG.scr c3
              have w1 : σ1.1 0 40 = nI w := (c3.1 40 (by decide)).trans hw
              have U1 : σ1.1 0 47 = U := (c3.1 47 (by decide)).trans hU
              unfold m_ruleGoes_b59
              rcases c2.can with ⟨b, hb, rfl, hc⟩ | rfl
              · obtain ⟨σ2, d1, d2, d3⟩ := m_cross_eq (h := h) hn hI hT1 hG1 hi w1 hw2 hj hb (by omega) ho hc.1
                have e : sMen T L h x G (j + 1) = (U ||| (ci_1 <<< (nI b &&& 31)), sCross T L G1 j b h) := by
                  rw [es, ep]
                  unfold sMan
                  rw [if_neg ez]
                  show (if 0 ≤ sPick T L G1 U j h then (U ||| (ci_1 <<< (sPick T L G1 U j h &&& 31)), sCross T L G1 j (sPick T L G1 U j h).toNatClampNeg h) else _) = _
                  rw [er, if_pos (nI_pos' (by omega)), nI_clamp (by omega)]
                have U2 : sI σ2 0 47 = U := (d3.1 47 (by decide)).trans U1
                rw [if_pos (nI_pos' (by omega)), d1, ob_def, m_ruleGoes_b104]
                simp only [U2]
                rw [show (nI j + ci_1 : Int32) = nI (j + 1) from nI_add j 1]
                obtain ⟨σ3, e1, e2, e3⟩ := m_men_l (i := i) hn hI hw2 hh hh2 k (j + 1) (uI σ2 0 47 (U ||| (ci_1 <<< (nI b &&& 31)))) ((hT1.go d3).of (fun _ _ _ => rfl)) (by rw [e]; exact d2) (by rw [e]; exact sCross_inv hI hi hj hb) (by rw [e]; exact ho) ((d3.1 40 (by decide)).trans w1) (by rw [e]; rfl) hj (by omega)
                exact ⟨σ3, e1, e2, (((frS.ofR (frR.scr c3)).trans (frS.ofR d3)).trans frS.uI).trans e3⟩
              · have e : sMen T L h x G (j + 1) = (U, gset G1 9 j (G1 9 j + 1)) := by
                  rw [es, ep]
                  unfold sMan
                  rw [if_neg ez]
                  show (if 0 ≤ sPick T L G1 U j h then _ else (U, gset G1 9 j (G1 9 j + 1))) = _
                  rw [er, if_neg (by decide)]
                have q9 : sA σ1 29 (nI (w + 33 + j)) = G1 9 j := (sA_n _ _ (by omega)).trans (hG1.2.2 j hj).2.2.2.2
                have qw : sI σ1 0 40 = nI w := w1
                rw [if_neg (show ¬ (0 : Int32) ≤ -1 by decide), qw, cb_33_n, nI_add, nI_add, bin_nI (by omega) (by decide), bin_nI (by omega) (by decide), q9, m_ruleGoes_b104, show (nI j + ci_1 : Int32) = nI (j + 1) from nI_add j 1, ci1_1]
                have rd : ∀ p, (uA σ1 29 (nI (w + 33 + j)) (G1 9 j + 1)).2.1 29 p = if p = w + 33 + j then G1 9 j + 1 else σ1.2.1 29 p := fun p => by
                  rw [uA_2, nI_clamp (by omega)]
                  simp
                have f9 : frR w σ1 (uA σ1 29 (nI (w + 33 + j)) (G1 9 j + 1)) := frRa frR.rf (by omega) (by omega) (by omega)
                obtain ⟨σ3, e1, e2, e3⟩ := m_men_l (i := i) hn hI hw2 hh hh2 k (j + 1) (uA σ1 29 (nI (w + 33 + j)) (G1 9 j + 1)) (hT1.go f9) (by
                  rw [e]
                  refine ⟨⟨?_, ?_, ?_, ?_⟩, fun b hb => ⟨?_, ?_⟩, fun m hm => ⟨?_, ?_, ?_, ?_, ?_⟩⟩
                  · rw [rd, if_neg (by omega)]; exact hG1.1.1
                  · rw [rd, if_neg (by omega)]; exact hG1.1.2.1
                  · rw [rd, if_neg (by omega)]; exact hG1.1.2.2.1
                  · rw [rd, if_neg (by omega)]; exact hG1.1.2.2.2
                  · rw [rd, if_neg (by omega)]; exact (hG1.2.1 b hb).1
                  · rw [rd, if_neg (by omega)]; exact (hG1.2.1 b hb).2
                  · rw [rd, if_neg (by omega)]; exact (hG1.2.2 m hm).1
                  · rw [rd, if_neg (by omega)]; exact (hG1.2.2 m hm).2.1
                  · rw [rd, if_neg (by omega)]; exact (hG1.2.2 m hm).2.2.1
                  · rw [rd, if_neg (by omega)]; exact (hG1.2.2 m hm).2.2.2.1
                  · show _ = (if 9 = 9 ∧ m = j then G1 9 j + 1 else G1 9 m)
                    rw [rd]
                    by_cases y : m = j
                    · rw [if_pos (by omega), if_pos ⟨rfl, y⟩]
                    · rw [if_neg (by omega), if_neg (fun q => y q.2)]
                      exact (hG1.2.2 m hm).2.2.2.2) (by rw [e]; exact gset9_inv hi) (by rw [e]; exact ho) w1 (by rw [e]; exact U1) hj (by omega)
                exact ⟨σ3, e1, e2, ((frS.ofR (frR.scr c3)).trans (frS.ofR f9)).trans e3⟩
            obtain ⟨r, σ1, c1, c2, c3⟩ := m_tak1_l (U := U) (h := h) hn hI hj (by omega) ho hi hw2 n 0 σ hT hG hw hU (by omega) (by omega) (fun b hb => by omega)
            unfold m_taken
            rw [show m_taken_b2 n n (nI j) ci_1 ci_0 σ = _ from c1, ob_def]
            rcases c2 with ⟨b, y1, rfl, y3, y4⟩ | ⟨rfl, y2⟩
            · rw [if_pos (nI_pos' (by omega))]
              exact fin _ _ (Or.inl ⟨b, y1, rfl, y3, y4⟩) c3
            · obtain ⟨r, σ2, d1, d2, d3⟩ := m_tak0_l (U := U) (h := h) hn hI hj (by omega) ho hi hw2 n 0 σ1 (hT.scr c3) (hG.scr c3) ((c3.1 40 (by decide)).trans hw) ((c3.1 47 (by decide)).trans hU) (by omega) (by omega) (fun b hb => by omega)
              rw [if_neg (show ¬ (0 : Int32) ≤ -1 by decide), show m_taken_b2 n n (nI j) ci_0 ci_0 σ1 = _ from d1, ob_def]
              exact fin _ _ (Or.inr ⟨y2, d2⟩) (c3.trans d3)
    · have e : j = tM T := by omega
      subst e
      rw [if_pos (Int32.le_refl _)]
      obtain ⟨σ1, c1, c2, c3⟩ := m_hour (n := n) (w := w) (by omega) hI hT hG hw hw2 hh ho
      rw [c1, ob_def]
      exact ⟨σ1, rfl, c2, frS.ofR c3⟩
theorem m_rule_eq {T : aT} {L : aL} {i n h w : Nat} {x : Int32} {G : aG} {σ : bS} (hn : 1000 ≤ n) (hI : InvT T L) (hT : MTx T L σ) (hG : MG T w G σ) (hi : InvG T i G) (hw : σ.1 0 40 = nI w) (hw2 : w ≤ 2000) (hh : h + 1 < 2 ^ 31) (hh2 : G 0 0 = nI h) : ∃ σ', m_ruleGoes n x σ = some σ' ∧ MG T w (sRule T L h x G) σ' ∧ frS w σ σ' := by
  have hMM := hI.2.2.2.1
  unfold m_ruleGoes
  obtain ⟨σ1, c1, c2, c3⟩ := m_men_l (i := i) (x := x) (G := G) hn hI hw2 hh hh2 n 0 (uI σ 0 47 ci_0) (hT.of (fun _ _ _ => rfl)) hG hi hh2 hw rfl (by omega) (by omega)
  exact ⟨σ1, c1, c2, frS.uI.trans c3⟩
theorem sRule_inv {T : aT} {L : aL} {i i1 h : Nat} {x : Int32} {G : aG} (hI : InvT T L) (hi : InvG T i (sMen T L h x G (tM T)).2) (hh : h + 1 ≤ 34 * i1) : InvG T i1 (sRule T L h x G) := sHour_inv hI hi hh
theorem sMen_seed {T : aT} {L : aL} {h : Nat} {x : Int32} {G : aG} : ∀ m, (sMen T L h x G m).2 10 0 = G 10 0
  | 0 => rfl
  | m + 1 => by
    show (sMan T L h x (sMen T L h x G m) m).2 10 0 = _
    rw [← sMen_seed (T := T) (L := L) (h := h) (x := x) (G := G) m]
    unfold sMan
    split
    · rfl
    · split
      · rfl
      · rfl
theorem RelB.rule {i j n h : Nat} {x : Int32} {T : aT} {L : aL} {G : aG} {σC σM : bS} (hn : 1000 ≤ n) (H : RelB i T L G σC σM) (hij : i ≤ j) (hw : σM.1 0 40 = nI 0) (hh : h + 1 < 2 ^ 31) (hh2 : G 0 0 = nI h) (hj : h + 1 ≤ 34 * j) : ∃ σC' σM', cGoing_ruleHour n x σC = some σC' ∧ m_ruleGoes n x σM = some σM' ∧ RelB j T L (sRule T L h x G) σC' σM' ∧ σM'.1 0 40 = nI 0 := by
  obtain ⟨σC1, c1, c2, c3, c4, c5⟩ := c_rule (x := x) (n := n) (by omega) H.1 H.2.1 H.2.2.2.1 H.2.2.2.2.2.1 hh hh2
  obtain ⟨σM1, m1, m2, m3⟩ := m_rule_eq (x := x) (w := 0) hn H.1 H.2.2.1 H.2.2.2.2.1 H.2.2.2.2.2.1 hw (by omega) hh hh2
  exact ⟨σC1, σM1, c1, m1, H.go hij (c3.mono scrG_scG) (frGM.ofS2 m3 (by omega)) c2 m2 (sRule_inv H.1 c4 hj) ((sMen_seed (tM T)).trans H.2.2.2.2.2.2.1), (m3.1 40 (by decide)).trans hw⟩
theorem rule_l {n i c : Nat} {T : aT} {L : aL} (hn : 1000 ≤ n) (hi : i ≤ 4000) (hc : c ≤ 200) : ∀ (k j h : Nat) (G : aG) (σC σM : bS), RelB i T L G σC σM → σM.1 0 40 = nI 0 → G 0 0 = nI h → h + (c - j) ≤ 34 * i → j ≤ c → c < j + k → ∃ (G' : aG) (σC' σM' : bS), cTop_rule_b30 n k (nI c) (nI j) σC = some (G' 0 0, σC') ∧ m_rulesGo_b2 n k (nI c) (nI j) σM = some σM' ∧ RelB i T L G' σC' σM'
  | 0, j, h, G, σC, σM, H, hw, hh, h1, h2, h3 => by omega
  | k + 1, j, h, G, σC, σM, H, hw, hh, h1, h2, h3 => by
    rw [cTop_rule_b30, m_rulesGo_b2]
    by_cases hj : j < c
    · obtain ⟨σC1, σM1, c1, m1, H1, w1⟩ := H.rule (x := ci_m1) hn (Nat.le_refl _) hw (show h + 1 < 2 ^ 31 by omega) hh (by omega)
      rw [if_neg (nI_ge hj (by omega)), if_neg (nI_ge hj (by omega)), c1, m1, ob_def, ob_def, ci1_nI, nI_add]
      exact rule_l hn hi hc k (j + 1) (h + 1) _ σC1 σM1 H1 w1 rfl (by omega) hj (by omega)
    · have e : j = c := by omega
      subst e
      rw [if_pos (Int32.le_refl _), if_pos (Int32.le_refl _)]
      exact ⟨G, σC, σM, by rw [sI_d, H.2.2.2.1.1.1], rfl, H⟩
theorem sim_rule {i : Nat} {σC σM : bS} (hi : i ≤ 3072) (h : Rel i σC σM) (x : Int32) : Sim_rule (Rel (i + 6)) x σC σM := by
  have hrel := h
  obtain ⟨T, L, G, H0⟩ := h
  have H : RelB i T L G σC σM := H0
  obtain ⟨hr, r1, r2, r3⟩ := Rel.hour H.2.2.2.2.2.1 hi
  rcases kcases 200 (by decide) x with ⟨c, hc, rfl⟩ | hx
  · have key : ∀ σC2 σM2, RelB i T L G σC2 σM2 → ∃ r σC3 σM3, cTop_rule_b28 1000 (nI c) σC2 = some (r, σC3) ∧ m_rule_b21 1000 (nI c) σM2 = some (r, σM3) ∧ Rel (i + 6) σC3 σM3 := fun σC2 σM2 H2 => by
      obtain ⟨G', σC3, σM3, c3, m3, H3⟩ := rule_l (n := 1000) (i := i + 6) (c := c) (by omega) (by omega) hc 1000 0 hr G σC2 (uI σM2 0 40 ci_0) (H2.setw.mono (by omega)) rfl r2 (by omega) (by omega) (by omega)
      refine ⟨G' 0 0, σC3, σM3, c3, ?_, H3.rel⟩
      unfold m_rule_b21 m_rulesGo
      rw [show m_rulesGo_b2 1000 1000 (nI c) ci_0 (uI σM2 0 40 ci_0) = _ from m3, ob_def, bin_c0 (by decide) (by decide), sA_c0, H3.2.2.2.2.1.1.1]
    have e0 : m_isIn 1000 (nI c) ci_0 cs_200 σM = some (1, σM) := by
      rw [cs_200_n]
      exact m_isIn1 (a := 0) (b := 200) (by omega) hc (by decide)
    by_cases z : c = 0
    · subst z
      obtain ⟨r, σC3, σM3, c3, m3, H3⟩ := key σC σM H
      refine ⟨1000, 1000, r, σC3, σM3, ?_, ?_, H3⟩
      · unfold cTop_rule
        rw [if_neg (nI_pos (by omega)), cs_200_n, if_pos ((nI_leI (by omega) (by omega)).mpr (by omega)), if_pos (show nI 0 ≤ 0 from Int32.le_refl _), c3]
      · unfold m_rule
        rw [e0, ob_def, if_neg one_ne, if_pos (show nI 0 ≤ 0 from Int32.le_refl _), m3]
    · obtain ⟨σC2, σM2, c2, m2, H2, w2, -⟩ := H.keep (n := 1000) (n1 := 1000) (by omega)
      obtain ⟨r, σC3, σM3, c3, m3, H3⟩ := key σC2 σM2 H2
      refine ⟨1000, 1000, r, σC3, σM3, ?_, ?_, H3⟩
      · unfold cTop_rule
        rw [if_neg (nI_pos (by omega)), cs_200_n, if_pos ((nI_leI (by omega) (by omega)).mpr (by omega)), if_neg (show ¬ nI c ≤ 0 from nI_ge (a := 0) (by omega) (by omega)), c2, ob_def, c3]
      · unfold m_rule
        rw [e0, ob_def, if_neg one_ne, if_neg (show ¬ nI c ≤ 0 from nI_ge (a := 0) (by omega) (by omega)), m2, ob_def, m3]
  · refine ⟨1000, 1000, -1, σC, σM, ?_, ?_, hrel.mono (by omega)⟩
    · unfold cTop_rule
      rw [cs_200_n]
      rcases out_neg hx with z | ⟨z1, z2⟩
      · rw [if_pos z]; rfl
      · rw [if_neg z1, if_neg z2]; rfl
    · unfold m_rule
      rw [cs_200_n, ci0_0, m_isIn0 hx, ob_def, if_pos rfl]
      rfl
