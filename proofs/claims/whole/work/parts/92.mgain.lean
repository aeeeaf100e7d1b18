theorem gain0 : ∀ p : Fin 8, clamp ((cb_20 * 0) - nI p.val) cb_m99 cb_99 = (cb_20 * 0) - nI p.val := by decide +kernel
theorem gain1 : ∀ p : Fin 8, clamp ((cb_20 * 1) - nI p.val) cb_m99 cb_99 = (cb_20 * 1) - nI p.val := by decide +kernel
theorem m_gain67 {T : aT} {L : aL} {n m p h b : Nat} {G : aG} {y : Int32} {σ : bS} (hn : 1000 ≤ n) (hI : InvT T L) (hT : MTx T L σ) (hp : p ≤ 7) (hy : y = 0 ∨ y = 1) (hat : G 5 m = nI (tFoot T b)) (v : ∀ k, k < 4 → σ.2.1 31 k = gv T G m p h y k) : ∃ σ', m_gainOf_b67 n (nI m) (nI p) (nI (tFoot T b)) ci_4 y σ = some (sGain T L G m p h y, σ') ∧ frM sc46 sc31 σ σ' := by
  obtain ⟨σ2, s2⟩ : ∃ q, q = uA (uA (uA (uA σ 31 (nI 4) y) 31 (nI 5) (nI m)) 31 (nI 6) (nI (tFoot T b))) 31 (nI 7) (nI p) := ⟨_, rfl⟩
  have f2 : frM sc46 sc31 σ σ2 := by
    rw [s2]
    exact frMaA (frMaA (frMaA (frMaA frM.rf (Or.inl rfl)) (Or.inl rfl)) (Or.inl rfl)) (Or.inl rfl)
  have rd : ∀ k, σ2.2.1 31 k = if k = 7 then nI p else if k = 6 then nI (tFoot T b) else if k = 5 then nI m else if k = 4 then y else σ.2.1 31 k := fun k => by
    rw [s2, uA_2, uA_2, uA_2, uA_2, nI_clamp (by decide), nI_clamp (by decide), nI_clamp (by decide), nI_clamp (by decide)]
    simp
  have v2 : ∀ k, k < 8 → σ2.2.1 31 k = gv T G m p h y k := fun k hk => by
    rw [rd]
    by_cases k7 : k = 7
    · subst k7; rfl
    · by_cases k6 : k = 6
      · subst k6
        exact hat.symm
      · by_cases k5 : k = 5
        · subst k5; rfl
        · by_cases k4 : k = 4
          · subst k4; rfl
          · rw [if_neg k7, if_neg k6, if_neg k5, if_neg k4]
            exact v k (by omega)
  have e4 : sA σ2 31 (nI 4) = y := (sA_n _ _ (by decide)).trans (by rw [rd]; rfl)
  have hT2 := hT.scr f2
  have hl := hT2.2.2.2.2.2 12 (Or.inr (Or.inr (Or.inr (Or.inl rfl))))
  unfold m_gainOf_b67 m_gainOf_b105
  rw [ci_4_n, ci_5_n, cb_6_n, cb7_nI, cb12_nI, bin_nI (by decide) (by decide), bin_nI (by decide) (by decide), bin_nI (by decide) (by decide), bin_nI (by decide) (by decide), bin_nI (by decide) (by decide), ← s2, e4]
  unfold sGain
  cases hL : L 12 with
  | none =>
    rw [hL] at hl
    have hl : σ2.2.1 9 12 = -1 := hl
    rw [m_law_none (by decide) hl, ob_def, within_eq, ob_def]
    refine ⟨σ2, ?_, f2⟩
    have q : clamp ((cb_20 * y) - nI p) cb_m99 cb_99 = (cb_20 * y) - nI p := by
      rcases hy with rfl | rfl
      · exact gain0 ⟨p, by omega⟩
      · exact gain1 ⟨p, by omega⟩
    rw [q]
  | some f =>
    rw [hL] at hl
    obtain ⟨σ3, b1, b2⟩ := hl.2 n ((cb_20 * y) - nI p) σ2 hn (eqH.of rfl) (eqH.of rfl) (eqH.of rfl) (eqH.of rfl) (eqH.of rfl)
    rw [hI.2.2.2.2.2.2.2.2.2.2 12 f hL _ _ v2] at b1
    rw [b1, ob_def, within_eq, ob_def]
    exact ⟨σ3, rfl, f2.trans (b2.mono (fun a z => z) (fun a z => Or.inr z))⟩
