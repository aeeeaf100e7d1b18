/-! it begins -/
theorem bg_7 {n : Nat} : ∀ (k j : Nat) (σ : bS), j ≤ 48 → 48 < j + k → ∃ σ', m_begins_b7 n k (nI j) σ = m_begins_b28 n n ci_0 σ' ∧ σ'.1 = σ.1 ∧ (∀ i, j ≤ i → i < 48 → σ'.2.1 29 i = 0) ∧ ∀ b i, ¬ (b = 29 ∧ j ≤ i ∧ i < 48) → σ'.2.1 b i = σ.2.1 b i
  | 0, j, σ, h1, h2 => by omega
  | k + 1, j, σ, h1, h2 => by
    rw [m_begins_b7, cb_48_n]
    by_cases z : j = 48
    · rw [if_pos ((nI_leI (by omega) (by omega)).mpr (by omega))]
      exact ⟨σ, rfl, rfl, fun i _ _ => by omega, fun _ _ _ => rfl⟩
    · rw [if_neg (nI_ge (by omega) (by omega)), bin_nI (by omega) (by decide), nI_s]
      obtain ⟨σ', a1, a2, a3, a4⟩ := bg_7 (n := n) k (j + 1) (uA σ 29 (nI j) ci_0) (by omega) (by omega)
      refine ⟨σ', a1, a2, fun i h3 h4 => ?_, fun b i hb => ?_⟩
      · by_cases w : i = j
        · subst w
          rw [a4 29 i (by omega), uA_2, nI_clamp (by omega), if_pos ⟨rfl, rfl⟩]
          rfl
        · exact a3 i (by omega) h4
      · rw [a4 b i (by omega), uA_2, nI_clamp (by omega), if_neg (by omega)]
theorem bg_28 {n G : Nat} (hG : G ≤ 4) : ∀ (k j : Nat) (σ : bS), j ≤ G → G < j + k → σ.2.1 17 0 = nI G → ∃ σ', m_begins_b28 n k (nI j) σ = m_begins_b60 n n ci_0 σ' ∧ σ'.1 = σ.1 ∧ (∀ b, j ≤ b → b < G → σ'.2.1 29 (1 + b) = σ.2.1 19 b) ∧ ∀ b i, ¬ (b = 29 ∧ 1 + j ≤ i ∧ i < 1 + G) → σ'.2.1 b i = σ.2.1 b i
  | 0, j, σ, h1, h2, h3 => by omega
  | k + 1, j, σ, h1, h2, h3 => by
    rw [m_begins_b28, bin_c0 (by omega) (by decide), sA_c0, h3]
    by_cases z : j = G
    · rw [if_pos ((nI_leI (by omega) (by omega)).mpr (by omega))]
      exact ⟨σ, rfl, rfl, fun i _ _ => by omega, fun _ _ _ => rfl⟩
    · rw [if_neg (nI_ge (by omega) (by omega)), bin_nI (by omega) (by decide), show ci_1 + nI j = nI (1 + j) by rw [ci1_nI, nI_add], bin_nI (by omega) (by decide), nI_s, sA_n _ _ (by omega)]
      obtain ⟨σ', a1, a2, a3, a4⟩ := bg_28 (n := n) hG k (j + 1) (uA σ 29 (nI (1 + j)) (σ.2.1 19 j)) (by omega) (by omega) (by rw [uA_o _ _ _ _ (by decide)]; exact h3)
      refine ⟨σ', a1, a2, fun i h3 h4 => ?_, fun b i hb => ?_⟩
      · by_cases w : i = j
        · subst w
          rw [a4 29 _ (by omega), uA_2, nI_clamp (by omega), if_pos ⟨rfl, rfl⟩]
        · rw [a3 i (by omega) h4, uA_o _ _ _ _ (by decide)]
      · rw [a4 b i (by omega), uA_2, nI_clamp (by omega), if_neg (by omega)]
def bgE (n : Nat) (σ : bS) : Option bS := bin_ ci_3 8 (bin_ cb_46 2208 (m_begins_b166 n n ci_0 (uI (uI (uA σ 29 cb_46 (sA σ 24 ci_3)) 0 41 ci_0) 0 62 ci_0)))
theorem bg_60 {n M : Nat} (hM : M ≤ 7) : ∀ (k j : Nat) (σ : bS), j ≤ 7 → 7 < j + k → σ.2.1 20 0 = nI M → ∃ σ', m_begins_b60 n k (nI j) σ = bgE n σ' ∧ σ'.1 = σ.1 ∧ (∀ m, j ≤ m → m < 7 → σ'.2.1 29 (5 + m) = (if m < M then σ.2.1 21 m else -2) ∧ σ'.2.1 29 (12 + m) = -2 ∧ σ'.2.1 29 (19 + m) = (if m < M then σ.2.1 23 m else 0)) ∧ ∀ b i, ¬ (b = 29 ∧ ((5 + j ≤ i ∧ i < 12) ∨ (12 + j ≤ i ∧ i < 19) ∨ (19 + j ≤ i ∧ i < 26))) → σ'.2.1 b i = σ.2.1 b i
  | 0, j, σ, h1, h2, h3 => by omega
  | k + 1, j, σ, h1, h2, h3 => by
    by_cases z : j = 7
    · rw [m_begins_b60, show cb_7 = nI 7 by decide, if_pos ((nI_leI (by omega) (by omega)).mpr (by omega))]
      exact ⟨σ, rfl, rfl, fun i _ _ => by omega, fun _ _ _ => rfl⟩
    · have st : m_begins_b60 n (k + 1) (nI j) σ = m_begins_b60 n k (nI (j + 1)) (uA (uA (uA σ 29 (nI (5 + j)) (if j < M then σ.2.1 21 j else -2)) 29 (nI (12 + j)) (-2)) 29 (nI (19 + j)) (if j < M then σ.2.1 23 j else 0)) := by
        have e20 : ∀ i v i2 v2, sA (uA (uA σ 29 i v) 29 i2 v2) 20 ci_0 = nI M := fun i v i2 v2 => by rw [sA_c0, uA_o _ _ _ _ (by decide), uA_o _ _ _ _ (by decide)]; exact h3
        have e23 : ∀ i v i2 v2, sA (uA (uA σ 29 i v) 29 i2 v2) 23 (nI j) = σ.2.1 23 j := fun i v i2 v2 => by rw [sA_n _ _ (by omega), uA_o _ _ _ _ (by decide), uA_o _ _ _ _ (by decide)]
        have i5 : ci_5 + nI j = nI (5 + j) := by rw [ci_5_n, nI_add]
        have i12 : cb_12 + nI j = nI (12 + j) := by rw [show cb_12 = nI 12 by decide, nI_add]
        have i19 : cb_19 + nI j = nI (19 + j) := by rw [cb_19_n, nI_add]
        rw [m_begins_b60, show cb_7 = nI 7 by decide, if_neg (nI_ge (by omega) (by omega)), bin_c0 (by omega) (by decide), sA_c0, h3]
        by_cases w : j < M
        · rw [if_neg (nI_ge w (by omega)), bin_nI (by omega) (by decide), m_begins_b94, i5, i12, i19, e20, e23, bin_nI (by omega) (by decide), bin_nI (by omega) (by decide), bin_c0 (by omega) (by decide), if_neg (nI_ge w (by omega)), bin_nI (by omega) (by decide), m_begins_b134, bin_nI (by omega) (by decide), nI_s, sA_n _ _ (by omega), if_pos w, if_pos w]
          rfl
        · have le : nI M ≤ nI j := (nI_leI (by omega) (by omega)).mpr (by omega)
          rw [if_pos le, m_begins_b94, i5, i12, i19, e20, bin_nI (by omega) (by decide), bin_nI (by omega) (by decide), bin_c0 (by omega) (by decide), if_pos le, m_begins_b134, bin_nI (by omega) (by decide), nI_s, if_neg w, if_neg w]
          rfl
      rw [st]
      obtain ⟨σ', a1, a2, a3, a4⟩ := bg_60 (n := n) hM k (j + 1) (uA (uA (uA σ 29 (nI (5 + j)) (if j < M then σ.2.1 21 j else -2)) 29 (nI (12 + j)) (-2)) 29 (nI (19 + j)) (if j < M then σ.2.1 23 j else 0)) (by omega) (by omega) (by rw [uA_o _ _ _ _ (by decide), uA_o _ _ _ _ (by decide), uA_o _ _ _ _ (by decide)]; exact h3)
      refine ⟨σ', a1, a2, fun m h4 h5 => ?_, fun b i hb => ?_⟩
      · by_cases w : m = j
        · subst w
          refine ⟨?_, ?_, ?_⟩
          · rw [a4 29 _ (by omega), uA_2, nI_clamp (by omega), if_neg (by omega), uA_2, nI_clamp (by omega), if_neg (by omega), uA_2, nI_clamp (by omega), if_pos ⟨rfl, rfl⟩]
          · rw [a4 29 _ (by omega), uA_2, nI_clamp (by omega), if_neg (by omega), uA_2, nI_clamp (by omega), if_pos ⟨rfl, rfl⟩]
          · rw [a4 29 _ (by omega), uA_2, nI_clamp (by omega), if_pos ⟨rfl, rfl⟩]
        · have := a3 m (by omega) h5
          rw [uA_o _ _ _ _ (by decide), uA_o _ _ _ _ (by decide), uA_o _ _ _ _ (by decide), uA_o _ _ _ _ (by decide), uA_o _ _ _ _ (by decide), uA_o _ _ _ _ (by decide)] at this
          exact this
      · rw [a4 b i (by omega), uA_2, nI_clamp (by omega), if_neg (by omega), uA_2, nI_clamp (by omega), if_neg (by omega), uA_2, nI_clamp (by omega), if_neg (by omega)]
theorem bg_187 {n : Nat} : ∀ (k j : Nat) (σ : bS), j ≤ 3 → 3 < j + k → (∀ i, i < j → σ.2.1 30 i = 0) → ∃ σ', m_begins_b187 n k (nI j) σ = some σ' ∧ σ'.1 = σ.1 ∧ (∀ i, i < 3 → σ'.2.1 30 i = 0) ∧ ∀ b, ¬ b = 30 → σ'.2.1 b = σ.2.1 b
  | 0, j, σ, h1, h2, h3 => by omega
  | k + 1, j, σ, h1, h2, h3 => by
    rw [m_begins_b187, ci_3_n]
    by_cases z : j = 3
    · rw [if_pos ((nI_leI (by omega) (by omega)).mpr (by omega))]
      exact ⟨σ, rfl, rfl, fun i hi => h3 i (by omega), fun _ _ => rfl⟩
    · rw [if_neg (nI_ge (by omega) (by omega)), bin_nI (by omega) (by decide), nI_s]
      obtain ⟨σ', a1, a2, a3, a4⟩ := bg_187 (n := n) k (j + 1) (uA σ 30 (nI j) (vp_nar .boolean ci_0)) (by omega) (by omega) (fun i hi => by
        rw [uA_2, nI_clamp (by omega)]
        by_cases w : i = j
        · rw [if_pos ⟨rfl, w⟩]
          decide
        · rw [if_neg (by omega)]
          exact h3 i (by omega))
      exact ⟨σ', a1, a2, a3, fun b hb => by rw [a4 b hb, uA_o _ _ _ _ hb]⟩
theorem bg_166 {n : Nat} : ∀ (k j : Nat) (σ : bS), j ≤ 7 → 7 < j + k → (∀ i, i < j → σ.2.1 46 i = -1) → ∃ σ', m_begins_b166 n k (nI j) σ = m_begins_b187 n n ci_0 σ' ∧ σ'.1 = σ.1 ∧ (∀ i, i < 7 → σ'.2.1 46 i = -1) ∧ ∀ b, ¬ b = 46 → σ'.2.1 b = σ.2.1 b
  | 0, j, σ, h1, h2, h3 => by omega
  | k + 1, j, σ, h1, h2, h3 => by
    rw [m_begins_b166, show cb_7 = nI 7 by decide]
    by_cases z : j = 7
    · rw [if_pos ((nI_leI (by omega) (by omega)).mpr (by omega))]
      exact ⟨σ, rfl, rfl, fun i hi => h3 i (by omega), fun _ _ => rfl⟩
    · rw [if_neg (nI_ge (by omega) (by omega)), bin_nI (by omega) (by decide), nI_s]
      obtain ⟨σ', a1, a2, a3, a4⟩ := bg_166 (n := n) k (j + 1) (uA σ 46 (nI j) ci_m1) (by omega) (by omega) (fun i hi => by
        rw [uA_2, nI_clamp (by omega)]
        by_cases w : i = j
        · rw [if_pos ⟨rfl, w⟩, cim1]
        · rw [if_neg (by omega)]
          exact h3 i (by omega))
      exact ⟨σ', a1, a2, a3, fun b hb => by rw [a4 b hb, uA_o _ _ _ _ hb]⟩
theorem m_begins_eq {n G M : Nat} {σ : bS} (hn : 100 ≤ n) (hG : G ≤ 4) (hM : M ≤ 7) (h17 : σ.2.1 17 0 = nI G) (h20 : σ.2.1 20 0 = nI M) : ∃ σ', m_begins n σ = some σ' ∧ (∀ k, σ'.1 0 k = if k = 40 ∨ k = 41 ∨ k = 62 then 0 else σ.1 0 k) ∧ (∀ b, ¬ (b = 29 ∨ b = 30 ∨ b = 46) → σ'.2.1 b = σ.2.1 b) ∧ (σ'.2.1 29 0 = 0 ∧ σ'.2.1 29 40 = 0 ∧ σ'.2.1 29 41 = 0 ∧ σ'.2.1 29 46 = σ.2.1 24 3) ∧ (∀ b, b < G → σ'.2.1 29 (1 + b) = σ.2.1 19 b ∧ σ'.2.1 29 (42 + b) = 0) ∧ (∀ m, m < M → σ'.2.1 29 (5 + m) = σ.2.1 21 m ∧ σ'.2.1 29 (12 + m) = -2 ∧ σ'.2.1 29 (19 + m) = σ.2.1 23 m ∧ σ'.2.1 29 (26 + m) = 0 ∧ σ'.2.1 29 (33 + m) = 0) ∧ (∀ i, i < 7 → σ'.2.1 46 i = -1) ∧ ∀ i, i < 3 → σ'.2.1 30 i = 0 := by
  obtain ⟨σ1, a1, a2, a3, a4⟩ := bg_7 (n := n) n 0 (uI σ 0 40 ci_0) (by omega) (by omega)
  obtain ⟨σ2, b1, b2, b3, b4⟩ := bg_28 (n := n) hG n 0 σ1 (by omega) (by omega) (by rw [a4 17 0 (by omega)]; exact h17)
  obtain ⟨σ3, c1, c2, c3, c4⟩ := bg_60 (n := n) hM n 0 σ2 (by omega) (by omega) (by rw [b4 20 0 (by omega), a4 20 0 (by omega)]; exact h20)
  have x24 : sA σ3 24 ci_3 = σ.2.1 24 3 := by
    rw [ci_3_n, sA_n _ _ (by omega), c4 24 3 (by omega), b4 24 3 (by omega), a4 24 3 (by omega)]
    rfl
  obtain ⟨σ4, d1, d2, d3, d4⟩ := bg_166 (n := n) n 0 (uI (uI (uA σ3 29 cb_46 (sA σ3 24 ci_3)) 0 41 ci_0) 0 62 ci_0) (by omega) (by omega) (fun i hi => by omega)
  obtain ⟨σ5, e1, e2, e3, e4⟩ := bg_187 (n := n) n 0 σ4 (by omega) (by omega) (fun i hi => by omega)
  have r29 : ∀ i, σ5.2.1 29 i = if i = 46 then σ.2.1 24 3 else σ3.2.1 29 i := fun i => by
    rw [e4 29 (by decide), d4 29 (by decide)]
    show (uA σ3 29 cb_46 (sA σ3 24 ci_3)).2.1 29 i = _
    rw [cb_46_n, x24, uA_2, nI_clamp (by omega)]
    simp only [true_and]
  have r3 : ∀ i, i < 48 → ¬ (1 ≤ i ∧ i < 26) → σ3.2.1 29 i = 0 := fun i h1 h2 => by
    rw [c4 29 i (by omega), b4 29 i (by omega)]
    exact a3 i (by omega) h1
  refine ⟨σ5, ?_, fun k => ?_, fun b hb => funext (fun i => ?_), ⟨?_, ?_, ?_, ?_⟩, fun b hb => ⟨?_, ?_⟩, fun m hm => ⟨?_, ?_, ?_, ?_, ?_⟩, fun i hi => ?_, e3⟩
  · unfold m_begins
    refine a1.trans (b1.trans (c1.trans ?_))
    unfold bgE
    rw [ci_3_n, bin_nI (by omega) (by decide), cb_46_n, bin_nI (by omega) (by decide)]
    rw [ci_3_n, cb_46_n] at d1
    exact d1.trans e1
  · rw [e2, d2]
    show (uI (uI (uA σ3 29 cb_46 (sA σ3 24 ci_3)) 0 41 ci_0) 0 62 ci_0).1 0 k = _
    rw [uI_1, uI_1, uA_1, c2, b2, a2, uI_1]
    by_cases z62 : k = 62
    · rw [if_pos ⟨rfl, z62⟩, if_pos (by omega)]; rfl
    · rw [if_neg (fun u => z62 u.2)]
      by_cases z41 : k = 41
      · rw [if_pos ⟨rfl, z41⟩, if_pos (by omega)]; rfl
      · rw [if_neg (fun u => z41 u.2)]
        by_cases z40 : k = 40
        · rw [if_pos ⟨rfl, z40⟩, if_pos (by omega)]; rfl
        · rw [if_neg (fun u => z40 u.2), if_neg (by omega)]
  · rw [e4 b (by omega), d4 b (by omega)]
    show (uA σ3 29 cb_46 (sA σ3 24 ci_3)).2.1 b i = _
    rw [uA_o _ _ _ _ (by omega), c4 b i (by omega), b4 b i (by omega), a4 b i (by omega)]
    rfl
  · rw [r29, if_neg (by omega)]; exact r3 0 (by omega) (by omega)
  · rw [r29, if_neg (by omega)]; exact r3 40 (by omega) (by omega)
  · rw [r29, if_neg (by omega)]; exact r3 41 (by omega) (by omega)
  · rw [r29, if_pos rfl]
  · rw [r29, if_neg (by omega), c4 29 _ (by omega), b3 b (by omega) hb, a4 19 b (by omega)]
    rfl
  · rw [r29, if_neg (by omega)]; exact r3 _ (by omega) (by omega)
  · rw [r29, if_neg (by omega), (c3 m (by omega) (by omega)).1, if_pos hm, b4 21 m (by omega), a4 21 m (by omega)]
    rfl
  · rw [r29, if_neg (by omega), (c3 m (by omega) (by omega)).2.1]
  · rw [r29, if_neg (by omega), (c3 m (by omega) (by omega)).2.2, if_pos hm, b4 23 m (by omega), a4 23 m (by omega)]
    rfl
  · rw [r29, if_neg (by omega)]; exact r3 _ (by omega) (by omega)
  · rw [r29, if_neg (by omega)]; exact r3 _ (by omega) (by omega)
  · rw [e4 46 (by decide)]; exact d3 i hi
