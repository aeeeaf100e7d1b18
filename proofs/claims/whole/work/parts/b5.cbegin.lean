/-! it begins: the class; PATHS as laid -/
theorem c_begin14 {n : Nat} (hn : 100 ≤ n) (σ : bS) : ∃ σ', cGoing_begin_14 n σ = some σ' ∧ frC (fun a => 27 ≤ a ∧ a ≤ 34) σ σ' ∧ (σ'.1 27 2 = 0 ∧ σ'.1 27 3 = 0 ∧ σ'.1 27 4 = 0 ∧ σ'.1 27 1 = σ.1 14 18) ∧ (∀ b, b < 4 → σ'.2.1 28 b = σ.2.1 17 b ∧ σ'.2.1 29 b = 0) ∧ ∀ m, m < 7 → σ'.2.1 30 m = σ.2.1 18 m ∧ σ'.2.1 31 m = -1 ∧ σ'.2.1 32 m = σ.2.1 20 m ∧ σ'.2.1 33 m = 0 ∧ σ'.2.1 34 m = 0 := by
  unfold cGoing_begin_14
  obtain ⟨q1, a1, a2, a3⟩ := f_fill_29 (n := n) (by omega) ci_0 (uC (uI (uI (uI (uI σ 27 1 (sI σ 14 18)) 27 2 ci_0) 27 3 ci_0) 27 4 ci_0) 17 28 ci_0 ci_0 ci_4)
  obtain ⟨q2, b1, b2, b3⟩ := f_fill_31 (n := n) (by omega) ci_m1 (uC q1 18 30 ci_0 ci_0 cb_7)
  obtain ⟨q3, c1, c2, c3⟩ := f_fill_33 (n := n) (by omega) ci_0 (uC q2 20 32 ci_0 ci_0 cb_7)
  obtain ⟨q4, d1, d2, d3⟩ := f_fill_34 (n := n) (by omega) ci_0 q3
  rw [if_neg (by decide), a1, ob_def, if_neg (by decide), b1, ob_def, if_neg (by decide), c1, ob_def, d1, ob_def]
  have cp4 : ∀ (τ : bS) (a0 a b i : Nat), (uC τ a0 a ci_0 ci_0 ci_4).2.1 b i = if b = a ∧ i < 4 then τ.2.1 a0 i else τ.2.1 b i := fun τ a0 a b i => by
    rw [uC_2, show ci_0.toNatClampNeg = 0 by decide, show ci_4.toNatClampNeg = 4 by decide, Nat.zero_add, Nat.sub_zero, Nat.zero_add]
    simp only [Nat.zero_le, true_and]
  have cp7 : ∀ (τ : bS) (a0 a b i : Nat), (uC τ a0 a ci_0 ci_0 cb_7).2.1 b i = if b = a ∧ i < 7 then τ.2.1 a0 i else τ.2.1 b i := fun τ a0 a b i => by
    rw [uC_2, show ci_0.toNatClampNeg = 0 by decide, show cb_7.toNatClampNeg = 7 by decide, Nat.zero_add, Nat.sub_zero, Nat.zero_add]
    simp only [Nat.zero_le, true_and]
  -- what each array holds in the end
  have k4 : ∀ b, ¬ b = 34 → q4.2.1 b = q3.2.1 b := fun b hb => (d3 b hb).2.1
  have k3 : ∀ b i, ¬ b = 33 → ¬ b = 32 → q3.2.1 b i = q2.2.1 b i := fun b i h1 h2 => by rw [(c3 b h1).2.1, cp7, if_neg (fun u => h2 u.1)]
  have k2 : ∀ b i, ¬ b = 31 → ¬ b = 30 → q2.2.1 b i = q1.2.1 b i := fun b i h1 h2 => by rw [(b3 b h1).2.1, cp7, if_neg (fun u => h2 u.1)]
  have k1 : ∀ b i, ¬ b = 29 → ¬ b = 28 → q1.2.1 b i = σ.2.1 b i := fun b i h1 h2 => by rw [(a3 b h1).2.1, cp4, if_neg (fun u => h2 u.1)]; rfl
  have f27 : q4.1 27 = (uI (uI (uI (uI σ 27 1 (sI σ 14 18)) 27 2 ci_0) 27 3 ci_0) 27 4 ci_0).1 27 := by
    rw [(d3 27 (by decide)).1, (c3 27 (by decide)).1, uC_1, (b3 27 (by decide)).1, uC_1, (a3 27 (by decide)).1, uC_1]
  refine ⟨q4, rfl, ?_, ⟨by rw [f27]; rfl, by rw [f27]; rfl, by rw [f27]; rfl, by rw [f27]; rfl⟩, fun b hb => ⟨?_, ?_⟩, fun m hm => ⟨?_, ?_, ?_, ?_, ?_⟩⟩
  · have u : ∀ (τ : bS) (k : Nat) (v : Int32), frC (fun a => 27 ≤ a ∧ a ≤ 34) τ (uI τ 27 k v) := fun τ k v => frC.uI ⟨by omega, by omega⟩
    have f1 := (((u σ 1 (sI σ 14 18)).trans (u _ 2 ci_0)).trans (u _ 3 ci_0)).trans (u _ 4 ci_0)
    have f2 := (f1.trans (frC.uC (o := 28) (o0 := 17) (sp := ci_0) (dp := ci_0) (n := ci_4) ⟨by omega, by omega⟩)).trans (a3.mono (fun a ha => by omega))
    have f3 := (f2.trans (frC.uC (o := 30) (o0 := 18) (sp := ci_0) (dp := ci_0) (n := cb_7) ⟨by omega, by omega⟩)).trans (b3.mono (fun a ha => by omega))
    have f4 := (f3.trans (frC.uC (o := 32) (o0 := 20) (sp := ci_0) (dp := ci_0) (n := cb_7) ⟨by omega, by omega⟩)).trans (c3.mono (fun a ha => by omega))
    exact f4.trans (d3.mono (fun a ha => by omega))
  · rw [k4 28 (by decide), k3 28 b (by decide) (by decide), k2 28 b (by decide) (by decide), (a3 28 (by decide)).2.1, cp4, if_pos ⟨rfl, hb⟩]
    rfl
  · rw [k4 29 (by decide), k3 29 b (by decide) (by decide), k2 29 b (by decide) (by decide)]
    exact a2 b hb
  · rw [k4 30 (by decide), k3 30 m (by decide) (by decide), (b3 30 (by decide)).2.1, cp7, if_pos ⟨rfl, hm⟩, k1 18 m (by decide) (by decide)]
  · rw [k4 31 (by decide), k3 31 m (by decide) (by decide)]
    exact b2 m hm
  · rw [k4 32 (by decide), (c3 32 (by decide)).2.1, cp7, if_pos ⟨rfl, hm⟩, k2 20 m (by decide) (by decide), k1 20 m (by decide) (by decide)]
  · rw [k4 33 (by decide)]
    exact c2 m hm
  · exact d2 m hm
theorem c_sclear {n : Nat} (hn : 100 ≤ n) (σ : bS) : ∃ σ', cSeen_clear n σ = some σ' ∧ frC (fun a => a = 77 ∨ a = 81) σ σ' ∧ σ'.1 77 4 = 0 ∧ ∀ m, m < 7 → σ'.2.1 81 m = -1 := by
  unfold cSeen_clear
  obtain ⟨q1, a1, a2, a3⟩ := f_fill_81 (n := n) (by omega) ci_m1 (uI σ 77 4 ci_0)
  rw [a1, ob_def]
  refine ⟨q1, rfl, (frC.uI (P := fun a => a = 77 ∨ a = 81) (Or.inl rfl)).trans (a3.mono (fun a ha => Or.inr ha)), ?_, a2⟩
  rw [(a3 77 (by decide)).1, uI_1, if_pos ⟨rfl, rfl⟩]
  rfl
theorem drop_p0 {Q : List (Nat × Nat × Nat)} {i : Nat} (h : i < Q.length) : Q.drop i = Q.getD i p0 :: Q.drop (i + 1) := by
  rw [List.drop_eq_getElem_cons h, List.getD_eq_getElem?_getD, List.getElem?_eq_getElem h]
  rfl
theorem m_path_l {n P a b : Nat} {Q : List (Nat × Nat × Nat)} {σ : bS} (hP : Q.length = P) (hP10 : P ≤ 10) (ha : a < 6) (hb : b < 6) (hq : ∀ q, q ∈ Q → q.1 < 6 ∧ q.2.1 < 6 ∧ 1 ≤ q.2.2 ∧ q.2.2 ≤ 9) (h13 : σ.2.1 13 0 = nI P) (hA : ∀ j, j < P → σ.2.1 14 j = nI (Q.getD j p0).1 ∧ σ.2.1 15 j = nI (Q.getD j p0).2.1 ∧ σ.2.1 16 j = nI (Q.getD j p0).2.2) : ∀ (k p w : Nat), p ≤ P → P < p + k → w ≤ 9 → m_pathOf_b5 n k (nI a) (nI b) (nI w) (nI p) σ = some (nI ((Q.drop p).foldl (wlF a b) w), σ)
  | 0, p, w, h1, h2, h3 => by omega
  | k + 1, p, w, h1, h2, h3 => by
    rw [m_pathOf_b5, bin_c0 (by omega) (by decide), sA_c0, h13]
    by_cases z : p = P
    · rw [if_pos ((nI_leI (by omega) (by omega)).mpr (by omega)), List.drop_eq_nil_of_le (by omega)]
      rfl
    · obtain ⟨e14, e15, e16⟩ := hA p (by omega)
      have hm : Q.getD p p0 ∈ Q := by
        rw [List.getD_eq_getElem?_getD, List.getElem?_eq_getElem (show p < Q.length by omega)]
        exact List.getElem_mem _
      obtain ⟨x6, y6, v1, v9⟩ := hq _ hm
      rw [drop_p0 (show p < Q.length by omega), List.foldl_cons]
      generalize Q.getD p p0 = g at e14 e15 e16 x6 y6 v1 v9 ⊢
      obtain ⟨x, y, h⟩ := g
      have e14 : sA σ 14 (nI p) = nI x := by rw [sA_n _ _ (by omega)]; exact e14
      have e15 : sA σ 15 (nI p) = nI y := by rw [sA_n _ _ (by omega)]; exact e15
      have e16 : sA σ 16 (nI p) = nI h := by rw [sA_n _ _ (by omega)]; exact e16
      have x6 : x < 6 := x6
      have y6 : y < 6 := y6
      have v1 : 1 ≤ h := v1
      have v9 : h ≤ 9 := v9
      have nx : ∀ w', w' ≤ 9 → m_pathOf_b95 n (m_pathOf_b5 n k) (nI a) (nI b) (nI w') (nI p) σ = some (nI ((Q.drop (p + 1)).foldl (wlF a b) w'), σ) := fun w' hw' => by
        rw [m_pathOf_b95, nI_s]
        exact m_path_l hP hP10 ha hb hq h13 hA k (p + 1) w' (by omega) (by omega) hw'
      have no : ¬ ((x = a ∧ y = b) ∨ (x = b ∧ y = a)) → m_pathOf_b64 n (m_pathOf_b5 n k) (nI a) (nI b) (nI w) (nI p) σ = some (nI ((Q.drop (p + 1)).foldl (wlF a b) (wlF a b w (x, y, h))), σ) := fun u => by
        have ew : wlF a b w (x, y, h) = w := by
          unfold wlF
          rw [if_neg (fun q => u q.1)]
        rw [m_pathOf_b64, m_pathOf_b65, if_pos (show ci_0 = 0 from rfl), ew]
        exact nx w h3
      have yes : ((x = a ∧ y = b) ∨ (x = b ∧ y = a)) → m_pathOf_b60 n (m_pathOf_b5 n k) (nI a) (nI b) (nI w) (nI p) σ = some (nI ((Q.drop (p + 1)).foldl (wlF a b) (wlF a b w (x, y, h))), σ) := fun u => by
        rw [m_pathOf_b60, m_pathOf_b65, if_neg (show ¬ ci_1 = 0 from one_ne)]
        by_cases w0 : w = 0
        · have ew : wlF a b w (x, y, h) = h := by
            unfold wlF
            rw [if_pos ⟨u, Or.inl w0⟩]
          rw [if_pos (show nI w = 0 by rw [w0]; rfl), m_pathOf_b87, bin_nI (by omega) (by decide), e16, ew]
          exact nx h v9
        · rw [if_neg (show ¬ nI w = 0 from fun q => w0 (nI_inj (by omega) (by decide) (q.trans (show (0 : Int32) = nI 0 from rfl)))), bin_nI (by omega) (by decide), e16]
          by_cases wh : h < w
          · have ew : wlF a b w (x, y, h) = h := by
              unfold wlF
              rw [if_pos ⟨u, Or.inr wh⟩]
            rw [if_neg (nI_ge wh (by omega)), m_pathOf_b87, bin_nI (by omega) (by decide), e16, ew]
            exact nx h v9
          · have ew : wlF a b w (x, y, h) = w := by
              unfold wlF
              rw [if_neg]
              rintro ⟨-, q⟩
              rcases q with q | q
              · exact w0 q
              · exact wh q
            rw [if_pos ((nI_leI (by omega) (by omega)).mpr (by omega)), ew]
            exact nx w h3
      have back : ¬ (x = a ∧ y = b) → m_pathOf_b38 n (m_pathOf_b5 n k) (nI a) (nI b) (nI w) (nI p) σ = some (nI ((Q.drop (p + 1)).foldl (wlF a b) (wlF a b w (x, y, h))), σ) := fun u => by
        rw [m_pathOf_b38, bin_nI (by omega) (by decide), e14]
        by_cases q1 : x = b
        · rw [if_pos (show nI x = nI b by rw [q1]), bin_nI (by omega) (by decide), e15]
          by_cases q2 : y = a
          · rw [if_pos (show nI y = nI a by rw [q2])]
            exact yes (Or.inr ⟨q1, q2⟩)
          · rw [if_neg (show ¬ nI y = nI a from fun q => q2 (nI_inj (by omega) (by omega) q))]
            exact no (by omega)
        · rw [if_neg (show ¬ nI x = nI b from fun q => q1 (nI_inj (by omega) (by omega) q))]
          exact no (by omega)
      rw [if_neg (nI_ge (by omega) (by omega)), bin_nI (by omega) (by decide), e14]
      by_cases q1 : x = a
      · rw [if_pos (show nI x = nI a by rw [q1]), bin_nI (by omega) (by decide), e15]
        by_cases q2 : y = b
        · rw [if_pos (show nI y = nI b by rw [q2])]
          exact yes (Or.inl ⟨q1, q2⟩)
        · rw [if_neg (show ¬ nI y = nI b from fun q => q2 (nI_inj (by omega) (by omega) q))]
          exact back (by omega)
      · rw [if_neg (show ¬ nI x = nI a from fun q => q1 (nI_inj (by omega) (by omega) q))]
        exact back (by omega)
