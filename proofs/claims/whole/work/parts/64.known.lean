theorem f_fill_15_l {n : Nat} {v : Int32} {σ0 : bS} : ∀ (k j : Nat) (σ : bS), j ≤ 36 → 36 < j + k → (∀ i, i < j → σ.2.1 15 i = v) → frC (fun z => z = 15) σ0 σ → ∃ σ', cj_fill_15_b5 n k v (nI j) cn_36 σ = some σ' ∧ (∀ i, i < 36 → σ'.2.1 15 i = v) ∧ frC (fun z => z = 15) σ0 σ'
  | 0, j, σ, h1, h2, h3, h4 => by omega
  | k + 1, j, σ, h1, h2, h3, h4 => by
    rw [cj_fill_15_b5, show cn_36 = nI 36 from rfl]
    by_cases hj : j < 36
    · rw [if_neg (nI_ge hj (by decide)), bin_nI hj (by decide), ci1_nI, nI_add]
      refine f_fill_15_l k (j + 1) _ hj (by omega) (fun i hi => ?_) (h4.trans (frC.uA rfl))
      rw [uA_2, nI_clamp (by omega)]
      by_cases e : i = j
      · simp [e]
      · rw [if_neg (fun z => e z.2)]
        exact h3 i (by omega)
    · have e : j = 36 := by omega
      subst e
      rw [if_pos (Int32.le_refl _)]
      exact ⟨σ, rfl, h3, h4⟩
theorem f_fill_15 {n : Nat} (hn : 36 < n) (v : Int32) (σ : bS) : ∃ σ', cj_fill_15 n v σ = some σ' ∧ (∀ i, i < 36 → σ'.2.1 15 i = v) ∧ frC (fun z => z = 15) σ σ' := f_fill_15_l n 0 σ (by omega) (by omega) (fun i hi => by omega) frC.rf
theorem f_fill_21_l {n : Nat} {v : Int32} {σ0 : bS} : ∀ (k j : Nat) (σ : bS), j ≤ 7 → 7 < j + k → (∀ i, i < j → σ.2.1 21 i = v) → frC (fun z => z = 21) σ0 σ → ∃ σ', cj_fill_21_b5 n k v (nI j) cn_7 σ = some σ' ∧ (∀ i, i < 7 → σ'.2.1 21 i = v) ∧ frC (fun z => z = 21) σ0 σ'
  | 0, j, σ, h1, h2, h3, h4 => by omega
  | k + 1, j, σ, h1, h2, h3, h4 => by
    rw [cj_fill_21_b5, show cn_7 = nI 7 from rfl]
    by_cases hj : j < 7
    · rw [if_neg (nI_ge hj (by decide)), bin_nI hj (by decide), ci1_nI, nI_add]
      refine f_fill_21_l k (j + 1) _ hj (by omega) (fun i hi => ?_) (h4.trans (frC.uA rfl))
      rw [uA_2, nI_clamp (by omega)]
      by_cases e : i = j
      · simp [e]
      · rw [if_neg (fun z => e z.2)]
        exact h3 i (by omega)
    · have e : j = 7 := by omega
      subst e
      rw [if_pos (Int32.le_refl _)]
      exact ⟨σ, rfl, h3, h4⟩
theorem f_fill_21 {n : Nat} (hn : 7 < n) (v : Int32) (σ : bS) : ∃ σ', cj_fill_21 n v σ = some σ' ∧ (∀ i, i < 7 → σ'.2.1 21 i = v) ∧ frC (fun z => z = 21) σ σ' := f_fill_21_l n 0 σ (by omega) (by omega) (fun i hi => by omega) frC.rf
theorem f_fill_22_l {n : Nat} {v : Int32} {σ0 : bS} : ∀ (k j : Nat) (σ : bS), j ≤ 4 → 4 < j + k → (∀ i, i < j → σ.2.1 22 i = v) → frC (fun z => z = 22) σ0 σ → ∃ σ', cj_fill_22_b5 n k v (nI j) cn_4 σ = some σ' ∧ (∀ i, i < 4 → σ'.2.1 22 i = v) ∧ frC (fun z => z = 22) σ0 σ'
  | 0, j, σ, h1, h2, h3, h4 => by omega
  | k + 1, j, σ, h1, h2, h3, h4 => by
    rw [cj_fill_22_b5, show cn_4 = nI 4 from rfl]
    by_cases hj : j < 4
    · rw [if_neg (nI_ge hj (by decide)), bin_nI hj (by decide), ci1_nI, nI_add]
      refine f_fill_22_l k (j + 1) _ hj (by omega) (fun i hi => ?_) (h4.trans (frC.uA rfl))
      rw [uA_2, nI_clamp (by omega)]
      by_cases e : i = j
      · simp [e]
      · rw [if_neg (fun z => e z.2)]
        exact h3 i (by omega)
    · have e : j = 4 := by omega
      subst e
      rw [if_pos (Int32.le_refl _)]
      exact ⟨σ, rfl, h3, h4⟩
theorem f_fill_22 {n : Nat} (hn : 4 < n) (v : Int32) (σ : bS) : ∃ σ', cj_fill_22 n v σ = some σ' ∧ (∀ i, i < 4 → σ'.2.1 22 i = v) ∧ frC (fun z => z = 22) σ σ' := f_fill_22_l n 0 σ (by omega) (by omega) (fun i hi => by omega) frC.rf
theorem f_fill_29_l {n : Nat} {v : Int32} {σ0 : bS} : ∀ (k j : Nat) (σ : bS), j ≤ 4 → 4 < j + k → (∀ i, i < j → σ.2.1 29 i = v) → frC (fun z => z = 29) σ0 σ → ∃ σ', cj_fill_29_b5 n k v (nI j) cn_4 σ = some σ' ∧ (∀ i, i < 4 → σ'.2.1 29 i = v) ∧ frC (fun z => z = 29) σ0 σ'
  | 0, j, σ, h1, h2, h3, h4 => by omega
  | k + 1, j, σ, h1, h2, h3, h4 => by
    rw [cj_fill_29_b5, show cn_4 = nI 4 from rfl]
    by_cases hj : j < 4
    · rw [if_neg (nI_ge hj (by decide)), bin_nI hj (by decide), ci1_nI, nI_add]
      refine f_fill_29_l k (j + 1) _ hj (by omega) (fun i hi => ?_) (h4.trans (frC.uA rfl))
      rw [uA_2, nI_clamp (by omega)]
      by_cases e : i = j
      · simp [e]
      · rw [if_neg (fun z => e z.2)]
        exact h3 i (by omega)
    · have e : j = 4 := by omega
      subst e
      rw [if_pos (Int32.le_refl _)]
      exact ⟨σ, rfl, h3, h4⟩
theorem f_fill_29 {n : Nat} (hn : 4 < n) (v : Int32) (σ : bS) : ∃ σ', cj_fill_29 n v σ = some σ' ∧ (∀ i, i < 4 → σ'.2.1 29 i = v) ∧ frC (fun z => z = 29) σ σ' := f_fill_29_l n 0 σ (by omega) (by omega) (fun i hi => by omega) frC.rf
theorem f_fill_31_l {n : Nat} {v : Int32} {σ0 : bS} : ∀ (k j : Nat) (σ : bS), j ≤ 7 → 7 < j + k → (∀ i, i < j → σ.2.1 31 i = v) → frC (fun z => z = 31) σ0 σ → ∃ σ', cj_fill_31_b5 n k v (nI j) cn_7 σ = some σ' ∧ (∀ i, i < 7 → σ'.2.1 31 i = v) ∧ frC (fun z => z = 31) σ0 σ'
  | 0, j, σ, h1, h2, h3, h4 => by omega
  | k + 1, j, σ, h1, h2, h3, h4 => by
    rw [cj_fill_31_b5, show cn_7 = nI 7 from rfl]
    by_cases hj : j < 7
    · rw [if_neg (nI_ge hj (by decide)), bin_nI hj (by decide), ci1_nI, nI_add]
      refine f_fill_31_l k (j + 1) _ hj (by omega) (fun i hi => ?_) (h4.trans (frC.uA rfl))
      rw [uA_2, nI_clamp (by omega)]
      by_cases e : i = j
      · simp [e]
      · rw [if_neg (fun z => e z.2)]
        exact h3 i (by omega)
    · have e : j = 7 := by omega
      subst e
      rw [if_pos (Int32.le_refl _)]
      exact ⟨σ, rfl, h3, h4⟩
theorem f_fill_31 {n : Nat} (hn : 7 < n) (v : Int32) (σ : bS) : ∃ σ', cj_fill_31 n v σ = some σ' ∧ (∀ i, i < 7 → σ'.2.1 31 i = v) ∧ frC (fun z => z = 31) σ σ' := f_fill_31_l n 0 σ (by omega) (by omega) (fun i hi => by omega) frC.rf
theorem f_fill_33_l {n : Nat} {v : Int32} {σ0 : bS} : ∀ (k j : Nat) (σ : bS), j ≤ 7 → 7 < j + k → (∀ i, i < j → σ.2.1 33 i = v) → frC (fun z => z = 33) σ0 σ → ∃ σ', cj_fill_33_b5 n k v (nI j) cn_7 σ = some σ' ∧ (∀ i, i < 7 → σ'.2.1 33 i = v) ∧ frC (fun z => z = 33) σ0 σ'
  | 0, j, σ, h1, h2, h3, h4 => by omega
  | k + 1, j, σ, h1, h2, h3, h4 => by
    rw [cj_fill_33_b5, show cn_7 = nI 7 from rfl]
    by_cases hj : j < 7
    · rw [if_neg (nI_ge hj (by decide)), bin_nI hj (by decide), ci1_nI, nI_add]
      refine f_fill_33_l k (j + 1) _ hj (by omega) (fun i hi => ?_) (h4.trans (frC.uA rfl))
      rw [uA_2, nI_clamp (by omega)]
      by_cases e : i = j
      · simp [e]
      · rw [if_neg (fun z => e z.2)]
        exact h3 i (by omega)
    · have e : j = 7 := by omega
      subst e
      rw [if_pos (Int32.le_refl _)]
      exact ⟨σ, rfl, h3, h4⟩
theorem f_fill_33 {n : Nat} (hn : 7 < n) (v : Int32) (σ : bS) : ∃ σ', cj_fill_33 n v σ = some σ' ∧ (∀ i, i < 7 → σ'.2.1 33 i = v) ∧ frC (fun z => z = 33) σ σ' := f_fill_33_l n 0 σ (by omega) (by omega) (fun i hi => by omega) frC.rf
theorem f_fill_34_l {n : Nat} {v : Int32} {σ0 : bS} : ∀ (k j : Nat) (σ : bS), j ≤ 7 → 7 < j + k → (∀ i, i < j → σ.2.1 34 i = v) → frC (fun z => z = 34) σ0 σ → ∃ σ', cj_fill_34_b5 n k v (nI j) cn_7 σ = some σ' ∧ (∀ i, i < 7 → σ'.2.1 34 i = v) ∧ frC (fun z => z = 34) σ0 σ'
  | 0, j, σ, h1, h2, h3, h4 => by omega
  | k + 1, j, σ, h1, h2, h3, h4 => by
    rw [cj_fill_34_b5, show cn_7 = nI 7 from rfl]
    by_cases hj : j < 7
    · rw [if_neg (nI_ge hj (by decide)), bin_nI hj (by decide), ci1_nI, nI_add]
      refine f_fill_34_l k (j + 1) _ hj (by omega) (fun i hi => ?_) (h4.trans (frC.uA rfl))
      rw [uA_2, nI_clamp (by omega)]
      by_cases e : i = j
      · simp [e]
      · rw [if_neg (fun z => e z.2)]
        exact h3 i (by omega)
    · have e : j = 7 := by omega
      subst e
      rw [if_pos (Int32.le_refl _)]
      exact ⟨σ, rfl, h3, h4⟩
theorem f_fill_34 {n : Nat} (hn : 7 < n) (v : Int32) (σ : bS) : ∃ σ', cj_fill_34 n v σ = some σ' ∧ (∀ i, i < 7 → σ'.2.1 34 i = v) ∧ frC (fun z => z = 34) σ σ' := f_fill_34_l n 0 σ (by omega) (by omega) (fun i hi => by omega) frC.rf
theorem f_fill_57_l {n : Nat} {v : Int32} {σ0 : bS} : ∀ (k j : Nat) (σ : bS), j ≤ 96 → 96 < j + k → (∀ i, i < j → σ.2.1 57 i = v) → frC (fun z => z = 57) σ0 σ → ∃ σ', cj_fill_57_b5 n k v (nI j) cn_96 σ = some σ' ∧ (∀ i, i < 96 → σ'.2.1 57 i = v) ∧ frC (fun z => z = 57) σ0 σ'
  | 0, j, σ, h1, h2, h3, h4 => by omega
  | k + 1, j, σ, h1, h2, h3, h4 => by
    rw [cj_fill_57_b5, show cn_96 = nI 96 from rfl]
    by_cases hj : j < 96
    · rw [if_neg (nI_ge hj (by decide)), bin_nI hj (by decide), ci1_nI, nI_add]
      refine f_fill_57_l k (j + 1) _ hj (by omega) (fun i hi => ?_) (h4.trans (frC.uA rfl))
      rw [uA_2, nI_clamp (by omega)]
      by_cases e : i = j
      · simp [e]
      · rw [if_neg (fun z => e z.2)]
        exact h3 i (by omega)
    · have e : j = 96 := by omega
      subst e
      rw [if_pos (Int32.le_refl _)]
      exact ⟨σ, rfl, h3, h4⟩
theorem f_fill_57 {n : Nat} (hn : 96 < n) (v : Int32) (σ : bS) : ∃ σ', cj_fill_57 n v σ = some σ' ∧ (∀ i, i < 96 → σ'.2.1 57 i = v) ∧ frC (fun z => z = 57) σ σ' := f_fill_57_l n 0 σ (by omega) (by omega) (fun i hi => by omega) frC.rf
theorem f_fill_58_l {n : Nat} {v : Int32} {σ0 : bS} : ∀ (k j : Nat) (σ : bS), j ≤ 96 → 96 < j + k → (∀ i, i < j → σ.2.1 58 i = v) → frC (fun z => z = 58) σ0 σ → ∃ σ', cj_fill_58_b5 n k v (nI j) cn_96 σ = some σ' ∧ (∀ i, i < 96 → σ'.2.1 58 i = v) ∧ frC (fun z => z = 58) σ0 σ'
  | 0, j, σ, h1, h2, h3, h4 => by omega
  | k + 1, j, σ, h1, h2, h3, h4 => by
    rw [cj_fill_58_b5, show cn_96 = nI 96 from rfl]
    by_cases hj : j < 96
    · rw [if_neg (nI_ge hj (by decide)), bin_nI hj (by decide), ci1_nI, nI_add]
      refine f_fill_58_l k (j + 1) _ hj (by omega) (fun i hi => ?_) (h4.trans (frC.uA rfl))
      rw [uA_2, nI_clamp (by omega)]
      by_cases e : i = j
      · simp [e]
      · rw [if_neg (fun z => e z.2)]
        exact h3 i (by omega)
    · have e : j = 96 := by omega
      subst e
      rw [if_pos (Int32.le_refl _)]
      exact ⟨σ, rfl, h3, h4⟩
theorem f_fill_58 {n : Nat} (hn : 96 < n) (v : Int32) (σ : bS) : ∃ σ', cj_fill_58 n v σ = some σ' ∧ (∀ i, i < 96 → σ'.2.1 58 i = v) ∧ frC (fun z => z = 58) σ σ' := f_fill_58_l n 0 σ (by omega) (by omega) (fun i hi => by omega) frC.rf
theorem f_fill_61_l {n : Nat} {v : Int32} {σ0 : bS} : ∀ (k j : Nat) (σ : bS), j ≤ 1792 → 1792 < j + k → (∀ i, i < j → σ.2.1 61 i = v) → frC (fun z => z = 61) σ0 σ → ∃ σ', cj_fill_61_b5 n k v (nI j) cn_1792 σ = some σ' ∧ (∀ i, i < 1792 → σ'.2.1 61 i = v) ∧ frC (fun z => z = 61) σ0 σ'
  | 0, j, σ, h1, h2, h3, h4 => by omega
  | k + 1, j, σ, h1, h2, h3, h4 => by
    rw [cj_fill_61_b5, show cn_1792 = nI 1792 from rfl]
    by_cases hj : j < 1792
    · rw [if_neg (nI_ge hj (by decide)), bin_nI hj (by decide), ci1_nI, nI_add]
      refine f_fill_61_l k (j + 1) _ hj (by omega) (fun i hi => ?_) (h4.trans (frC.uA rfl))
      rw [uA_2, nI_clamp (by omega)]
      by_cases e : i = j
      · simp [e]
      · rw [if_neg (fun z => e z.2)]
        exact h3 i (by omega)
    · have e : j = 1792 := by omega
      subst e
      rw [if_pos (Int32.le_refl _)]
      exact ⟨σ, rfl, h3, h4⟩
theorem f_fill_61 {n : Nat} (hn : 1792 < n) (v : Int32) (σ : bS) : ∃ σ', cj_fill_61 n v σ = some σ' ∧ (∀ i, i < 1792 → σ'.2.1 61 i = v) ∧ frC (fun z => z = 61) σ σ' := f_fill_61_l n 0 σ (by omega) (by omega) (fun i hi => by omega) frC.rf
theorem f_fill_62_l {n : Nat} {v : Int32} {σ0 : bS} : ∀ (k j : Nat) (σ : bS), j ≤ 1024 → 1024 < j + k → (∀ i, i < j → σ.2.1 62 i = v) → frC (fun z => z = 62) σ0 σ → ∃ σ', cj_fill_62_b5 n k v (nI j) cn_1024 σ = some σ' ∧ (∀ i, i < 1024 → σ'.2.1 62 i = v) ∧ frC (fun z => z = 62) σ0 σ'
  | 0, j, σ, h1, h2, h3, h4 => by omega
  | k + 1, j, σ, h1, h2, h3, h4 => by
    rw [cj_fill_62_b5, show cn_1024 = nI 1024 from rfl]
    by_cases hj : j < 1024
    · rw [if_neg (nI_ge hj (by decide)), bin_nI hj (by decide), ci1_nI, nI_add]
      refine f_fill_62_l k (j + 1) _ hj (by omega) (fun i hi => ?_) (h4.trans (frC.uA rfl))
      rw [uA_2, nI_clamp (by omega)]
      by_cases e : i = j
      · simp [e]
      · rw [if_neg (fun z => e z.2)]
        exact h3 i (by omega)
    · have e : j = 1024 := by omega
      subst e
      rw [if_pos (Int32.le_refl _)]
      exact ⟨σ, rfl, h3, h4⟩
theorem f_fill_62 {n : Nat} (hn : 1024 < n) (v : Int32) (σ : bS) : ∃ σ', cj_fill_62 n v σ = some σ' ∧ (∀ i, i < 1024 → σ'.2.1 62 i = v) ∧ frC (fun z => z = 62) σ σ' := f_fill_62_l n 0 σ (by omega) (by omega) (fun i hi => by omega) frC.rf
theorem f_fill_75_l {n : Nat} {v : Int32} {σ0 : bS} : ∀ (k j : Nat) (σ : bS), j ≤ 6 → 6 < j + k → (∀ i, i < j → σ.2.1 75 i = v) → frC (fun z => z = 75) σ0 σ → ∃ σ', cj_fill_75_b5 n k v (nI j) cn_6 σ = some σ' ∧ (∀ i, i < 6 → σ'.2.1 75 i = v) ∧ frC (fun z => z = 75) σ0 σ'
  | 0, j, σ, h1, h2, h3, h4 => by omega
  | k + 1, j, σ, h1, h2, h3, h4 => by
    rw [cj_fill_75_b5, show cn_6 = nI 6 from rfl]
    by_cases hj : j < 6
    · rw [if_neg (nI_ge hj (by decide)), bin_nI hj (by decide), ci1_nI, nI_add]
      refine f_fill_75_l k (j + 1) _ hj (by omega) (fun i hi => ?_) (h4.trans (frC.uA rfl))
      rw [uA_2, nI_clamp (by omega)]
      by_cases e : i = j
      · simp [e]
      · rw [if_neg (fun z => e z.2)]
        exact h3 i (by omega)
    · have e : j = 6 := by omega
      subst e
      rw [if_pos (Int32.le_refl _)]
      exact ⟨σ, rfl, h3, h4⟩
theorem f_fill_75 {n : Nat} (hn : 6 < n) (v : Int32) (σ : bS) : ∃ σ', cj_fill_75 n v σ = some σ' ∧ (∀ i, i < 6 → σ'.2.1 75 i = v) ∧ frC (fun z => z = 75) σ σ' := f_fill_75_l n 0 σ (by omega) (by omega) (fun i hi => by omega) frC.rf
theorem f_fill_80_l {n : Nat} {v : Int32} {σ0 : bS} : ∀ (k j : Nat) (σ : bS), j ≤ 7 → 7 < j + k → (∀ i, i < j → σ.2.1 80 i = v) → frC (fun z => z = 80) σ0 σ → ∃ σ', cj_fill_80_b5 n k v (nI j) cn_7 σ = some σ' ∧ (∀ i, i < 7 → σ'.2.1 80 i = v) ∧ frC (fun z => z = 80) σ0 σ'
  | 0, j, σ, h1, h2, h3, h4 => by omega
  | k + 1, j, σ, h1, h2, h3, h4 => by
    rw [cj_fill_80_b5, show cn_7 = nI 7 from rfl]
    by_cases hj : j < 7
    · rw [if_neg (nI_ge hj (by decide)), bin_nI hj (by decide), ci1_nI, nI_add]
      refine f_fill_80_l k (j + 1) _ hj (by omega) (fun i hi => ?_) (h4.trans (frC.uA rfl))
      rw [uA_2, nI_clamp (by omega)]
      by_cases e : i = j
      · simp [e]
      · rw [if_neg (fun z => e z.2)]
        exact h3 i (by omega)
    · have e : j = 7 := by omega
      subst e
      rw [if_pos (Int32.le_refl _)]
      exact ⟨σ, rfl, h3, h4⟩
theorem f_fill_80 {n : Nat} (hn : 7 < n) (v : Int32) (σ : bS) : ∃ σ', cj_fill_80 n v σ = some σ' ∧ (∀ i, i < 7 → σ'.2.1 80 i = v) ∧ frC (fun z => z = 80) σ σ' := f_fill_80_l n 0 σ (by omega) (by omega) (fun i hi => by omega) frC.rf
theorem f_fill_81_l {n : Nat} {v : Int32} {σ0 : bS} : ∀ (k j : Nat) (σ : bS), j ≤ 7 → 7 < j + k → (∀ i, i < j → σ.2.1 81 i = v) → frC (fun z => z = 81) σ0 σ → ∃ σ', cj_fill_81_b5 n k v (nI j) cn_7 σ = some σ' ∧ (∀ i, i < 7 → σ'.2.1 81 i = v) ∧ frC (fun z => z = 81) σ0 σ'
  | 0, j, σ, h1, h2, h3, h4 => by omega
  | k + 1, j, σ, h1, h2, h3, h4 => by
    rw [cj_fill_81_b5, show cn_7 = nI 7 from rfl]
    by_cases hj : j < 7
    · rw [if_neg (nI_ge hj (by decide)), bin_nI hj (by decide), ci1_nI, nI_add]
      refine f_fill_81_l k (j + 1) _ hj (by omega) (fun i hi => ?_) (h4.trans (frC.uA rfl))
      rw [uA_2, nI_clamp (by omega)]
      by_cases e : i = j
      · simp [e]
      · rw [if_neg (fun z => e z.2)]
        exact h3 i (by omega)
    · have e : j = 7 := by omega
      subst e
      rw [if_pos (Int32.le_refl _)]
      exact ⟨σ, rfl, h3, h4⟩
theorem f_fill_81 {n : Nat} (hn : 7 < n) (v : Int32) (σ : bS) : ∃ σ', cj_fill_81 n v σ = some σ' ∧ (∀ i, i < 7 → σ'.2.1 81 i = v) ∧ frC (fun z => z = 81) σ σ' := f_fill_81_l n 0 σ (by omega) (by omega) (fun i hi => by omega) frC.rf
theorem c_seenClear {n : Nat} (hn : 7 < n) (σ : bS) : ∃ σ', cSeen_clear n σ = some σ' ∧ σ'.1 77 4 = nI 0 ∧ (∀ m, m < 7 → σ'.2.1 81 m = -1) ∧ frC (fun a => a = 77 ∨ a = 81) σ σ' := by
  obtain ⟨σ1, e1, e2, e3⟩ := f_fill_81 hn ci_m1 (uI σ 77 4 ci_0)
  refine ⟨σ1, ?_, ?_, fun m hm => (e2 m hm).trans cim1, (frC.uI (Or.inl rfl)).trans (e3.mono (fun a h => Or.inr h))⟩
  · unfold cSeen_clear
    rw [e1, ob_def]
  · rw [(e3 77 (by decide)).1]
    rfl
theorem m_forget_l {n : Nat} {x : Int32} {σ0 : bS} : ∀ (k j : Nat) (σ : bS), j ≤ 7 → 7 < j + k → (∀ i, i < j → σ.2.1 46 i = -1) → frM (fun _ => False) (fun z => z = 46) σ0 σ → ∃ σ', m_forget_b12 n k x (nI j) σ = some (x, σ') ∧ (∀ i, i < 7 → σ'.2.1 46 i = -1) ∧ frM (fun _ => False) (fun z => z = 46) σ0 σ'
  | 0, j, σ, h1, h2, h3, h4 => by omega
  | k + 1, j, σ, h1, h2, h3, h4 => by
    rw [m_forget_b12, cb7_nI]
    by_cases hj : j < 7
    · rw [if_neg (nI_ge hj (by decide)), bin_nI hj (by decide), ci1_nI, nI_add]
      refine m_forget_l k (j + 1) _ hj (by omega) (fun i hi => ?_) (h4.trans (frM.uA rfl))
      rw [uA_2, nI_clamp (by omega)]
      by_cases e : i = j
      · simp [e, cim1]
      · rw [if_neg (fun z => e z.2)]
        exact h3 i (by omega)
    · have e : j = 7 := by omega
      subst e
      rw [if_pos (Int32.le_refl _)]
      exact ⟨σ, rfl, h3, h4⟩
theorem sim_forget {i : Nat} {σC σM : bS} (h : Rel i σC σM) : Sim_forget (Rel (i + 6)) σC σM := by
  obtain ⟨T, L, G, h1, h2, h3, h4, h5, h6, h7, h8, h9, h10, h11, h12⟩ := h
  obtain ⟨c, a1, a2, a3, a4⟩ := h12.1
  obtain ⟨σC1, e1, e2, e3, e4⟩ := c_seenClear (n := 8) (by decide) σC
  obtain ⟨σM1, f1, f2, f3⟩ := m_forget_l (n := 8) (x := nI c) 8 0 (uI σM 0 62 ci_0) (by decide) (by decide) (fun i hi => by omega) frM.rf
  refine ⟨8, 8, nI c, σC1, σM1, ?_, ?_, ?_⟩
  · unfold cTop_forget
    rw [e1, ob_def, sI_d, a2]
  · unfold m_forget
    rw [sI_d, a3, ci0_nI]
    exact f1
  · refine Rel.seen h1 h2 h3 h4 h5 h6 h7 h8 h9 h10 h11 (e4.mono (fun a h => by omega)) ((frM.uI (PI := fun k => k = 62) rfl).trans (f3.mono (fun _ h => h.elim) (fun a h => by omega))) ⟨⟨0, by omega, e2, ?_, fun j hj => by omega⟩, fun m hm => ?_⟩
    · rw [f3.1 62 (fun z => z)]
      rfl
    · rw [e3 m hm, f2 m hm]
      exact ⟨rfl, Or.inl rfl⟩
/-! what is known by the first k -/
def RKn (T : aT) (σC σM : bS) : Prop := ∀ m, m < 7 → σC.2.1 80 m = σM.2.1 47 m ∧ orN (tB T) (σC.2.1 80 m)
theorem learn_l {T : aT} {n c k : Nat} (hB : tB T ≤ 6) (hM : tM T ≤ 7) (hc : c ≤ 12) (hk : k ≤ c) : ∀ (r j : Nat) (σC σM : bS), (∀ j, j < c → (∃ m, m < tM T ∧ σC.2.1 78 j = nI m ∧ σM.2.1 44 j = nI m) ∧ ∃ k, k < tB T ∧ σC.2.1 79 j = nI k ∧ σM.2.1 45 j = nI k) → RKn T σC σM → j ≤ 12 → 13 < j + r → ∃ (b : Bool) (σC1 σM1 : bS), cSeen_learn_b10 n r (nI k) (nI j) σC = some (if b then 1 else 0, σC1) ∧ m_knows_b23 n r (nI k) (nI (j + 1)) σM = some (if b then 1 else 0, σM1) ∧ (b = true → RKn T σC1 σM1) ∧ frC (fun a => a = 80) σC σC1 ∧ frM (fun _ => False) (fun a => a = 47) σM σM1
  | 0, j, σC, σM, hs, hK, hj, h => by omega
  | r + 1, j, σC, σM, hs, hK, hj, h => by
    rw [cSeen_learn_b10, m_knows_b23, ci1_nI, nI_add]
    by_cases hkj : k ≤ j + 1
    · rw [if_pos ((nI_leI (by omega) (by omega)).mpr hkj), if_pos ((nI_leI (by omega) (by omega)).mpr hkj)]
      exact ⟨true, σC, σM, rfl, rfl, fun _ => hK, frC.rf, frM.rf⟩
    · have n1 : ¬ nI k ≤ nI (j + 1) := fun z => hkj ((nI_leI (by omega) (by omega)).mp z)
      rw [if_neg n1, if_neg n1, nI_sub (by omega), Nat.add_sub_cancel]
      obtain ⟨⟨m, hm, s1, s2⟩, -⟩ := hs j (by omega)
      obtain ⟨-, b, hb, s3, s4⟩ := hs (j + 1) (by omega)
      have go : ∃ (bb : Bool) (σC1 σM1 : bS), cSeen_learn_b53 n (cSeen_learn_b10 n r) (nI k) (nI j) (nI m) σC = some (if bb then 1 else 0, σC1) ∧ m_knows_b63 n (m_knows_b23 n r) (nI k) (nI (j + 1)) (nI m) σM = some (if bb then 1 else 0, σM1) ∧ (bb = true → RKn T σC1 σM1) ∧ frC (fun a => a = 80) σC σC1 ∧ frM (fun _ => False) (fun a => a = 47) σM σM1 := by
        have e1 : sA σC 79 (nI (j + 1)) = nI b := (sA_n _ _ (by omega)).trans s3
        have e2 : sA σM 45 (nI (j + 1)) = nI b := (sA_n _ _ (by omega)).trans s4
        simp (disch := omega) only [cSeen_learn_b53, m_knows_b63, ci1_nI, nI_add, bin_nI, e1, e2]
        obtain ⟨bb, σC1, σM1, g1, g2, g3, g4, g5⟩ := learn_l hB hM hc hk r (j + 1) (uA σC 80 (nI m) (nI b)) (uA σM 47 (nI m) (nI b)) hs (fun q hq => by
          rw [uA_2, uA_2, nI_clamp (by omega)]
          by_cases e : q = m
          · simp only [e, and_self, if_true]
            exact ⟨trivial, Or.inr ⟨b, hb, rfl⟩⟩
          · simp only [e, and_false, if_false]
            exact hK q hq) (by omega) (by omega)
        exact ⟨bb, σC1, σM1, g1, g2, g3, (frC.uA (P := fun a => a = 80) rfl).trans g4, (frM.uA (PA := fun a => a = 47) rfl).trans g5⟩
      have e1 : sA σC 78 (nI j) = nI m := (sA_n _ _ (by omega)).trans s1
      have e2 : sA σM 44 (nI j) = nI m := (sA_n _ _ (by omega)).trans s2
      have e3 : sA σC 79 (nI (j + 1)) = nI b := (sA_n _ _ (by omega)).trans s3
      have e4 : sA σM 45 (nI (j + 1)) = nI b := (sA_n _ _ (by omega)).trans s4
      have e5 : sA σC 80 (nI m) = σC.2.1 80 m := sA_n _ _ (by omega)
      have e6 : sA σM 47 (nI m) = σC.2.1 80 m := (sA_n _ _ (by omega)).trans (hK m (by omega)).1.symm
      simp (disch := omega) only [m_knows_b35, bin_nI, e1, e2, e3, e4, e5, e6, cim1]
      rcases (hK m (by omega)).2 with k2 | ⟨q, hq, k2⟩
      · rw [k2, if_pos rfl, if_pos (by decide)]
        exact go
      · rw [k2, if_neg (nI_m1 (by omega)), if_neg (nI_pos (by omega))]
        by_cases e : nI q = nI b
        · rw [if_pos e, if_pos e]
          exact go
        · rw [if_neg e, if_neg e]
          exact ⟨false, σC, σM, rfl, rfl, (fun z => by cases z), frC.rf, frM.rf⟩
theorem m_knows2_l {n : Nat} {x : Int32} {σ0 : bS} (R : Option (Int32 × bS) → Prop) (hR : ∀ σ, (∀ i, i < 7 → σ.2.1 47 i = -1) → frM (fun _ => False) (fun z => z = 47) σ0 σ → R (m_knows_b23 n n x ci_1 σ)) : ∀ (k j : Nat) (σ : bS), j ≤ 7 → 7 < j + k → (∀ i, i < j → σ.2.1 47 i = -1) → frM (fun _ => False) (fun z => z = 47) σ0 σ → R (m_knows_b2 n k x (nI j) σ)
  | 0, j, σ, h1, h2, h3, h4 => by omega
  | k + 1, j, σ, h1, h2, h3, h4 => by
    rw [m_knows_b2, cb7_nI]
    by_cases hj : j < 7
    · rw [if_neg (nI_ge hj (by decide)), bin_nI hj (by decide), ci1_nI, nI_add]
      refine m_knows2_l R hR k (j + 1) _ hj (by omega) (fun i hi => ?_) (h4.trans (frM.uA rfl))
      rw [uA_2, nI_clamp (by omega)]
      by_cases e : i = j
      · simp [e, cim1]
      · rw [if_neg (fun z => e z.2)]
        exact h3 i (by omega)
    · have e : j = 7 := by omega
      subst e
      rw [if_pos (Int32.le_refl _)]
      exact hR σ h3 h4
theorem learn_eq {T : aT} {c k : Nat} (hB : tB T ≤ 6) (hM : tM T ≤ 7) (hc : c ≤ 12) (hk : k ≤ c) {σC σM : bS} (hs : ∀ j, j < c → (∃ m, m < tM T ∧ σC.2.1 78 j = nI m ∧ σM.2.1 44 j = nI m) ∧ ∃ k, k < tB T ∧ σC.2.1 79 j = nI k ∧ σM.2.1 45 j = nI k) : ∃ (b : Bool) (σC1 σM1 : bS), cSeen_learn 20 (nI k) σC = some (if b then 1 else 0, σC1) ∧ m_knows 20 (nI k) σM = some (if b then 1 else 0, σM1) ∧ (b = true → RKn T σC1 σM1) ∧ frC (fun a => a = 80) σC σC1 ∧ frM (fun _ => False) (fun a => a = 47) σM σM1 := by
  obtain ⟨σC0, e1, e2, e3⟩ := f_fill_80 (n := 20) (by decide) ci_m1 σC
  unfold cSeen_learn m_knows
  rw [e1, ob_def]
  refine m_knows2_l (σ0 := σM) (fun y => ∃ (b : Bool) (σC1 σM1 : bS), cSeen_learn_b10 20 20 (nI k) ci_0 σC0 = some (if b then 1 else 0, σC1) ∧ y = some (if b then 1 else 0, σM1) ∧ (b = true → RKn T σC1 σM1) ∧ frC (fun a => a = 80) σC σC1 ∧ frM (fun _ => False) (fun a => a = 47) σM σM1) (fun σ g1 g2 => ?_) 20 0 σM (by decide) (by decide) (fun i hi => by omega) frM.rf
  obtain ⟨b, σC1, σM1, k1, k2, k3, k4, k5⟩ := learn_l (n := 20) hB hM hc hk 20 0 σC0 σ (fun j hj => by
    rw [(e3 78 (by decide)).2.1, (e3 79 (by decide)).2.1, g2.2.1 44 (by decide), g2.2.1 45 (by decide)]
    exact hs j hj) (fun m hm => by rw [e2 m hm, g1 m hm, cim1]; exact ⟨rfl, Or.inl rfl⟩) (by decide) (by decide)
  exact ⟨b, σC1, σM1, k1, k2, k3, e3.trans k4, g2.trans k5⟩
theorem c_known1 {n c k : Nat} {σ : bS} (h : σ.1 77 4 = nI c) (hc : c ≤ 12) (hk : k ≤ c) : cTop_isKnown n (nI k) σ = some (1, σ) := by
  unfold cTop_isKnown cTop_isKnown_b20
  rw [if_neg (nI_pos (by omega)), sI_d, h, if_neg (nI_nlt hk (by omega))]
  rfl
theorem c_known0 {n c : Nat} {σ : bS} {x : Int32} (h : σ.1 77 4 = nI c) (hx : x < 0 ∨ nI c < x) : cTop_isKnown n x σ = some (0, σ) := by
  unfold cTop_isKnown cTop_isKnown_b19 cTop_isKnown_b20
  by_cases h0 : x < 0
  · rw [if_pos h0]; rfl
  · rw [if_neg h0, sI_d, h, if_pos (hx.resolve_left h0)]; rfl
theorem m_isIn1 {n a b k : Nat} {σ : bS} (ha : a ≤ k) (hk : k ≤ b) (hb : b < 2 ^ 31) : m_isIn n (nI k) (nI a) (nI b) σ = some (1, σ) := by
  unfold m_isIn m_isIn_b15
  rw [if_neg (nI_nlt ha (by omega)), if_neg (nI_nlt hk hb)]
  rfl
theorem m_isIn0 {n : Nat} {x a b : Int32} {σ : bS} (h : x < a ∨ b < x) : m_isIn n x a b σ = some (0, σ) := by
  unfold m_isIn m_isIn_b14 m_isIn_b15
  by_cases h0 : x < a
  · rw [if_pos h0]; rfl
  · rw [if_neg h0, if_pos (h.resolve_left h0)]; rfl
theorem kcases (n : Nat) (hn : n < 2 ^ 31) (x : Int32) : (∃ j, j ≤ n ∧ x = nI j) ∨ (x < 0 ∨ nI n < x) := by
  by_cases h0 : x < 0
  · exact Or.inr (Or.inl h0)
  · obtain ⟨j, hj, rfl⟩ := nI_of h0
    by_cases h : j ≤ n
    · exact Or.inl ⟨j, h, rfl⟩
    · exact Or.inr (Or.inr ((nI_ltI hn hj).mpr (by omega)))
theorem one_ne : ¬ (1 : Int32) = 0 := by decide
theorem fits_l {T : aT} {n : Nat} {σC σM : bS} (hM : tM T ≤ 7) (hK : RKn T σC σM) (hB : tB T ≤ 6) (c1 : σC.1 1 3 = nI (tM T)) (c2 : σC.1 1 0 = nI (tB T)) (m1 : σM.2.1 20 0 = nI (tM T)) (m2 : σM.2.1 12 0 = nI (tB T)) : ∀ (r j : Nat) (x : Int32), j ≤ tM T → tM T < j + r → ∃ v, cSeen_waysToFit_1_b26 n r x (nI j) σC = some (v, σC) ∧ m_fits_b41 n r x (nI j) σM = some (v, σM)
  | 0, j, x, h1, h2 => by omega
  | r + 1, j, x, h1, h2 => by
    have ih := fits_l (n := n) hM hK hB c1 c2 m1 m2 r (j + 1)
    have e1 : sI σC 1 3 = nI (tM T) := c1
    have e2 : sA σM 20 ci_0 = nI (tM T) := m1
    have e5 : sI σC 1 0 = nI (tB T) := c2
    have e6 : sA σM 12 ci_0 = nI (tB T) := m2
    rw [cSeen_waysToFit_1_b26, m_fits_b41]
    simp only [e1, e2, e5, e6, bin_c0 (show 0 < 2 by decide) (by decide)]
    by_cases hj : j < tM T
    · have e3 : sA σC 80 (nI j) = σC.2.1 80 j := sA_n _ _ (by omega)
      have e4 : sA σM 47 (nI j) = σC.2.1 80 j := (sA_n _ _ (by omega)).trans (hK j (by omega)).1.symm
      have n1 := nI_ge hj (by omega)
      rw [if_neg n1, if_neg n1]
      simp (disch := omega) only [bin_nI, e3, e4, cim1, cSeen_waysToFit_1_b53, m_fits_b69, ci1_nI, nI_add]
      rcases (hK j (by omega)).2 with k2 | ⟨q, hq, k2⟩
      · rw [k2, if_pos rfl, if_neg (by decide)]
        exact ih _ hj (by omega)
      · rw [k2, if_neg (nI_m1 (by omega)), if_pos (nI_pos' (by omega))]
        exact ih _ hj (by omega)
    · have e : j = tM T := by omega
      subst e
      rw [if_pos (Int32.le_refl _), if_pos (Int32.le_refl _)]
      exact ⟨x, rfl, rfl⟩
theorem sim_fits {i : Nat} {σC σM : bS} (h : Rel i σC σM) (x : Int32) : Sim_fits (Rel (i + 6)) x σC σM := by
  have hrel := h
  obtain ⟨T, L, G, h1, h2, h3, h4, h5, h6, h7, h8, h9, h10, h11, h12⟩ := h
  obtain ⟨c, a1, a2, a3, a4⟩ := h12.1
  have hB := h1.1
  have hM := h1.2.2.2.1
  rcases kcases c (by omega) x with ⟨k, hk, rfl⟩ | hx
  · obtain ⟨b, σC1, σM1, g1, g2, g3, g4, g5⟩ := learn_eq hB hM a1 hk a4
    have fin : Rel (i + 6) σC1 σM1 := hrel.of (by omega) (g4.mono (fun a h => by unfold scrC; omega)) (frQ.ofM g5 (fun _ h => h.elim) (fun a h => by unfold scrA; omega))
    cases b with
    | false =>
      have g1 : cSeen_learn 20 (nI k) σC = some (0, σC1) := g1
      have g2 : m_knows 20 (nI k) σM = some (0, σM1) := g2
      refine ⟨20, 20, 0, σC1, σM1, ?_, ?_, fin⟩
      · unfold cTop_fits cSeen_waysToFit_1
        rw [c_known1 a2 a1 hk, ob_def, if_neg one_ne, g1, ob_def, if_pos rfl]
        rfl
      · unfold m_fits
        rw [sI_d, a3, ci0_nI, m_isIn1 (by omega) hk (by omega), ob_def, if_neg one_ne, g2, ob_def, if_pos rfl]
        rfl
    | true =>
      have g1 : cSeen_learn 20 (nI k) σC = some (1, σC1) := g1
      have g2 : m_knows 20 (nI k) σM = some (1, σM1) := g2
      have c1 : σC1.1 1 3 = nI (tM T) := by rw [(g4 1 (by decide)).1]; exact h2.1.2.2.2
      have c2 : σC1.1 1 0 = nI (tB T) := by rw [(g4 1 (by decide)).1]; exact h2.1.1
      have m1 : σM1.2.1 20 0 = nI (tM T) := by rw [g5.2.1 20 (by decide)]; exact h3.1.2.2.2
      have m2 : σM1.2.1 12 0 = nI (tB T) := by rw [g5.2.1 12 (by decide)]; exact h3.1.1
      obtain ⟨v, f1, f2⟩ := fits_l (n := 20) hM (g3 rfl) hB c1 c2 m1 m2 20 0 (if nI k = 0 then nI (tB T) else 1) (by omega) (by omega)
      refine ⟨20, 20, v, σC1, σM1, ?_, ?_, fin⟩
      · unfold cTop_fits cSeen_waysToFit_1 cSeen_waysToFit_1_b22
        rw [c_known1 a2 a1 hk, ob_def, if_neg one_ne, g1, ob_def, if_neg one_ne, sI_d, c2, ci1_1, ci0_nI]
        by_cases z : nI k = 0
        · rw [if_pos z] at f1 ⊢
          rw [f1]
          rfl
        · rw [if_neg z] at f1 ⊢
          rw [f1]
          rfl
      · unfold m_fits m_fits_b38
        rw [sI_d, a3, ci0_nI, m_isIn1 (by omega) hk (by omega), ob_def, if_neg one_ne, g2, ob_def, if_neg one_ne, bin_nI (by decide) (by decide), sA_n _ _ (by decide), m2, ci1_1]
        by_cases z : nI k = 0
        · rw [if_pos z] at f2 ⊢
          exact f2
        · rw [if_neg z] at f2 ⊢
          exact f2
  · refine ⟨20, 20, -1, σC, σM, ?_, ?_, hrel.mono (by omega)⟩
    · unfold cTop_fits
      rw [c_known0 a2 hx, ob_def, if_pos rfl]
      rfl
    · unfold m_fits
      rw [sI_d, a3, ci0_0, m_isIn0 hx, ob_def, if_pos rfl]
      rfl
theorem sim_sure {i : Nat} {σC σM : bS} (h : Rel i σC σM) (x y : Int32) : Sim_sure (Rel (i + 6)) x y σC σM := by
  have hrel := h
  obtain ⟨T, L, G, h1, h2, h3, h4, h5, h6, h7, h8, h9, h10, h11, h12⟩ := h
  obtain ⟨c, a1, a2, a3, a4⟩ := h12.1
  have hB := h1.1
  have hM := h1.2.2.2.1
  rcases kcases c (by omega) x with ⟨k, hk, rfl⟩ | hx
  · rcases ncases (tM T) (by omega) y with ⟨m, hm, rfl⟩ | hy
    · obtain ⟨b, σC1, σM1, g1, g2, g3, g4, g5⟩ := learn_eq hB hM a1 hk a4
      have fin : Rel (i + 6) σC1 σM1 := hrel.of (by omega) (g4.mono (fun a h => by unfold scrC; omega)) (frQ.ofM g5 (fun _ h => h.elim) (fun a h => by unfold scrA; omega))
      cases b with
      | false =>
        have g1 : cSeen_learn 20 (nI k) σC = some (0, σC1) := g1
        have g2 : m_knows 20 (nI k) σM = some (0, σM1) := g2
        refine ⟨20, 20, -2, σC1, σM1, ?_, ?_, fin⟩
        · unfold cTop_sure cSeen_sureWish_1
          rw [c_known1 a2 a1 hk, ob_def, if_neg one_ne, c_isMan1 h2.1.2.2.2 (by omega) hm, ob_def, if_neg one_ne, g1, ob_def, if_pos rfl, cbm2]
          rfl
        · unfold m_sure
          rw [sI_d, a3, ci0_nI, m_isIn1 (by omega) hk (by omega), ob_def, if_neg one_ne, m_isMan1 h3.1.2.2.2 (by omega) hm, ob_def, if_neg one_ne, g2, ob_def, if_pos rfl, cbm2]
      | true =>
        have g1 : cSeen_learn 20 (nI k) σC = some (1, σC1) := g1
        have g2 : m_knows 20 (nI k) σM = some (1, σM1) := g2
        have c2 : sI σC1 1 0 = nI (tB T) := by rw [sI_d, (g4 1 (by decide)).1]; exact h2.1.1
        have m2 : sA σM1 12 (nI 0) = nI (tB T) := by rw [sA_n _ _ (by decide), g5.2.1 12 (by decide)]; exact h3.1.1
        have e1 : sA σC1 80 (nI m) = σC1.2.1 80 m := sA_n _ _ (by omega)
        have e2 : sA σM1 47 (nI m) = σC1.2.1 80 m := (sA_n _ _ (by omega)).trans (g3 rfl m (by omega)).1.symm
        have hc : cTop_sure 20 (nI k) (nI m) σC = some (if σC1.2.1 80 m = -1 then (if nI (tB T) = 1 then 0 else -2) else σC1.2.1 80 m, σC1) := by
          unfold cTop_sure cSeen_sureWish_1
          rw [c_known1 a2 a1 hk, ob_def, if_neg one_ne, c_isMan1 h2.1.2.2.2 (by omega) hm, ob_def, if_neg one_ne, g1, ob_def, if_neg one_ne]
          simp (disch := omega) only [bin_nI, e1, c2, cim1, ci1_1, cbm2, ci0_0, cSeen_sureWish_1_b35, cTop_sure_b33]
          by_cases z : σC1.2.1 80 m = -1
          · rw [if_pos z, if_pos z]
            by_cases z2 : nI (tB T) = 1
            · rw [if_pos z2, if_pos z2]; rfl
            · rw [if_neg z2, if_neg z2]; rfl
          · rw [if_neg z, if_neg z]; rfl
        have hm' : m_sure 20 (nI k) (nI m) σM = some (if σC1.2.1 80 m = -1 then (if nI (tB T) = 1 then 0 else -2) else σC1.2.1 80 m, σM1) := by
          unfold m_sure
          rw [sI_d, a3, ci0_nI, m_isIn1 (by omega) hk (by omega), ob_def, if_neg one_ne, m_isMan1 h3.1.2.2.2 (by omega) hm, ob_def, if_neg one_ne, g2, ob_def, if_neg one_ne]
          simp (disch := omega) only [bin_nI, e2, m2, ci1_1, cbm2, m_sure_b65]
          rcases (g3 rfl m (by omega)).2 with k2 | ⟨q, hq, k2⟩
          · rw [k2, if_pos (by decide), if_pos rfl]
            by_cases z2 : nI (tB T) = 1
            · rw [if_pos z2, if_pos z2]; rfl
            · rw [if_neg z2, if_neg z2]
          · rw [k2, if_neg (nI_pos (by omega)), if_neg (nI_m1 (by omega))]
        exact ⟨20, 20, _, σC1, σM1, hc, hm', fin⟩
    · refine ⟨20, 20, -1, σC, σM, ?_, ?_, hrel.mono (by omega)⟩
      · unfold cTop_sure
        rw [c_known1 a2 a1 hk, ob_def, if_neg one_ne, c_isMan0 h2.1.2.2.2 hy, ob_def, if_pos rfl]
        rfl
      · unfold m_sure
        rw [sI_d, a3, ci0_nI, m_isIn1 (by omega) hk (by omega), ob_def, if_neg one_ne, m_isMan0 h3.1.2.2.2 hy, ob_def, if_pos rfl]
        rfl
  · refine ⟨20, 20, -1, σC, σM, ?_, ?_, hrel.mono (by omega)⟩
    · unfold cTop_sure
      rw [c_known0 a2 hx, ob_def, if_pos rfl]
      rfl
    · unfold m_sure
      rw [sI_d, a3, ci0_0, m_isIn0 hx, ob_def, if_pos rfl]
      rfl
theorem trust_l {T : aT} {n : Nat} {σC σM : bS} (hM : tM T ≤ 7) (hK : RKn T σC σM) (hB : tB T ≤ 6) (hS : ∀ m, m < 7 → σC.2.1 81 m = σM.2.1 46 m ∧ (σC.2.1 81 m = -1 ∨ (m < tM T ∧ ∃ k, k < tB T ∧ σC.2.1 81 m = nI k))) (c1 : σC.1 1 3 = nI (tM T)) (m1 : σM.2.1 20 0 = nI (tM T)) : ∀ (r j : Nat) (x : Int32), j ≤ tM T → tM T < j + r → ∃ v, cSeen_trueOnes_1_b15 n r x (nI j) σC = some (v, σC) ∧ m_trust_b28 n r x (nI j) σM = some (v, σM)
  | 0, j, x, h1, h2 => by omega
  | r + 1, j, x, h1, h2 => by
    have ih := trust_l (n := n) hM hK hB hS c1 m1 r (j + 1)
    have e1 : sI σC 1 3 = nI (tM T) := c1
    have e2 : sA σM 20 ci_0 = nI (tM T) := m1
    rw [cSeen_trueOnes_1_b15, m_trust_b28]
    simp only [e1, e2, bin_c0 (show 0 < 2 by decide) (by decide)]
    by_cases hj : j < tM T
    · have e3 : sA σC 80 (nI j) = σC.2.1 80 j := sA_n _ _ (by omega)
      have e4 : sA σM 47 (nI j) = σC.2.1 80 j := (sA_n _ _ (by omega)).trans (hK j (by omega)).1.symm
      have e5 : sA σC 81 (nI j) = σC.2.1 81 j := sA_n _ _ (by omega)
      have e6 : sA σM 46 (nI j) = σC.2.1 81 j := (sA_n _ _ (by omega)).trans (hS j (by omega)).1.symm
      have n1 := nI_ge hj (by omega)
      rw [if_neg n1, if_neg n1]
      simp (disch := omega) only [bin_nI, e3, e4, e5, e6, cim1, cSeen_trueOnes_1_b69, cSeen_trueOnes_1_b62, m_trust_b77, m_trust_b71, ci1_nI, nI_add]
      rcases (hS j (by omega)).2 with s2 | ⟨-, p, hp, s2⟩
      · rw [s2, if_pos (by decide), if_pos (by decide)]
        exact ih _ hj (by omega)
      · rw [s2, if_neg (nI_pos (by omega)), if_neg (nI_pos (by omega))]
        rcases (hK j (by omega)).2 with k2 | ⟨q, hq, k2⟩
        · rw [k2, if_pos rfl, if_pos (by decide)]
          exact ih _ hj (by omega)
        · rw [k2, if_neg (nI_m1 (by omega)), if_neg (nI_pos (by omega))]
          by_cases z : nI q = nI p
          · rw [if_pos z, if_pos z]
            exact ih _ hj (by omega)
          · rw [if_neg z, if_neg z]
            exact ih _ hj (by omega)
    · have e : j = tM T := by omega
      subst e
      rw [if_pos (Int32.le_refl _), if_pos (Int32.le_refl _)]
      exact ⟨x, rfl, rfl⟩
theorem sim_trust {i : Nat} {σC σM : bS} (h : Rel i σC σM) (x : Int32) : Sim_trust (Rel (i + 6)) x σC σM := by
  have hrel := h
  obtain ⟨T, L, G, h1, h2, h3, h4, h5, h6, h7, h8, h9, h10, h11, h12⟩ := h
  obtain ⟨c, a1, a2, a3, a4⟩ := h12.1
  have hB := h1.1
  have hM := h1.2.2.2.1
  rcases kcases c (by omega) x with ⟨k, hk, rfl⟩ | hx
  · obtain ⟨b, σC1, σM1, g1, g2, g3, g4, g5⟩ := learn_eq hB hM a1 hk a4
    have fin : Rel (i + 6) σC1 σM1 := hrel.of (by omega) (g4.mono (fun a h => by unfold scrC; omega)) (frQ.ofM g5 (fun _ h => h.elim) (fun a h => by unfold scrA; omega))
    cases b with
    | false =>
      have g1 : cSeen_learn 20 (nI k) σC = some (0, σC1) := g1
      have g2 : m_knows 20 (nI k) σM = some (0, σM1) := g2
      refine ⟨20, 20, 0, σC1, σM1, ?_, ?_, fin⟩
      · unfold cTop_trust cSeen_trueOnes_1
        rw [c_known1 a2 a1 hk, ob_def, if_neg one_ne, g1, ob_def, if_pos rfl]
        rfl
      · unfold m_trust
        rw [sI_d, a3, ci0_nI, m_isIn1 (by omega) hk (by omega), ob_def, if_neg one_ne, g2, ob_def, if_pos rfl]
        rfl
    | true =>
      have g1 : cSeen_learn 20 (nI k) σC = some (1, σC1) := g1
      have g2 : m_knows 20 (nI k) σM = some (1, σM1) := g2
      have c1 : σC1.1 1 3 = nI (tM T) := by rw [(g4 1 (by decide)).1]; exact h2.1.2.2.2
      have m1 : σM1.2.1 20 0 = nI (tM T) := by rw [g5.2.1 20 (by decide)]; exact h3.1.2.2.2
      obtain ⟨v, f1, f2⟩ := trust_l (n := 20) hM (g3 rfl) hB (fun m hm => by rw [(g4 81 (by decide)).2.1, g5.2.1 46 (by decide)]; exact h12.2 m hm) c1 m1 20 0 (nI 0) (by omega) (by omega)
      refine ⟨20, 20, v, σC1, σM1, ?_, ?_, fin⟩
      · unfold cTop_trust cSeen_trueOnes_1
        rw [c_known1 a2 a1 hk, ob_def, if_neg one_ne, g1, ob_def, if_neg one_ne, ci0_nI, f1]
        rfl
      · unfold m_trust
        rw [sI_d, a3, ci0_nI, m_isIn1 (by omega) hk (by omega), ob_def, if_neg one_ne, g2, ob_def, if_neg one_ne, f2]
  · refine ⟨20, 20, -1, σC, σM, ?_, ?_, hrel.mono (by omega)⟩
    · unfold cTop_trust
      rw [c_known0 a2 hx, ob_def, if_pos rfl]
      rfl
    · unfold m_trust
      rw [sI_d, a3, ci0_0, m_isIn0 hx, ob_def, if_pos rfl]
      rfl

