/-! the reference lays a told text down -/
def cpS (σ : bS) (a H j : Nat) : bS := uA σ a (nI j) (sA σ a (nI (H + j)))
def Rd1 (A : List Nat) (H j : Nat) (σ τ : bS) : Prop := τ.1 = σ.1 ∧ τ.2.2 = σ.2.2 ∧ ∀ b i, τ.2.1 b i = if b ∈ A ∧ i = j then σ.2.1 b (H + j) else σ.2.1 b i
theorem Rd1.nil {H j : Nat} {σ : bS} : Rd1 [] H j σ σ := ⟨rfl, rfl, fun b i => by rw [if_neg (fun u => by cases u.1)]⟩
theorem Rd1.cons {A : List Nat} {a H j : Nat} {σ τ : bS} (h : Rd1 A H j σ τ) (ha : ¬ a ∈ A) (hj : H + j < 2 ^ 31) (hH : 0 < H) : Rd1 (a :: A) H j σ (cpS τ a H j) := ⟨h.1, h.2.1, fun b i => by
  unfold cpS
  have ea : τ.2.1 a (H + j) = σ.2.1 a (H + j) := by rw [h.2.2 a, if_neg (fun u => ha u.1)]
  rw [uA_2, nI_clamp (by omega), sA_n _ _ hj, ea]
  by_cases z : b = a
  · subst z
    by_cases y : i = j
    · rw [if_pos ⟨rfl, y⟩, if_pos ⟨List.mem_cons_self .., y⟩]
    · rw [if_neg (fun u => y u.2), h.2.2 b i, if_neg (fun u => ha u.1), if_neg (fun u => y u.2)]
  · rw [if_neg (fun u => z u.1), h.2.2 b i]
    by_cases y : b ∈ A ∧ i = j
    · rw [if_pos y, if_pos ⟨List.mem_cons_of_mem _ y.1, y.2⟩]
    · rw [if_neg y, if_neg]
      rintro ⟨u1, u2⟩
      rcases List.mem_cons.mp u1 with u | u
      · exact z u
      · exact y ⟨u, u2⟩⟩
def Ly (A : List Nat) (H j : Nat) (σ σ' : bS) : Prop := σ'.1 = σ.1 ∧ σ'.2.2 = σ.2.2 ∧ ∀ b i, σ'.2.1 b i = if b ∈ A ∧ j ≤ i ∧ i < H then σ.2.1 b (H + i) else σ.2.1 b i
theorem Ly.rf {A : List Nat} {H : Nat} {σ : bS} : Ly A H H σ σ := ⟨rfl, rfl, fun b i => by rw [if_neg (by omega)]⟩
theorem Ly.step {A : List Nat} {H j : Nat} {σ τ σ' : bS} (h : Rd1 A H j σ τ) (g : Ly A H (j + 1) τ σ') (hj : j < H) : Ly A H j σ σ' := ⟨g.1.trans h.1, g.2.1.trans h.2.1, fun b i => by
  rw [g.2.2 b i]
  by_cases z : b ∈ A
  · by_cases y : j + 1 ≤ i ∧ i < H
    · rw [if_pos ⟨z, y⟩, if_pos ⟨z, by omega⟩, h.2.2, if_neg (by omega)]
    · rw [if_neg (fun u => y u.2), h.2.2]
      by_cases w : i = j
      · rw [if_pos ⟨z, w⟩, if_pos ⟨z, by omega⟩, w]
      · rw [if_neg (fun u => w u.2), if_neg (by omega)]
  · rw [if_neg (fun u => z u.1), h.2.2, if_neg (fun u => z u.1), if_neg (fun u => z u.1)]⟩
theorem Ly.at {A : List Nat} {H : Nat} {σ σ' : bS} (h : Ly A H 0 σ σ') {b i : Nat} (hb : b ∈ A) (hi : i < H) : σ'.2.1 b i = σ.2.1 b (H + i) := by
  rw [h.2.2, if_pos ⟨hb, by omega⟩]
theorem Ly.no {A : List Nat} {H j : Nat} {σ σ' : bS} (h : Ly A H j σ σ') {b : Nat} (hb : ¬ b ∈ A) (i : Nat) : σ'.2.1 b i = σ.2.1 b i := by
  rw [h.2.2, if_neg (fun u => hb u.1)]
theorem Ly.hi {A : List Nat} {H j : Nat} {σ σ' : bS} (h : Ly A H j σ σ') (b : Nat) {i : Nat} (hi : H ≤ i) : σ'.2.1 b i = σ.2.1 b i := by
  rw [h.2.2, if_neg (by omega)]
def m_laysE (n : Nat) (σ : bS) : Option bS :=
    bin_ ci_1 2 (
    bin_ ci_0 2 (
    bin_ ci_1 2 (
    bin_ ci_0 2 (
    bin_ ci_1 2 (
    bin_ ci_0 2 (
    bin_ ci_1 2 (
    bin_ ci_0 2 (
    some (uA (uA (uA (uA σ 12 ci_0 (sA σ 12 ci_1)) 13 ci_0 (sA (uA σ 12 ci_0 (sA σ 12 ci_1)) 13 ci_1)) 17 ci_0 (sA (uA (uA σ 12 ci_0 (sA σ 12 ci_1)) 13 ci_0 (sA (uA σ 12 ci_0 (sA σ 12 ci_1)) 13 ci_1)) 17 ci_1)) 20 ci_0 (sA (uA (uA (uA σ 12 ci_0 (sA σ 12 ci_1)) 13 ci_0 (sA (uA σ 12 ci_0 (sA σ 12 ci_1)) 13 ci_1)) 17 ci_0 (sA (uA (uA σ 12 ci_0 (sA σ 12 ci_1)) 13 ci_0 (sA (uA σ 12 ci_0 (sA σ 12 ci_1)) 13 ci_1)) 17 ci_1)) 20 ci_1))))))))))
theorem ly_b2 {n : Nat} : ∀ (k j : Nat) (σ : bS), j ≤ 500 → 500 < j + k → ∃ σ', m_lays_b2 n k (nI j) σ = m_lays_b49 n n ci_0 σ' ∧ Ly [8, 7] 500 j σ σ'
  | 0, j, σ, h1, h2 => by omega
  | k + 1, j, σ, h1, h2 => by
    rw [m_lays_b2, cs_500_n]
    by_cases z : j = 500
    · subst z
      rw [if_pos ((nI_leI (by omega) (by omega)).mpr (by omega))]
      exact ⟨σ, rfl, Ly.rf⟩
    · rw [if_neg (nI_ge (by omega) (by omega)), nI_add, bin_nI (by omega) (by decide), bin_nI (by omega) (by decide), bin_nI (by omega) (by decide), bin_nI (by omega) (by decide), nI_s]
      obtain ⟨σ', a1, a2⟩ := ly_b2 (n := n) k (j + 1) (cpS (cpS σ 7 500 j) 8 500 j) (by omega) (by omega)
      exact ⟨σ', a1, Ly.step (σ := σ) (Rd1.cons (Rd1.cons Rd1.nil (a := 7) (by decide) (by omega) (by omega)) (a := 8) (by decide) (by omega) (by omega)) a2 (by omega)⟩
theorem ly_b49 {n : Nat} : ∀ (k j : Nat) (σ : bS), j ≤ 14 → 14 < j + k → ∃ σ', m_lays_b49 n k (nI j) σ = m_lays_b78 n n ci_0 σ' ∧ Ly [9] 14 j σ σ'
  | 0, j, σ, h1, h2 => by omega
  | k + 1, j, σ, h1, h2 => by
    rw [m_lays_b49, cb_14_n]
    by_cases z : j = 14
    · subst z
      rw [if_pos ((nI_leI (by omega) (by omega)).mpr (by omega))]
      exact ⟨σ, rfl, Ly.rf⟩
    · rw [if_neg (nI_ge (by omega) (by omega)), nI_add, bin_nI (by omega) (by decide), bin_nI (by omega) (by decide), nI_s]
      obtain ⟨σ', a1, a2⟩ := ly_b49 (n := n) k (j + 1) (cpS σ 9 14 j) (by omega) (by omega)
      exact ⟨σ', a1, Ly.step (σ := σ) (Rd1.cons Rd1.nil (a := 9) (by decide) (by omega) (by omega)) a2 (by omega)⟩
theorem ly_b78 {n : Nat} : ∀ (k j : Nat) (σ : bS), j ≤ 196 → 196 < j + k → ∃ σ', m_lays_b78 n k (nI j) σ = m_lays_b125 n n ci_0 σ' ∧ Ly [11, 10] 196 j σ σ'
  | 0, j, σ, h1, h2 => by omega
  | k + 1, j, σ, h1, h2 => by
    rw [m_lays_b78, cs_196_n]
    by_cases z : j = 196
    · subst z
      rw [if_pos ((nI_leI (by omega) (by omega)).mpr (by omega))]
      exact ⟨σ, rfl, Ly.rf⟩
    · rw [if_neg (nI_ge (by omega) (by omega)), nI_add, bin_nI (by omega) (by decide), bin_nI (by omega) (by decide), bin_nI (by omega) (by decide), bin_nI (by omega) (by decide), nI_s]
      obtain ⟨σ', a1, a2⟩ := ly_b78 (n := n) k (j + 1) (cpS (cpS σ 10 196 j) 11 196 j) (by omega) (by omega)
      exact ⟨σ', a1, Ly.step (σ := σ) (Rd1.cons (Rd1.cons Rd1.nil (a := 10) (by decide) (by omega) (by omega)) (a := 11) (by decide) (by omega) (by omega)) a2 (by omega)⟩
theorem ly_b125 {n : Nat} : ∀ (k j : Nat) (σ : bS), j ≤ 10 → 10 < j + k → ∃ σ', m_lays_b125 n k (nI j) σ = m_lays_b184 n n ci_0 σ' ∧ Ly [16, 15, 14] 10 j σ σ'
  | 0, j, σ, h1, h2 => by omega
  | k + 1, j, σ, h1, h2 => by
    rw [m_lays_b125, cb_10_n]
    by_cases z : j = 10
    · subst z
      rw [if_pos ((nI_leI (by omega) (by omega)).mpr (by omega))]
      exact ⟨σ, rfl, Ly.rf⟩
    · rw [if_neg (nI_ge (by omega) (by omega)), nI_add, bin_nI (by omega) (by decide), bin_nI (by omega) (by decide), bin_nI (by omega) (by decide), bin_nI (by omega) (by decide), bin_nI (by omega) (by decide), bin_nI (by omega) (by decide), nI_s]
      obtain ⟨σ', a1, a2⟩ := ly_b125 (n := n) k (j + 1) (cpS (cpS (cpS σ 14 10 j) 15 10 j) 16 10 j) (by omega) (by omega)
      exact ⟨σ', a1, Ly.step (σ := σ) (Rd1.cons (Rd1.cons (Rd1.cons Rd1.nil (a := 14) (by decide) (by omega) (by omega)) (a := 15) (by decide) (by omega) (by omega)) (a := 16) (by decide) (by omega) (by omega)) a2 (by omega)⟩
theorem ly_b184 {n : Nat} : ∀ (k j : Nat) (σ : bS), j ≤ 4 → 4 < j + k → ∃ σ', m_lays_b184 n k (nI j) σ = m_lays_b239 n n ci_0 σ' ∧ Ly [24, 19, 18] 4 j σ σ'
  | 0, j, σ, h1, h2 => by omega
  | k + 1, j, σ, h1, h2 => by
    rw [m_lays_b184, ci_4_n]
    by_cases z : j = 4
    · subst z
      rw [if_pos ((nI_leI (by omega) (by omega)).mpr (by omega))]
      exact ⟨σ, rfl, Ly.rf⟩
    · rw [if_neg (nI_ge (by omega) (by omega)), nI_add, bin_nI (by omega) (by decide), bin_nI (by omega) (by decide), bin_nI (by omega) (by decide), bin_nI (by omega) (by decide), bin_nI (by omega) (by decide), bin_nI (by omega) (by decide), nI_s]
      obtain ⟨σ', a1, a2⟩ := ly_b184 (n := n) k (j + 1) (cpS (cpS (cpS σ 18 4 j) 19 4 j) 24 4 j) (by omega) (by omega)
      exact ⟨σ', a1, Ly.step (σ := σ) (Rd1.cons (Rd1.cons (Rd1.cons Rd1.nil (a := 18) (by decide) (by omega) (by omega)) (a := 19) (by decide) (by omega) (by omega)) (a := 24) (by decide) (by omega) (by omega)) a2 (by omega)⟩
theorem ly_b239 {n : Nat} : ∀ (k j : Nat) (σ : bS), j ≤ 7 → 7 < j + k → ∃ σ', m_lays_b239 n k (nI j) σ = m_laysE n σ' ∧ Ly [23, 22, 21] 7 j σ σ'
  | 0, j, σ, h1, h2 => by omega
  | k + 1, j, σ, h1, h2 => by
    rw [m_lays_b239, show cb_7 = nI 7 by decide]
    by_cases z : j = 7
    · subst z
      rw [if_pos ((nI_leI (by omega) (by omega)).mpr (by omega))]
      exact ⟨σ, rfl, Ly.rf⟩
    · rw [if_neg (nI_ge (by omega) (by omega)), nI_add, bin_nI (by omega) (by decide), bin_nI (by omega) (by decide), bin_nI (by omega) (by decide), bin_nI (by omega) (by decide), bin_nI (by omega) (by decide), bin_nI (by omega) (by decide), nI_s]
      obtain ⟨σ', a1, a2⟩ := ly_b239 (n := n) k (j + 1) (cpS (cpS (cpS σ 21 7 j) 22 7 j) 23 7 j) (by omega) (by omega)
      exact ⟨σ', a1, Ly.step (σ := σ) (Rd1.cons (Rd1.cons (Rd1.cons Rd1.nil (a := 21) (by decide) (by omega) (by omega)) (a := 22) (by decide) (by omega) (by omega)) (a := 23) (by decide) (by omega) (by omega)) a2 (by omega)⟩
theorem m_laysE_eq {n : Nat} (σ : bS) : ∃ σ', m_laysE n σ = some σ' ∧ Ly [20, 17, 13, 12] 1 0 σ σ' := by
  unfold m_laysE
  rw [bin_1 _ (by decide) (by decide), bin_c0 (by omega) (by decide), bin_1 _ (by decide) (by decide), bin_c0 (by omega) (by decide), bin_1 _ (by decide) (by decide), bin_c0 (by omega) (by decide), bin_1 _ (by decide) (by decide), bin_c0 (by omega) (by decide)]
  exact ⟨_, rfl, Ly.step (Rd1.cons (Rd1.cons (Rd1.cons (Rd1.cons (σ := σ) Rd1.nil (a := 12) (by decide) (by omega) (by omega)) (a := 13) (by decide) (by omega) (by omega)) (a := 17) (by decide) (by omega) (by omega)) (a := 20) (by decide) (by omega) (by omega)) Ly.rf (by omega)⟩
/-- all that was told lies in the first halves -/
def Laid (σ σ' : bS) : Prop := σ'.1 = σ.1 ∧ (∀ a, ¬ (7 ≤ a ∧ a ≤ 24) → σ'.2.1 a = σ.2.1 a) ∧ ∀ a j, j < hlf a → σ'.2.1 a j = σ.2.1 a (hlf a + j)
theorem m_lays_eq {n : Nat} (hn : 600 ≤ n) (σ : bS) : ∃ σ', m_lays n σ = some σ' ∧ Laid σ σ' := by
  obtain ⟨σ1, a1, b1⟩ := ly_b2 (n := n) n 0 σ (by omega) (by omega)
  obtain ⟨σ2, a2, b2⟩ := ly_b49 (n := n) n 0 σ1 (by omega) (by omega)
  obtain ⟨σ3, a3, b3⟩ := ly_b78 (n := n) n 0 σ2 (by omega) (by omega)
  obtain ⟨σ4, a4, b4⟩ := ly_b125 (n := n) n 0 σ3 (by omega) (by omega)
  obtain ⟨σ5, a5, b5⟩ := ly_b184 (n := n) n 0 σ4 (by omega) (by omega)
  obtain ⟨σ6, a6, b6⟩ := ly_b239 (n := n) n 0 σ5 (by omega) (by omega)
  obtain ⟨σ7, a7, b7⟩ := m_laysE_eq (n := n) σ6
  refine ⟨σ7, ?_, ((((((b7.1.trans b6.1).trans b5.1).trans b4.1).trans b3.1).trans b2.1).trans b1.1), fun a ha => funext (fun i => ?_), fun a j hj => ?_⟩
  · unfold m_lays
    exact a1.trans (a2.trans (a3.trans (a4.trans (a5.trans (a6.trans a7)))))
  · have nm : ∀ l : List Nat, (∀ x, x ∈ l → 7 ≤ x ∧ x ≤ 24) → ¬ a ∈ l := fun l h u => ha (h a u)
    rw [b7.no (nm _ (by decide)), b6.no (nm _ (by decide)), b5.no (nm _ (by decide)), b4.no (nm _ (by decide)), b3.no (nm _ (by decide)), b2.no (nm _ (by decide)), b1.no (nm _ (by decide))]
  · have a24 : a ≤ 24 := by
      rcases Nat.lt_or_ge 24 a with z | z
      · have : hlf a = 0 := by
          unfold hlf
          rw [if_neg (by omega), if_neg (by omega), if_neg (by omega), if_neg (by omega), if_neg (by omega), if_neg (by omega), if_neg (by omega)]
        omega
      · exact z
    have a7 : 7 ≤ a := by
      rcases Nat.lt_or_ge a 7 with z | z
      · have : hlf a = 0 := by
          unfold hlf
          rw [if_neg (by omega), if_neg (by omega), if_neg (by omega), if_neg (by omega), if_neg (by omega), if_neg (by omega), if_neg (by omega)]
        omega
      · exact z
    have cs : a = 7 ∨ a = 8 ∨ a = 9 ∨ a = 10 ∨ a = 11 ∨ a = 12 ∨ a = 13 ∨ a = 14 ∨ a = 15 ∨ a = 16 ∨ a = 17 ∨ a = 18 ∨ a = 19 ∨ a = 20 ∨ a = 21 ∨ a = 22 ∨ a = 23 ∨ a = 24 := by omega
    rcases cs with rfl | rfl | rfl | rfl | rfl | rfl | rfl | rfl | rfl | rfl | rfl | rfl | rfl | rfl | rfl | rfl | rfl | rfl
    · show σ7.2.1 7 j = σ.2.1 7 (500 + j)
      rw [b7.no (b := 7) (by decide), b6.no (b := 7) (by decide), b5.no (b := 7) (by decide), b4.no (b := 7) (by decide), b3.no (b := 7) (by decide), b2.no (b := 7) (by decide), b1.at (b := 7) (by decide) (show j < 500 from hj)]
    · show σ7.2.1 8 j = σ.2.1 8 (500 + j)
      rw [b7.no (b := 8) (by decide), b6.no (b := 8) (by decide), b5.no (b := 8) (by decide), b4.no (b := 8) (by decide), b3.no (b := 8) (by decide), b2.no (b := 8) (by decide), b1.at (b := 8) (by decide) (show j < 500 from hj)]
    · show σ7.2.1 9 j = σ.2.1 9 (14 + j)
      rw [b7.no (b := 9) (by decide), b6.no (b := 9) (by decide), b5.no (b := 9) (by decide), b4.no (b := 9) (by decide), b3.no (b := 9) (by decide), b2.at (b := 9) (by decide) (show j < 14 from hj), b1.no (b := 9) (by decide)]
    · show σ7.2.1 10 j = σ.2.1 10 (196 + j)
      rw [b7.no (b := 10) (by decide), b6.no (b := 10) (by decide), b5.no (b := 10) (by decide), b4.no (b := 10) (by decide), b3.at (b := 10) (by decide) (show j < 196 from hj), b2.no (b := 10) (by decide), b1.no (b := 10) (by decide)]
    · show σ7.2.1 11 j = σ.2.1 11 (196 + j)
      rw [b7.no (b := 11) (by decide), b6.no (b := 11) (by decide), b5.no (b := 11) (by decide), b4.no (b := 11) (by decide), b3.at (b := 11) (by decide) (show j < 196 from hj), b2.no (b := 11) (by decide), b1.no (b := 11) (by decide)]
    · show σ7.2.1 12 j = σ.2.1 12 (1 + j)
      rw [b7.at (b := 12) (by decide) (show j < 1 from hj), b6.no (b := 12) (by decide), b5.no (b := 12) (by decide), b4.no (b := 12) (by decide), b3.no (b := 12) (by decide), b2.no (b := 12) (by decide), b1.no (b := 12) (by decide)]
    · show σ7.2.1 13 j = σ.2.1 13 (1 + j)
      rw [b7.at (b := 13) (by decide) (show j < 1 from hj), b6.no (b := 13) (by decide), b5.no (b := 13) (by decide), b4.no (b := 13) (by decide), b3.no (b := 13) (by decide), b2.no (b := 13) (by decide), b1.no (b := 13) (by decide)]
    · show σ7.2.1 14 j = σ.2.1 14 (10 + j)
      rw [b7.no (b := 14) (by decide), b6.no (b := 14) (by decide), b5.no (b := 14) (by decide), b4.at (b := 14) (by decide) (show j < 10 from hj), b3.no (b := 14) (by decide), b2.no (b := 14) (by decide), b1.no (b := 14) (by decide)]
    · show σ7.2.1 15 j = σ.2.1 15 (10 + j)
      rw [b7.no (b := 15) (by decide), b6.no (b := 15) (by decide), b5.no (b := 15) (by decide), b4.at (b := 15) (by decide) (show j < 10 from hj), b3.no (b := 15) (by decide), b2.no (b := 15) (by decide), b1.no (b := 15) (by decide)]
    · show σ7.2.1 16 j = σ.2.1 16 (10 + j)
      rw [b7.no (b := 16) (by decide), b6.no (b := 16) (by decide), b5.no (b := 16) (by decide), b4.at (b := 16) (by decide) (show j < 10 from hj), b3.no (b := 16) (by decide), b2.no (b := 16) (by decide), b1.no (b := 16) (by decide)]
    · show σ7.2.1 17 j = σ.2.1 17 (1 + j)
      rw [b7.at (b := 17) (by decide) (show j < 1 from hj), b6.no (b := 17) (by decide), b5.no (b := 17) (by decide), b4.no (b := 17) (by decide), b3.no (b := 17) (by decide), b2.no (b := 17) (by decide), b1.no (b := 17) (by decide)]
    · show σ7.2.1 18 j = σ.2.1 18 (4 + j)
      rw [b7.no (b := 18) (by decide), b6.no (b := 18) (by decide), b5.at (b := 18) (by decide) (show j < 4 from hj), b4.no (b := 18) (by decide), b3.no (b := 18) (by decide), b2.no (b := 18) (by decide), b1.no (b := 18) (by decide)]
    · show σ7.2.1 19 j = σ.2.1 19 (4 + j)
      rw [b7.no (b := 19) (by decide), b6.no (b := 19) (by decide), b5.at (b := 19) (by decide) (show j < 4 from hj), b4.no (b := 19) (by decide), b3.no (b := 19) (by decide), b2.no (b := 19) (by decide), b1.no (b := 19) (by decide)]
    · show σ7.2.1 20 j = σ.2.1 20 (1 + j)
      rw [b7.at (b := 20) (by decide) (show j < 1 from hj), b6.no (b := 20) (by decide), b5.no (b := 20) (by decide), b4.no (b := 20) (by decide), b3.no (b := 20) (by decide), b2.no (b := 20) (by decide), b1.no (b := 20) (by decide)]
    · show σ7.2.1 21 j = σ.2.1 21 (7 + j)
      rw [b7.no (b := 21) (by decide), b6.at (b := 21) (by decide) (show j < 7 from hj), b5.no (b := 21) (by decide), b4.no (b := 21) (by decide), b3.no (b := 21) (by decide), b2.no (b := 21) (by decide), b1.no (b := 21) (by decide)]
    · show σ7.2.1 22 j = σ.2.1 22 (7 + j)
      rw [b7.no (b := 22) (by decide), b6.at (b := 22) (by decide) (show j < 7 from hj), b5.no (b := 22) (by decide), b4.no (b := 22) (by decide), b3.no (b := 22) (by decide), b2.no (b := 22) (by decide), b1.no (b := 22) (by decide)]
    · show σ7.2.1 23 j = σ.2.1 23 (7 + j)
      rw [b7.no (b := 23) (by decide), b6.at (b := 23) (by decide) (show j < 7 from hj), b5.no (b := 23) (by decide), b4.no (b := 23) (by decide), b3.no (b := 23) (by decide), b2.no (b := 23) (by decide), b1.no (b := 23) (by decide)]
    · show σ7.2.1 24 j = σ.2.1 24 (4 + j)
      rw [b7.no (b := 24) (by decide), b6.no (b := 24) (by decide), b5.at (b := 24) (by decide) (show j < 4 from hj), b4.no (b := 24) (by decide), b3.no (b := 24) (by decide), b2.no (b := 24) (by decide), b1.no (b := 24) (by decide)]
