/-! the row the reference lays: of a set s first those not of z, then those of z -/
def fB (s z : Nat) (v : Bool) (m : Nat) : Bool := s.testBit m && (z.testBit m == v)
def fL (s z : Nat) (v : Bool) (j : Nat) : List Nat := (List.range j).filter (fB s z v)
def rowL (M s z : Nat) : List Nat := fL s z false M ++ fL s z true M
theorem fL_S (s z : Nat) (v : Bool) (j : Nat) : fL s z v (j + 1) = fL s z v j ++ (if fB s z v j = true then [j] else []) := by
  unfold fL
  rw [List.range_succ, List.filter_append]
  congr 1
  by_cases e : fB s z v j = true
  · rw [if_pos e, List.filter_cons_of_pos e]
    rfl
  · rw [if_neg e, List.filter_cons_of_neg e]
    rfl
theorem fL_len (s z : Nat) : ∀ j, (fL s z false j).length + (fL s z true j).length ≤ j
  | 0 => by simp [fL]
  | j + 1 => by
    have ih := fL_len s z j
    rw [fL_S, fL_S, List.length_append, List.length_append]
    have h : (if fB s z false j = true then [j] else []).length + (if fB s z true j = true then [j] else []).length ≤ 1 := by
      unfold fB
      cases s.testBit j <;> cases z.testBit j <;> simp
    omega
theorem fL_mono (s z : Nat) (v : Bool) (j : Nat) : ∀ k, (fL s z v (j + k)).length ≤ (fL s z v j).length + k
  | 0 => Nat.le_refl _
  | k + 1 => by
    have ih := fL_mono s z v j k
    rw [← Nat.add_assoc, fL_S, List.length_append]
    have h : (if fB s z v (j + k) = true then [j + k] else []).length ≤ 1 := by split <;> simp
    omega
def RowSt (l : List Nat) (σ : bS) : Prop := σ.1 0 49 = nI l.length ∧ ∀ q, q < l.length → σ.2.1 34 q = nI (l.getD q 0) ∧ σ.2.1 35 q = 0
def rowP (t m : Nat) (σ : bS) : bS := uI (uA (uA σ 34 (nI t) (nI m)) 35 (nI t) 0) 0 49 (nI (t + 1))
theorem RowSt.put {l : List Nat} {m : Nat} {σ : bS} (h : RowSt l σ) (hl : l.length < 7) : RowSt (l ++ [m]) (rowP l.length m σ) := by
  refine ⟨?_, fun q hq => ?_⟩
  · unfold rowP
    rw [uI_1, if_pos ⟨rfl, rfl⟩, List.length_append]
    rfl
  · rw [List.length_append] at hq
    have hq2 : q < l.length + 1 := hq
    show (uA (uA σ 34 (nI l.length) (nI m)) 35 (nI l.length) 0).2.1 34 q = _ ∧ (uA (uA σ 34 (nI l.length) (nI m)) 35 (nI l.length) 0).2.1 35 q = 0
    rw [uA_o _ _ _ _ (show ¬ 34 = 35 by decide), uA_2, uA_2, uA_o _ _ _ _ (show ¬ 35 = 34 by decide), nI_clamp (by omega)]
    by_cases e : q = l.length
    · subst e
      simp
    · have hq3 : q < l.length := by omega
      rw [if_neg (fun z => e z.2), if_neg (fun z => e z.2)]
      have eg : (l ++ [m]).getD q 0 = l.getD q 0 := by simp [List.getD, List.getElem?_append_left hq3]
      rw [eg]
      exact h.2 q hq3
def frRow (σ σ' : bS) : Prop := frM (fun k => k = 49) (fun a => a = 34 ∨ a = 35) σ σ'
theorem frRow.put {t m : Nat} {σ : bS} : frRow σ (rowP t m σ) := frMaI (frMaA (frMaA frM.rf (Or.inl rfl)) (Or.inr rfl)) rfl
def vI (v : Bool) : Nat := if v = true then 1 else 0
theorem m_lays_l {M n s z : Nat} {r12 : Int32 → Int32 → Int32 → bS → Option bS} (v : Bool) (pre : List Nat) (hM : M ≤ 7) (hs : s < 2 ^ 31) (hz : z < 2 ^ 31) (hpre : ∀ j, j < M → fB s z v j = true → pre.length + (fL s z v j).length < 7) : ∀ (k j : Nat) (σ : bS), σ.2.1 20 0 = nI M → RowSt (pre ++ fL s z v j) σ → j ≤ M → M < j + k → ∃ σ', m_laysRow_b20 n r12 k (nI s) (nI z) (nI (vI v)) (nI j) σ = r12 (nI s) (nI z) (nI (vI v + 1)) σ' ∧ RowSt (pre ++ fL s z v M) σ' ∧ frRow σ σ'
  | 0, j, σ, h20, hr, h1, h2 => by omega
  | k + 1, j, σ, h20, hr, h1, h2 => by
    rw [m_laysRow_b20, bin_c0 (by decide) (by decide), sA_c0, h20]
    by_cases hj : j < M
    · rw [if_neg (nI_ge hj (by omega)), bit_eq hs (by omega), bit_eq hz (by omega)]
      have no : fB s z v j = false → ∃ σ', m_laysRow_b84 n r12 (m_laysRow_b20 n r12 k) (nI s) (nI z) (nI (vI v)) (nI j) σ = r12 (nI s) (nI z) (nI (vI v + 1)) σ' ∧ RowSt (pre ++ fL s z v M) σ' ∧ frRow σ σ' := fun e => by
        rw [m_laysRow_b84, ci1_nI, nI_add]
        exact m_lays_l v pre hM hs hz hpre k (j + 1) σ h20 (by rw [fL_S, e, if_neg (by decide), List.append_nil]; exact hr) hj (by omega)
      cases e1 : s.testBit j
      · rw [if_pos (show (if false = true then (1 : Int32) else 0) = 0 from rfl)]
        exact no (by unfold fB; rw [e1]; rfl)
      · rw [if_pos rfl, if_neg one_ne]
        by_cases e2 : (if z.testBit j = true then (1 : Int32) else 0) = nI (vI v)
        · have e3 : fB s z v j = true := by
            unfold fB
            rw [e1]
            cases v <;> cases q : z.testBit j <;> rw [q] at e2
            · rfl
            · exact absurd e2 (by decide)
            · exact absurd e2 (by decide)
            · rfl
          have hl : (pre ++ fL s z v j).length < 7 := by
            rw [List.length_append]
            exact hpre j hj e3
          have q49 : sI σ 0 49 = nI (pre ++ fL s z v j).length := hr.1
          rw [if_pos e2]
          simp only [sI_uA, q49]
          rw [bin_nI hl (by decide), bin_nI hl (by decide), ci1_nI, nI_add, show vp_nar .boolean ci_0 = 0 by decide, m_laysRow_b84, ci1_nI, nI_add]
          obtain ⟨σ2, c1, c2, c3⟩ := m_lays_l (r12 := r12) (n := n) v pre hM hs hz hpre k (j + 1) (rowP (pre ++ fL s z v j).length j σ) h20 (by rw [fL_S, e3, if_pos rfl, ← List.append_assoc]; exact hr.put hl) hj (by omega)
          exact ⟨σ2, c1, c2, frM.trans frRow.put c3⟩
        · rw [if_neg e2]
          refine no ?_
          unfold fB
          rw [e1]
          cases v <;> cases q : z.testBit j <;> rw [q] at e2
          · exact absurd rfl e2
          · rfl
          · rfl
          · exact absurd rfl e2
    · have e : j = M := by omega
      subst e
      rw [if_pos (Int32.le_refl _), ci1_nI, nI_add]
      exact ⟨σ, rfl, hr, frM.rf⟩
theorem m_lays_row {M n s z : Nat} {σ : bS} (hn : 20 ≤ n) (hM : M ≤ 7) (hs : s < 2 ^ 31) (hz : z < 2 ^ 31) (h20 : σ.2.1 20 0 = nI M) : ∃ σ', m_laysRow n (nI s) (nI z) σ = some σ' ∧ RowSt (rowL M s z) σ' ∧ σ'.1 0 53 = 0 ∧ frM (fun k => k = 49 ∨ k = 53) (fun a => a = 34 ∨ a = 35) σ σ' := by
  have d0 : ∀ j, j < M → fB s z false j = true → ([] : List Nat).length + (fL s z false j).length < 7 := fun j hj _ => by
    have := fL_len s z j
    have e0 : ([] : List Nat).length = 0 := rfl
    omega
  have d1 : ∀ j, j < M → fB s z true j = true → (fL s z false M).length + (fL s z true j).length < 7 := fun j hj e => by
    have a1 := fL_len s z j
    have a2 := fL_mono s z false (j + 1) (M - (j + 1))
    rw [show j + 1 + (M - (j + 1)) = M by omega, fL_S] at a2
    have e2 : fB s z false j = false := by
      unfold fB at e ⊢
      cases q1 : s.testBit j <;> cases q2 : z.testBit j <;> rw [q1, q2] at e <;> first | rfl | cases e
    rw [e2, if_neg (by decide), List.append_nil] at a2
    omega
  obtain ⟨σ0, s0⟩ : ∃ y, y = uI (uI σ 0 49 ci_0) 0 53 ci_0 := ⟨_, rfl⟩
  have f0 : frM (fun k => k = 49 ∨ k = 53) (fun a => a = 34 ∨ a = 35) σ σ0 := by
    rw [s0]
    exact frMaI (frMaI frM.rf (Or.inl rfl)) (Or.inr rfl)
  have r0 : RowSt ([] ++ fL s z false 0) σ0 := by
    refine ⟨?_, fun q hq => absurd hq (Nat.not_lt_zero q)⟩
    rw [s0, uI_1, if_neg (by decide), uI_1, if_pos ⟨rfl, rfl⟩]
    rfl
  obtain ⟨σ1, c1, c2, c3⟩ := m_lays_l (n := n) (r12 := m_laysRow_b12 n (n - 1)) false [] hM hs hz d0 n 0 σ0 (by rw [s0]; exact h20) r0 (by omega) (by omega)
  obtain ⟨σ2, e1, e2, e3⟩ := m_lays_l (n := n) (r12 := m_laysRow_b12 n (n - 1 - 1)) true (fL s z false M) hM hs hz d1 n 0 σ1 (by rw [c3.2.1 20 (by decide), s0]; exact h20) (by show RowSt (fL s z false M ++ []) σ1; rw [List.append_nil]; exact c2) (by omega) (by omega)
  refine ⟨σ2, ?_, e2, ?_, f0.trans ((frM.trans c3 e3).mono (fun k z => Or.inl z) (fun a z => z))⟩
  · unfold m_laysRow
    rw [← s0, show m_laysRow_b12 n n (nI s) (nI z) ci_0 σ0 = m_laysRow_b12 n (n - 1 + 1) (nI s) (nI z) ci_0 σ0 by rw [show n - 1 + 1 = n by omega], m_laysRow_b12, if_neg (show ¬ ci_2 ≤ ci_0 by decide)]
    rw [show m_laysRow_b20 n (m_laysRow_b12 n (n - 1)) n (nI s) (nI z) ci_0 ci_0 σ0 = _ from c1]
    rw [show m_laysRow_b12 n (n - 1) (nI s) (nI z) (nI (vI false + 1)) σ1 = m_laysRow_b12 n (n - 1 - 1 + 1) (nI s) (nI z) (nI 1) σ1 by rw [show n - 1 - 1 + 1 = n - 1 by omega]; rfl, m_laysRow_b12, if_neg (show ¬ ci_2 ≤ nI 1 by decide)]
    rw [show m_laysRow_b20 n (m_laysRow_b12 n (n - 1 - 1)) n (nI s) (nI z) (nI 1) ci_0 σ1 = _ from e1]
    rw [show m_laysRow_b12 n (n - 1 - 1) (nI s) (nI z) (nI (vI true + 1)) σ2 = m_laysRow_b12 n (n - 1 - 1 - 1 + 1) (nI s) (nI z) (nI 2) σ2 by rw [show n - 1 - 1 - 1 + 1 = n - 1 - 1 by omega]; rfl, m_laysRow_b12, if_pos (show ci_2 ≤ nI 2 by decide)]
  · rw [e3.1 53 (by decide), c3.1 53 (by decide), s0, uI_1, if_pos ⟨rfl, rfl⟩, ci0_0]
