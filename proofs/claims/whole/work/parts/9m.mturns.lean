/-! the reference's turns() -/
/-- the row is that of places r among the men e -/
def RowX (e : Nat → Nat) (r : Nat → Nat) (c : Nat) (σ : bS) : Prop := σ.1 0 49 = nI c ∧ ∀ q, q < c → σ.2.1 34 q = nI (e (r q))
abbrev fr34 (σ σ' : bS) : Prop := frM (fun _ => False) (fun a => a = 34) σ σ'
section TRN
variable {e : Nat → Nat} {c n : Nat}
theorem m_change {r : Nat → Nat} {a b : Nat} {σ : bS} (hc : c ≤ 7) (ha : a < c) (hb : b < c) (H : RowX e r c σ) : ∃ σ', m_changes n (nI a) (nI b) σ = some σ' ∧ RowX e (sw r a b) c σ' ∧ fr34 σ σ' := by
  have ea : sA σ 34 (nI a) = nI (e (r a)) := (sA_n _ _ (by omega)).trans (H.2 a ha)
  have eb : sA σ 34 (nI b) = nI (e (r b)) := (sA_n _ _ (by omega)).trans (H.2 b hb)
  refine ⟨uA (uA σ 34 (nI a) (nI (e (r b)))) 34 (nI b) (nI (e (r a))), ?_, ⟨H.1, fun q hq => ?_⟩, frMaA (frMaA frM.rf rfl) rfl⟩
  · unfold m_changes
    rw [bin_nI (by omega) (by decide), bin_nI (by omega) (by decide), bin_nI (by omega) (by decide), bin_nI (by omega) (by decide), ea, eb]
  · rw [uA_2, uA_2, nI_clamp (by omega), nI_clamp (by omega)]
    unfold sw
    by_cases z : q = b
    · rw [if_pos ⟨rfl, z⟩, if_pos z]
    · by_cases y : q = a
      · rw [if_neg (fun u => z u.2), if_pos ⟨rfl, y⟩, if_neg z, if_pos y]
      · rw [if_neg (fun u => z u.2), if_neg (fun u => y u.2), if_neg z, if_neg y]
        exact H.2 q hq
theorem sw_lt {r : Nat → Nat} {a b : Nat} (ha : a < c) (hb : b < c) (h : ∀ q, q < c → r q < c) : ∀ q, q < c → sw r a b q < c := fun q hq => by
  unfold sw
  split
  · exact h a ha
  · split
    · exact h b hb
    · exact h q hq
theorem m_rev_l (hc : c ≤ 7) : ∀ (k f a b : Nat) (r : Nat → Nat) (σ : bS), RowX e r c σ → (∀ q, q < c → r q < c) → b < c → b < a + 2 * f → b + 1 < a + 2 * k → a ≤ b + 1 → 0 < k → ∃ σ', m_turns_b86 n k (nI a) (nI b) σ = some (1, σ') ∧ RowX e (rv f r a b) c σ' ∧ (∀ q, q < c → rv f r a b q < c) ∧ fr34 σ σ'
  | 0, f, a, b, r, σ, H, hr, h1, h2, h3, h4, h5 => by omega
  | k + 1, f, a, b, r, σ, H, hr, h1, h2, h3, h4, h5 => by
    rw [m_turns_b86]
    by_cases z : a < b
    · obtain ⟨f', rfl⟩ : ∃ f', f = f' + 1 := ⟨f - 1, by omega⟩
      obtain ⟨σ1, c1, c2, c3⟩ := m_change (n := n) hc (show a < c by omega) h1 H
      rw [if_neg (nI_ge z (by omega)), c1, ob_def, m_turns_b105, ci1_nI, nI_add, show nI b + ci_m1 = nI (b - 1) by
        rw [show (nI b + ci_m1 : Int32) = nI b - nI 1 by rw [Int32.sub_eq_add_neg]; rfl, nI_sub (by omega)]]
      rw [rv, if_pos z]
      obtain ⟨σ2, d1, d2, d3, d4⟩ := m_rev_l hc k f' (a + 1) (b - 1) (sw r a b) σ1 c2 (sw_lt (by omega) h1 hr) (by omega) (by omega) (by omega) (by omega) (by omega)
      exact ⟨σ2, d1, d2, d3, c3.trans d4⟩
    · rw [if_pos ((nI_leI (by omega) (by omega)).mpr (by omega))]
      have e1 : rv f r a b = r := by
        cases f with
        | zero => rfl
        | succ f => rw [rv, if_neg z]
      rw [e1]
      exact ⟨σ, rfl, H, hr, frM.rf⟩
theorem dJ_ge {r : Nat → Nat} {x i : Nat} (hx : x ≤ r i) (hi : 0 < i) : ∀ j, i ≤ j → i ≤ dJ r x j ∧ dJ r x j ≤ j
  | 0, h => by omega
  | j + 1, h => by
    rw [dJ]
    by_cases z : x ≤ r (j + 1)
    · rw [if_pos z]
      omega
    · rw [if_neg z]
      have : i ≤ j := by
        by_cases y : i = j + 1
        · subst y
          exact absurd hx z
        · omega
      have := dJ_ge hx hi j this
      omega
theorem m_scanJ_l {r : Nat → Nat} {i : Nat} {σ : bS} (hn : 20 ≤ n) (hc : c ≤ 7) (he : ∀ a b, a < c → b < c → (e a ≤ e b ↔ a ≤ b)) (he7 : ∀ a, a < c → e a < 7) (H : RowX e r c σ) (hr : ∀ q, q < c → r q < c) (hi : i + 1 < c) (hx : r i ≤ r (i + 1)) : ∀ (k j : Nat), i + 1 ≤ j → j < c → j < k + i + 1 → ∃ σ', m_turns_b47 n k (nI i) (nI j) σ = some (1, σ') ∧ RowX e (rv c (sw r i (dJ r (r i) j)) (i + 1) (c - 1)) c σ' ∧ (∀ q, q < c → rv c (sw r i (dJ r (r i) j)) (i + 1) (c - 1) q < c) ∧ fr34 σ σ'
  | 0, j, h1, h2, h3 => by omega
  | k + 1, j, h1, h2, h3 => by
    have ej : sA σ 34 (nI j) = nI (e (r j)) := (sA_n _ _ (by omega)).trans (H.2 j h2)
    have ei : sA σ 34 (nI i) = nI (e (r i)) := (sA_n _ _ (by omega)).trans (H.2 i (by omega))
    have b1 := he7 _ (hr j h2)
    have b2 := he7 _ (hr i (by omega))
    rw [m_turns_b47, bin_nI (by omega) (by decide), bin_nI (by omega) (by decide), ei, ej]
    obtain ⟨j', rfl⟩ : ∃ j', j = j' + 1 := ⟨j - 1, by omega⟩
    rw [dJ]
    by_cases z : r i ≤ r (j' + 1)
    · rw [if_pos z, if_pos ((nI_leI (by omega) (by omega)).mpr ((he _ _ (hr i (by omega)) (hr _ h2)).mpr z))]
      obtain ⟨σ1, c1, c2, c3⟩ := m_change (n := n) hc (show i < c by omega) h2 H
      have e49 : sI σ1 0 49 = nI c := c2.1
      obtain ⟨σ2, d1, d2, d3, d4⟩ := m_rev_l (e := e) (n := n) hc n c (i + 1) (c - 1) (sw r i (j' + 1)) σ1 c2 (sw_lt (by omega) h2 hr) (by omega) (by omega) (by omega) (by omega) (by omega)
      refine ⟨σ2, ?_, d2, d3, c3.trans d4⟩
      rw [c1, ob_def, m_turns_b84, e49, ci1_nI, nI_add, nI_sub (by omega)]
      exact d1
    · rw [if_neg z, if_neg (fun u => z ((he _ _ (hr i (by omega)) (hr _ h2)).mp ((nI_leI (by omega) (by omega)).mp u))), m_turns_b65, show nI (j' + 1) + ci_m1 = nI j' by
        rw [show (nI (j' + 1) + ci_m1 : Int32) = nI (j' + 1) - nI 1 by rw [Int32.sub_eq_add_neg]; rfl, nI_sub (by omega)]
        rfl]
      have : ¬ i + 1 = j' + 1 := fun u => z (by rw [← u]; exact hx)
      exact m_scanJ_l hn hc he he7 H hr hi hx k j' (by omega) (by omega) (by omega)
theorem m_scanK_l {r : Nat → Nat} {σ : bS} (hn : 20 ≤ n) (hc : c ≤ 7) (he : ∀ a b, a < c → b < c → (e a ≤ e b ↔ a ≤ b)) (he7 : ∀ a, a < c → e a < 7) (H : RowX e r c σ) (hr : ∀ q, q < c → r q < c) : ∀ (k i : Nat), i < c → i < k → (dK r i = none → m_turns_b7 n k (nI i - ci_1) σ = some (0, σ)) ∧ ∀ x, dK r i = some x → ∃ σ', m_turns_b7 n k (nI i - ci_1) σ = some (1, σ') ∧ RowX e (rv c (sw r x (dJ r (r x) (c - 1))) (x + 1) (c - 1)) c σ' ∧ (∀ q, q < c → rv c (sw r x (dJ r (r x) (c - 1))) (x + 1) (c - 1) q < c) ∧ fr34 σ σ'
  | 0, i, h1, h2 => by omega
  | k + 1, 0, h1, h2 => by
    rw [m_turns_b7, if_pos (show nI 0 - ci_1 < 0 by decide), m_turns_b34, if_neg (show ¬ 0 ≤ nI 0 - ci_1 by decide)]
    exact ⟨fun _ => rfl, fun x e => by cases e⟩
  | k + 1, i + 1, h1, h2 => by
    have ei : nI (i + 1) - ci_1 = nI i := by
      rw [ci1_nI, nI_sub (by omega)]
      rfl
    have e0 : sA σ 34 (nI i) = nI (e (r i)) := (sA_n _ _ (by omega)).trans (H.2 i (by omega))
    have e1 : sA σ 34 (nI (i + 1)) = nI (e (r (i + 1))) := (sA_n _ _ (by omega)).trans (H.2 (i + 1) h1)
    have b1 := he7 _ (hr i (by omega))
    have b2 := he7 _ (hr (i + 1) h1)
    have e49 : sI σ 0 49 = nI c := H.1
    rw [m_turns_b7, ei, if_neg (nI_pos (by omega)), bin_nI (by omega) (by decide), ci1_nI, nI_add, bin_nI (by omega) (by decide), e0, e1, dK]
    by_cases z : r (i + 1) < r i
    · rw [if_pos z, if_neg (fun u => by
        have := (he _ _ (hr i (by omega)) (hr _ h1)).mp ((nI_leI (by omega) (by omega)).mp u)
        omega), m_turns_b31, show nI i + ci_m1 = nI i - ci_1 by rw [Int32.sub_eq_add_neg]; rfl]
      exact m_scanK_l hn hc he he7 H hr k i (by omega) (by omega)
    · rw [if_neg z, if_pos ((nI_leI (by omega) (by omega)).mpr ((he _ _ (hr i (by omega)) (hr _ h1)).mpr (by omega))), m_turns_b34, if_pos (nI_pos' (by omega)), m_turns_b46, e49, ci1_nI, nI_sub (by omega)]
      refine ⟨fun u => (by cases u), fun x u => ?_⟩
      cases u
      exact m_scanJ_l hn hc he he7 H hr h1 (by omega) n (c - 1) (by omega) (by omega) (by omega)
/-- to the next order, if there is one -/
theorem m_turn {r : Nat → Nat} {σ : bS} (hn : 20 ≤ n) (hc0 : 0 < c) (hc : c ≤ 7) (he : ∀ a b, a < c → b < c → (e a ≤ e b ↔ a ≤ b)) (he7 : ∀ a, a < c → e a < 7) (H : RowX e r c σ) (hr : ∀ q, q < c → r q < c) : (nx c r = none → m_turns n σ = some (0, σ)) ∧ ∀ r', nx c r = some r' → ∃ σ', m_turns n σ = some (1, σ') ∧ RowX e r' c σ' ∧ (∀ q, q < c → r' q < c) ∧ fr34 σ σ' := by
  have e49 : sI σ 0 49 = nI c := H.1
  have top : m_turns n σ = m_turns_b7 n n (nI (c - 1) - ci_1) σ := by
    unfold m_turns m_turns_b6
    rw [e49, show nI c - ci_2 = nI (c - 1) - ci_1 by
      have : c = 1 ∨ c = 2 ∨ c = 3 ∨ c = 4 ∨ c = 5 ∨ c = 6 ∨ c = 7 := by omega
      rcases this with u | u | u | u | u | u | u <;> rw [u] <;> decide]
  obtain ⟨a1, a2⟩ := m_scanK_l hn hc he he7 H hr n (c - 1) (by omega) (by omega)
  rw [top]
  unfold nx
  cases ed : dK r (c - 1) with
  | none => exact ⟨fun _ => a1 ed, fun r' u => by cases u⟩
  | some x =>
    refine ⟨fun u => (by cases u), fun r' u => ?_⟩
    cases u
    exact a2 x ed
end TRN
/-! over the orders, one after another -/
theorem chk_next {c : Nat} {l : List Nat} {t : List (List Nat)} (h : chk c (l :: t) = true) : (t = [] ∧ nx c (fun i => l.getD i 0) = none) ∨ ∃ l' t' r, t = l' :: t' ∧ nx c (fun i => l.getD i 0) = some r ∧ (∀ q, q < c → r q = l'.getD q 0) ∧ chk c t = true := by
  cases t with
  | nil =>
    left
    refine ⟨rfl, ?_⟩
    have h : (nx c (fun i => l.getD i 0)).isNone = true := h
    exact Option.isNone_iff_eq_none.mp h
  | cons l' t' =>
    right
    rw [chk, Bool.and_eq_true] at h
    cases en : nx c (fun i => l.getD i 0) with
    | none =>
      rw [en] at h
      cases h.1
    | some r =>
      rw [en] at h
      refine ⟨l', t', r, rfl, rfl, fun q hq => ?_, h.2⟩
      have e : (List.range c).map r = l' := by
        have := h.1
        exact beq_iff_eq.mp this
      rw [← e]
      simp [List.getD, hq]
