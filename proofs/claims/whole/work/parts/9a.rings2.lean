/-! RINGS: what both sides count -/
theorem oA_top {fr : Nat → Nat} {s M : Nat} (hs : s < 2 ^ M) : ∀ k x, oA fr s (M + k) x = oA fr s M x
  | 0, _ => rfl
  | k + 1, x => by
    have q : s.testBit (M + k) = false := Nat.testBit_lt_two_pow (Nat.lt_of_lt_of_le hs (Nat.pow_le_pow_right (by decide) (by omega)))
    rw [← Nat.add_assoc, oA, q, if_neg Bool.false_ne_true]
    exact oA_top hs k x
theorem pA_top {fr to : Nat → Nat} {s M : Nat} (hs : s < 2 ^ M) : ∀ k x, pA fr to s (M + k) x = pA fr to s M x
  | 0, _ => rfl
  | k + 1, x => by
    have q : s.testBit (M + k) = false := Nat.testBit_lt_two_pow (Nat.lt_of_lt_of_le hs (Nat.pow_le_pow_right (by decide) (by omega)))
    rw [← Nat.add_assoc, pA, q, if_neg Bool.false_ne_true]
    exact pA_top hs k x
theorem sL_add (p f g : Nat → Nat) (l : Nat) : sL p (fun k => f k + g k) l = sL p f l + sL p g l := by
  unfold sL
  rw [← sm_add]
  refine sm_congr 6 (fun k _ => ?_)
  show (if p k = l then f k + g k else 0) = (if p k = l then f k else 0) + (if p k = l then g k else 0)
  split <;> omega
theorem max_sub0 : ∀ a b : Fin 8, (cj_max 0 ci_0 (nI a.val - nI b.val) ((fun _ _ => 0, fun _ _ => 0, fun _ _ => 0) : bS)).map (fun p => p.1) = some (nI (a.val - b.val)) := by decide +kernel
theorem max_sub {n a b : Nat} {σ : bS} (ha : a ≤ 7) (hb : b ≤ 7) : cj_max n ci_0 (nI a - nI b) σ = some (nI (a - b), σ) := by
  have h := max_sub0 ⟨a, by omega⟩ ⟨b, by omega⟩
  unfold cj_max cj_max_b10 at h ⊢
  split
  · rename_i z
    rw [if_pos z] at h
    rw [← Option.some.inj h]
  · rename_i z
    rw [if_neg z] at h
    rw [← Option.some.inj h]
section RG
variable {o i p : Nat → Nat} {l : Nat}
theorem c_more_l {n : Nat} {σ : bS} (hA : Ar 64 65 66 o i p σ) (ho : ∀ k, o k ≤ 7) (hi : ∀ k, i k ≤ 7) (hp : ∀ k, k < 6 → p k < 6) (hl : l < 6) : ∀ (k j : Nat), j ≤ 6 → 6 < j + k → cRows_moreOut_b4 n k (nI l) (nI (sm (fun k => if p k = l then o k - i k else 0) j)) (nI j) σ = some (nI (sL p (fun k => o k - i k) l), σ)
  | 0, j, h1, h2 => by omega
  | k + 1, j, h1, h2 => by
    rw [cRows_moreOut_b4, cb_6_n]
    by_cases hj : j < 6
    · obtain ⟨a1, a2, a3⟩ := hA j hj
      have e1 : sA σ 64 (nI j) = nI (o j) := (sA_n _ _ (by omega)).trans a1
      have e2 : sA σ 65 (nI j) = nI (i j) := (sA_n _ _ (by omega)).trans a2
      have e3 : sA σ 66 (nI j) = nI (p j) := (sA_n _ _ (by omega)).trans a3
      have ih := c_more_l (n := n) hA ho hi hp hl k (j + 1) (by omega) (by omega)
      rw [sm] at ih
      rw [if_neg (nI_ge hj (by omega)), bin_nI hj (by decide), e3]
      by_cases z : p j = l
      · rw [if_pos z] at ih
        rw [if_pos (by rw [z]), bin_nI hj (by decide), bin_nI hj (by decide), e1, e2, cRows_moreOut_b35, max_sub (ho j) (hi j), ob_def, cRows_moreOut_b40, ci1_nI, nI_add, nI_add]
        exact ih
      · rw [if_neg z, Nat.add_zero] at ih
        rw [if_neg (fun u => z (nI_inj (by have := hp j hj; omega) (by omega) u)), cRows_moreOut_b40, ci1_nI, nI_add]
        exact ih
    · have e : j = 6 := by omega
      subst e
      rw [if_pos (Int32.le_refl _)]
      rfl
theorem c_more {n : Nat} {σ : bS} (hn : 20 ≤ n) (hA : Ar 64 65 66 o i p σ) (ho : ∀ k, o k ≤ 7) (hi : ∀ k, i k ≤ 7) (hp : ∀ k, k < 6 → p k < 6) (hl : l < 6) : cRows_moreOut n (nI l) σ = some (nI (sL p (fun k => o k - i k) l), σ) := c_more_l hA ho hi hp hl n 0 (by omega) (by omega)
theorem c_has_l {n : Nat} {σ : bS} (hA : Ar 64 65 66 o i p σ) (ho : ∀ k, o k ≤ 7) (hi : ∀ k, i k ≤ 7) (hp : ∀ k, k < 6 → p k < 6) (hl : l < 6) : ∀ (k j : Nat), sm (fun k => if p k = l then o k + i k else 0) j = 0 → j ≤ 6 → 6 < j + k → cRows_hasArcs_b2 n k (nI l) (nI j) σ = some (if sL p (fun k => o k + i k) l = 0 then 0 else 1, σ)
  | 0, j, a, h1, h2 => by omega
  | k + 1, j, a, h1, h2 => by
    rw [cRows_hasArcs_b2, cb_6_n]
    by_cases hj : j < 6
    · obtain ⟨a1, a2, a3⟩ := hA j hj
      have e1 : sA σ 64 (nI j) = nI (o j) := (sA_n _ _ (by omega)).trans a1
      have e2 : sA σ 65 (nI j) = nI (i j) := (sA_n _ _ (by omega)).trans a2
      have e3 : sA σ 66 (nI j) = nI (p j) := (sA_n _ _ (by omega)).trans a3
      have o7 := ho j
      have i7 := hi j
      rw [if_neg (nI_ge hj (by omega)), bin_nI hj (by decide), e3]
      by_cases z : p j = l
      · rw [if_pos (by rw [z]), bin_nI hj (by decide), bin_nI hj (by decide), e1, e2, nI_add]
        by_cases y : o j + i j = 0
        · rw [y, if_pos (show (nI 0 : Int32) ≤ 0 from Int32.le_refl _), cRows_hasArcs_b36, ci1_nI, nI_add]
          exact c_has_l hA ho hi hp hl k (j + 1) (by rw [sm, a, if_pos z]; omega) (by omega) (by omega)
        · rw [if_neg (show ¬ nI (o j + i j) ≤ 0 from nI_ge (a := 0) (by omega) (by omega)), if_neg (fun u => by
            have q := sm_ge (f := fun k => if p k = l then o k + i k else 0) 6 j hj
            have q : (if p j = l then o j + i j else 0) ≤ sL p (fun k => o k + i k) l := q
            rw [if_pos z] at q
            omega)]
          rfl
      · rw [if_neg (fun u => z (nI_inj (by have := hp j hj; omega) (by omega) u)), cRows_hasArcs_b36, ci1_nI, nI_add]
        exact c_has_l hA ho hi hp hl k (j + 1) (by rw [sm, a, if_neg z]) (by omega) (by omega)
    · have e : j = 6 := by omega
      subst e
      rw [if_pos (Int32.le_refl _), if_pos (show sL p (fun k => o k + i k) l = 0 from a)]
      rfl
theorem c_has {n : Nat} {σ : bS} (hn : 20 ≤ n) (hA : Ar 64 65 66 o i p σ) (ho : ∀ k, o k ≤ 7) (hi : ∀ k, i k ≤ 7) (hp : ∀ k, k < 6 → p k < 6) (hl : l < 6) : cRows_hasArcs n (nI l) σ = some (if sL p (fun k => o k + i k) l = 0 then 0 else 1, σ) := c_has_l hA ho hi hp hl n 0 rfl (by omega) (by omega)
theorem m_more_l {n : Nat} {σ : bS} (hA : Ar 38 39 40 o i p σ) (ho : ∀ k, o k ≤ 7) (hi : ∀ k, i k ≤ 7) (hp : ∀ k, k < 6 → p k < 6) (hl : l < 6) : ∀ (k j : Nat), j ≤ 6 → 6 < j + k → m_moreOut_b7 n k (nI l) (nI (sm (fun k => if p k = l then o k - i k else 0) j)) (nI (sm (fun k => if p k = l then o k else 0) j)) (nI j) σ = some (if sL p o l = 0 then -1 else nI (sL p (fun k => o k - i k) l), σ)
  | 0, j, h1, h2 => by omega
  | k + 1, j, h1, h2 => by
    rw [m_moreOut_b7, cb_6_n]
    by_cases hj : j < 6
    · obtain ⟨a1, a2, a3⟩ := hA j hj
      have e1 : sA σ 38 (nI j) = nI (o j) := (sA_n _ _ (by omega)).trans a1
      have e2 : sA σ 39 (nI j) = nI (i j) := (sA_n _ _ (by omega)).trans a2
      have e3 : sA σ 40 (nI j) = nI (p j) := (sA_n _ _ (by omega)).trans a3
      have o7 := ho j
      have i7 := hi j
      have ih := m_more_l (n := n) hA ho hi hp hl k (j + 1) (by omega) (by omega)
      rw [sm, sm] at ih
      rw [if_neg (nI_ge hj (by omega)), bin_nI hj (by decide), e3]
      by_cases z : p j = l
      · rw [if_pos z, if_pos z] at ih
        rw [if_pos (by rw [z]), bin_nI hj (by decide), bin_nI hj (by decide), bin_nI hj (by decide), e1, e2]
        by_cases y : o j ≤ i j
        · rw [if_pos ((nI_leI (by omega) (by omega)).mpr y), m_moreOut_b73, ci1_nI, nI_add, nI_add]
          rw [show o j - i j = 0 by omega, Nat.add_zero] at ih
          exact ih
        · rw [if_neg (fun u => y ((nI_leI (by omega) (by omega)).mp u)), bin_nI hj (by decide), bin_nI hj (by decide), m_moreOut_b72, m_moreOut_b73, ci1_nI, nI_add, nI_add, nI_add, nI_sub (by omega)]
          rw [show ∀ x, x + o j - i j = x + (o j - i j) from fun x => by omega]
          exact ih
      · rw [if_neg z, if_neg z, Nat.add_zero, Nat.add_zero] at ih
        rw [if_neg (fun u => z (nI_inj (by have := hp j hj; omega) (by omega) u)), m_moreOut_b73, ci1_nI, nI_add]
        exact ih
    · have e : j = 6 := by omega
      subst e
      have q : sL p o l ≤ 7 * 6 := sL_le ho
      rw [if_pos (Int32.le_refl _)]
      show (if nI (sL p o l) = 0 then m_moreOut_b88 n ci_m1 σ else m_moreOut_b88 n (nI (sL p (fun k => o k - i k) l)) σ) = _
      by_cases y : sL p o l = 0
      · rw [y, if_pos rfl, if_pos (show (nI 0 : Int32) = 0 from rfl), m_moreOut_b88, cim1]
      · rw [if_neg y, if_neg (fun u => y (nI_inj (by omega) (by decide) (u.trans (show (0 : Int32) = nI 0 from rfl)))), m_moreOut_b88]
theorem m_more {n : Nat} {σ : bS} (hn : 20 ≤ n) (hA : Ar 38 39 40 o i p σ) (ho : ∀ k, o k ≤ 7) (hi : ∀ k, i k ≤ 7) (hp : ∀ k, k < 6 → p k < 6) (hl : l < 6) : m_moreOut n (nI l) σ = some (if sL p o l = 0 then -1 else nI (sL p (fun k => o k - i k) l), σ) := m_more_l hA ho hi hp hl n 0 (by omega) (by omega)
end RG
def F1 (r o : Nat → Nat) (l : Nat) : Nat := if sL r o l = 0 then 0 else 1
def F2 (r o mo : Nat → Nat) (l : Nat) : Nat := if sL r o l = 0 then 0 else if sL r mo l = 0 then 1 else 0
def F3 (r o mo : Nat → Nat) (l : Nat) : Nat := if sL r o l = 0 then 0 else if sL r mo l = 0 then 1 else sL r mo l
/-- what rings() answers -/
def aRg (x : Int32) (A B C : Nat) (H : Prop) [Decidable H] : Int32 := if x = ci_2 then nI C - (if H then 1 else 0) else if x = 0 then nI A else nI B
theorem c_rings_l {n l0 : Nat} {x : Int32} {o i p : Nat → Nat} {σ : bS} (hn : 20 ≤ n) (hA : Ar 64 65 66 o i p σ) (ho : ∀ k, o k ≤ 7) (hi : ∀ k, i k ≤ 7) (hp : ∀ k, k < 6 → p k < 6) (hev : ∀ l, sL p o l = sL p i l) (h12 : σ.1 59 12 = lI l0) (hl0 : l0 ≤ 6) : ∀ (k j : Nat), j ≤ 6 → 6 < j + k → cRows_ringsOf_b14 n k x (nI (sm (F1 p o) j)) (nI (sm (F2 p o (fun k => o k - i k)) j)) (nI (sm (F3 p o (fun k => o k - i k)) j)) (nI j) σ = some (aRg x (sm (F1 p o) 6) (sm (F2 p o (fun k => o k - i k)) 6) (sm (F3 p o (fun k => o k - i k)) 6) (¬ l0 = 0 ∧ ¬ o (l0 - 1) + i (l0 - 1) = 0 ∧ (sL p (fun k => o k - i k) (p (l0 - 1)) = 0 ∨ i (l0 - 1) < o (l0 - 1))), σ)
  | 0, j, h1, h2 => by omega
  | k + 1, j, h1, h2 => by
    rw [cRows_ringsOf_b14, cb_6_n]
    by_cases hj : j < 6
    · have ih := c_rings_l (x := x) hn hA ho hi hp hev h12 hl0 k (j + 1) (by omega) (by omega)
      rw [sm, sm, sm] at ih
      have e2 : sL p (fun k => o k + i k) j = sL p o j + sL p o j := by rw [sL_add, hev j]
      have q : sL p (fun k => o k - i k) j ≤ 7 * 6 := sL_le (fun k => by have := ho k; omega)
      rw [if_neg (nI_ge hj (by omega)), c_has hn hA ho hi hp hj, ob_def, e2]
      by_cases z : sL p o j = 0
      · rw [show F1 p o j = 0 from if_pos z, show F2 p o (fun k => o k - i k) j = 0 from if_pos z, show F3 p o (fun k => o k - i k) j = 0 from if_pos z] at ih
        simp only [Nat.add_zero] at ih
        rw [if_pos (show sL p o j + sL p o j = 0 by omega)]
        simp only [if_true]
        rw [cRows_ringsOf_b68, ci1_nI, nI_add]
        exact ih
      · rw [show F1 p o j = 1 from if_neg z, show F2 p o (fun k => o k - i k) j = (if sL p (fun k => o k - i k) j = 0 then 1 else 0) from if_neg z, show F3 p o (fun k => o k - i k) j = (if sL p (fun k => o k - i k) j = 0 then 1 else sL p (fun k => o k - i k) j) from if_neg z] at ih
        rw [if_neg (show ¬ sL p o j + sL p o j = 0 by omega)]
        simp only [if_neg one_ne]
        rw [c_more hn hA ho hi hp hj, ob_def]
        by_cases y : sL p (fun k => o k - i k) j = 0
        · rw [if_pos y, if_pos y] at ih
          rw [y, if_pos (show (nI 0 : Int32) = 0 from rfl), cRows_ringsOf_b55, show cj_max n ci_1 (nI 0) σ = some (nI 1, σ) from rfl, ob_def, cRows_ringsOf_b68, ci1_nI, nI_add, nI_add, nI_add, nI_add]
          exact ih
        · rw [if_neg y, if_neg y] at ih
          simp only [Nat.add_zero] at ih
          have em : cj_max n ci_1 (nI (sL p (fun k => o k - i k) j)) σ = some (nI (sL p (fun k => o k - i k) j), σ) := by
            unfold cj_max
            rw [ci1_nI]
            by_cases u : 1 < sL p (fun k => o k - i k) j
            · rw [if_pos ((nI_ltI (a := 1) (by decide) (by omega)).mpr u)]; rfl
            · rw [if_neg (fun v => u ((nI_ltI (a := 1) (by decide) (by omega)).mp v)), show sL p (fun k => o k - i k) j = 1 by omega]; rfl
          rw [if_neg (fun u => y (nI_inj (by omega) (by decide) (u.trans (show (0 : Int32) = nI 0 from rfl)))), cRows_ringsOf_b55, em, ob_def, cRows_ringsOf_b68, ci1_nI, ci0_nI, nI_add, nI_add, nI_add, nI_add, Nat.add_zero]
          exact ih
    · have e : j = 6 := by omega
      subst e
      rw [if_pos (Int32.le_refl _)]
      unfold aRg
      by_cases x2 : x = ci_2
      · rw [if_pos x2, if_pos x2]
        have lh : cRows_lastHelps n σ = some (if (¬ l0 = 0 ∧ ¬ o (l0 - 1) + i (l0 - 1) = 0 ∧ (sL p (fun k => o k - i k) (p (l0 - 1)) = 0 ∨ i (l0 - 1) < o (l0 - 1))) then 1 else 0, σ) := by
          have e12 : sI σ 59 12 = lI l0 := h12
          unfold cRows_lastHelps
          by_cases z : l0 = 0
          · subst z
            rw [e12, if_pos (show lI 0 < 0 by decide), if_neg (fun u => u.1 rfl)]
            rfl
          · have hb : l0 - 1 < 6 := by omega
            have el : lI l0 = nI (l0 - 1) := if_neg z
            obtain ⟨a1, a2, a3⟩ := hA (l0 - 1) hb
            have o7 := ho (l0 - 1)
            have i7 := hi (l0 - 1)
            have e1 : sA σ 64 (nI (l0 - 1)) = nI (o (l0 - 1)) := (sA_n _ _ (by omega)).trans a1
            have e2 : sA σ 65 (nI (l0 - 1)) = nI (i (l0 - 1)) := (sA_n _ _ (by omega)).trans a2
            have e3 : sA σ 66 (nI (l0 - 1)) = nI (p (l0 - 1)) := (sA_n _ _ (by omega)).trans a3
            have q : sL p (fun k => o k - i k) (p (l0 - 1)) ≤ 7 * 6 := sL_le (fun k => by have := ho k; omega)
            rw [e12, el, if_neg (nI_pos (by omega)), bin_nI hb (by decide), bin_nI hb (by decide), e1, e2, nI_add]
            by_cases y : o (l0 - 1) + i (l0 - 1) = 0
            · rw [if_pos (show nI (o (l0 - 1) + i (l0 - 1)) = 0 by rw [y]; rfl), if_neg (fun u => u.2.1 y)]
              rfl
            · rw [if_neg (fun u => y (nI_inj (by omega) (by decide) (u.trans (show (0 : Int32) = nI 0 from rfl)))), bin_nI hb (by decide), e3, c_more hn hA ho hi hp (hp _ hb), ob_def]
              by_cases v : sL p (fun k => o k - i k) (p (l0 - 1)) = 0
              · rw [if_pos (show ¬ l0 = 0 ∧ ¬ o (l0 - 1) + i (l0 - 1) = 0 ∧ (sL p (fun k => o k - i k) (p (l0 - 1)) = 0 ∨ i (l0 - 1) < o (l0 - 1)) from ⟨z, y, Or.inl v⟩), v, if_pos (show (nI 0 : Int32) = 0 from rfl)]
                rfl
              · rw [if_neg (fun u => v (nI_inj (by omega) (by decide) (u.trans (show (0 : Int32) = nI 0 from rfl))))]
                simp only [e12, el, e1, e2]
                rw [bin_nI hb (by decide), bin_nI hb (by decide)]
                by_cases w : o (l0 - 1) ≤ i (l0 - 1)
                · rw [if_pos ((nI_leI (by omega) (by omega)).mpr w), if_neg (show ¬ (¬ l0 = 0 ∧ ¬ o (l0 - 1) + i (l0 - 1) = 0 ∧ (sL p (fun k => o k - i k) (p (l0 - 1)) = 0 ∨ i (l0 - 1) < o (l0 - 1))) from fun u => u.2.2.elim v (fun t => by omega))]
                  rfl
                · rw [if_neg (fun u => w ((nI_leI (by omega) (by omega)).mp u)), if_pos (show ¬ l0 = 0 ∧ ¬ o (l0 - 1) + i (l0 - 1) = 0 ∧ (sL p (fun k => o k - i k) (p (l0 - 1)) = 0 ∨ i (l0 - 1) < o (l0 - 1)) from ⟨z, y, Or.inr (by omega)⟩)]
                  rfl
        rw [lh, ob_def]
        by_cases z : (¬ l0 = 0 ∧ ¬ o (l0 - 1) + i (l0 - 1) = 0 ∧ (sL p (fun k => o k - i k) (p (l0 - 1)) = 0 ∨ i (l0 - 1) < o (l0 - 1)))
        · rw [if_pos z]
          simp only [if_neg one_ne]
          rfl
        · rw [if_neg z]
          simp only [if_true]
          rfl
      · rw [if_neg x2, if_neg x2]
        by_cases x0 : x = 0
        · rw [if_pos x0, if_pos x0]
          rfl
        · rw [if_neg x0, if_neg x0]
          rfl
theorem m_rings_l {n l0 b : Nat} {x : Int32} {o i p : Nat → Nat} {σ : bS} (hn : 20 ≤ n) (hb : b < 4) (hx : x = nI 0 ∨ x = nI 1 ∨ x = nI 2) (hA : Ar 38 39 40 o i p σ) (ho : ∀ k, o k ≤ 7) (hi : ∀ k, i k ≤ 7) (hp : ∀ k, k < 6 → p k < 6) (h12 : σ.2.1 29 (1 + b) = md (lI l0)) (hl0 : l0 ≤ 6) : ∀ (k j : Nat), j ≤ 6 → 6 < j + k → m_rings_b50 n k (nI b) x (nI (sm (F1 p o) j)) (nI (sm (F2 p o (fun k => o k - i k)) j)) (nI (sm (F3 p o (fun k => o k - i k)) j)) (nI j) σ = some (aRg x (sm (F1 p o) 6) (sm (F2 p o (fun k => o k - i k)) 6) (sm (F3 p o (fun k => o k - i k)) 6) (¬ l0 = 0 ∧ ¬ sL p o (p (l0 - 1)) = 0 ∧ (sL p (fun k => o k - i k) (p (l0 - 1)) = 0 ∨ i (l0 - 1) < o (l0 - 1))), σ)
  | 0, j, h1, h2 => by omega
  | k + 1, j, h1, h2 => by
    rw [m_rings_b50, cb_6_n]
    by_cases hj : j < 6
    · have ih := m_rings_l hn hb hx hA ho hi hp h12 hl0 k (j + 1) (by omega) (by omega)
      rw [sm, sm, sm] at ih
      have q : sL p (fun k => o k - i k) j ≤ 7 * 6 := sL_le (fun k => by have := ho k; omega)
      rw [if_neg (nI_ge hj (by omega)), m_more hn hA ho hi hp hj, ob_def]
      by_cases z : sL p o j = 0
      · rw [show F1 p o j = 0 from if_pos z, show F2 p o (fun k => o k - i k) j = 0 from if_pos z, show F3 p o (fun k => o k - i k) j = 0 from if_pos z] at ih
        simp only [Nat.add_zero] at ih
        rw [if_pos z, if_neg (show ¬ (0 : Int32) ≤ -1 by decide), m_rings_b100, ci1_nI, nI_add]
        exact ih
      · rw [show F1 p o j = 1 from if_neg z, show F2 p o (fun k => o k - i k) j = (if sL p (fun k => o k - i k) j = 0 then 1 else 0) from if_neg z, show F3 p o (fun k => o k - i k) j = (if sL p (fun k => o k - i k) j = 0 then 1 else sL p (fun k => o k - i k) j) from if_neg z] at ih
        rw [if_neg z, if_pos (nI_pos' (show sL p (fun k => o k - i k) j < 2 ^ 31 by omega))]
        by_cases y : sL p (fun k => o k - i k) j = 0
        · rw [if_pos y, if_pos y] at ih
          rw [y, if_pos (show (nI 0 : Int32) = 0 from rfl), m_rings_b84, if_pos (show (nI 0 : Int32) = 0 from rfl), m_rings_b97, m_rings_b100, ci1_nI, nI_add, nI_add, nI_add, nI_add]
          exact ih
        · rw [if_neg y, if_neg y] at ih
          simp only [Nat.add_zero] at ih
          have ne : ¬ nI (sL p (fun k => o k - i k) j) = 0 := fun u => y (nI_inj (by omega) (by decide) (u.trans (show (0 : Int32) = nI 0 from rfl)))
          rw [if_neg ne, m_rings_b84, if_neg ne, m_rings_b97, m_rings_b100, ci1_nI, nI_add, nI_add, nI_add]
          exact ih
    · have e : j = 6 := by omega
      subst e
      have e29 : sA σ 29 (ci_1 + nI b) = md (lI l0) := by rw [ci1_nI, nI_add, sA_n _ _ (by omega)]; exact h12
      have fin : ∀ (A B C : Nat) (H : Prop) [Decidable H], (if H then m_rings_b166 n x (nI A) (nI B) (nI C) σ else m_rings_b169 n x (nI A) (nI B) (nI C) σ) = some (aRg x A B C H, σ) := fun A B C H _ => by
        unfold m_rings_b166 m_rings_b169 m_rings_b190 aRg
        rcases hx with rfl | rfl | rfl
        · rw [if_pos (show nI 0 = 0 from rfl), if_pos (show nI 0 = 0 from rfl), if_neg (show ¬ nI 0 = ci_2 by decide), if_pos (show nI 0 = 0 from rfl)]
          split <;> rfl
        · rw [if_neg (show ¬ nI 1 = 0 by decide), if_neg (show ¬ nI 1 = 0 by decide), if_pos (show nI 1 = ci_1 from rfl), if_pos (show nI 1 = ci_1 from rfl), if_neg (show ¬ nI 1 = ci_2 by decide), if_neg (show ¬ nI 1 = 0 by decide)]
          split <;> rfl
        · rw [if_neg (show ¬ nI 2 = 0 by decide), if_neg (show ¬ nI 2 = 0 by decide), if_neg (show ¬ nI 2 = ci_1 by decide), if_neg (show ¬ nI 2 = ci_1 by decide), if_pos (show nI 2 = ci_2 by decide)]
          split
          · rw [Int32.sub_eq_add_neg]
            rfl
          · rw [Int32.sub_zero]
      rw [if_pos (Int32.le_refl _), show bin_ (ci_1 + nI b) 2208 = bin_ (nI (1 + b)) 2208 by rw [ci1_nI, nI_add], bin_nI (by omega) (by decide), e29, ← fin]
      by_cases z : l0 = 0
      · subst z
        rw [if_pos (show md (lI 0) < 0 by decide), if_neg (fun u => u.1 rfl)]
      · have hb2 : l0 - 1 < 6 := by omega
        have el : md (lI l0) = nI (l0 - 1) := by rw [show lI l0 = nI (l0 - 1) from if_neg z, md_n (by omega)]
        obtain ⟨a1, a2, a3⟩ := hA (l0 - 1) hb2
        have o7 := ho (l0 - 1)
        have i7 := hi (l0 - 1)
        have e1 : sA σ 38 (nI (l0 - 1)) = nI (o (l0 - 1)) := (sA_n _ _ (by omega)).trans a1
        have e2 : sA σ 39 (nI (l0 - 1)) = nI (i (l0 - 1)) := (sA_n _ _ (by omega)).trans a2
        have e3 : sA σ 40 (nI (l0 - 1)) = nI (p (l0 - 1)) := (sA_n _ _ (by omega)).trans a3
        have q : sL p (fun k => o k - i k) (p (l0 - 1)) ≤ 7 * 6 := sL_le (fun k => by have := ho k; omega)
        rw [el, if_neg (nI_pos (by omega)), bin_nI hb2 (by decide), e3, m_more hn hA ho hi hp (hp _ hb2), ob_def]
        by_cases y : sL p o (p (l0 - 1)) = 0
        · rw [if_pos y]
          simp only [if_pos (show (-1 : Int32) < 0 by decide)]
          rw [if_neg (fun u => u.2.1 y)]
        · rw [if_neg y]
          simp only [if_neg (nI_pos (show sL p (fun k => o k - i k) (p (l0 - 1)) < 2 ^ 31 by omega))]
          rw [bin_nI hb2 (by decide), e3, m_more hn hA ho hi hp (hp _ hb2), ob_def, if_neg y]
          by_cases v : sL p (fun k => o k - i k) (p (l0 - 1)) = 0
          · rw [if_pos (show ¬ l0 = 0 ∧ ¬ sL p o (p (l0 - 1)) = 0 ∧ (sL p (fun k => o k - i k) (p (l0 - 1)) = 0 ∨ i (l0 - 1) < o (l0 - 1)) from ⟨z, y, Or.inl v⟩), v, if_pos (show (nI 0 : Int32) = 0 from rfl)]
          · rw [if_neg (fun u => v (nI_inj (by omega) (by decide) (u.trans (show (0 : Int32) = nI 0 from rfl)))), bin_nI hb2 (by decide), bin_nI hb2 (by decide), e1, e2]
            by_cases w : o (l0 - 1) ≤ i (l0 - 1)
            · rw [if_pos ((nI_leI (by omega) (by omega)).mpr w), if_neg (show ¬ (¬ l0 = 0 ∧ ¬ sL p o (p (l0 - 1)) = 0 ∧ (sL p (fun k => o k - i k) (p (l0 - 1)) = 0 ∨ i (l0 - 1) < o (l0 - 1))) from fun u => u.2.2.elim v (fun t => by omega))]
            · rw [if_neg (fun u => w ((nI_leI (by omega) (by omega)).mp u)), if_pos (show ¬ l0 = 0 ∧ ¬ sL p o (p (l0 - 1)) = 0 ∧ (sL p (fun k => o k - i k) (p (l0 - 1)) = 0 ∨ i (l0 - 1) < o (l0 - 1)) from ⟨z, y, Or.inr (by omega)⟩)]
theorem aRg_congr {x : Int32} {A B C A' B' C' : Nat} {H H' : Prop} [Decidable H] [Decidable H'] (h1 : A = A') (h2 : B = B') (h3 : C = C') (h4 : H ↔ H') : aRg x A B C H = aRg x A' B' C' H' := by
  subst h1 h2 h3
  unfold aRg
  by_cases z : H
  · rw [if_pos z, if_pos (h4.mp z)]
  · rw [if_neg z, if_neg (fun y => z (h4.mpr y))]
theorem x012 (x : Int32) : (x = nI 0 ∨ x = nI 1 ∨ x = nI 2) ∨ (x < 0 ∨ ¬ x ≤ ci_2) := by
  rcases ncases 3 (by decide) x with ⟨j, hj, rfl⟩ | h
  · left
    have : j = 0 ∨ j = 1 ∨ j = 2 := by omega
    rcases this with rfl | rfl | rfl
    · exact Or.inl rfl
    · exact Or.inr (Or.inl rfl)
    · exact Or.inr (Or.inr rfl)
  · right
    rcases h with h | h
    · exact Or.inl h
    · exact Or.inr (fun z => absurd (Int32.le_trans h z) (by decide))
theorem sim_rings {i : Nat} {σC σM : bS} (hi : i ≤ 3072) (h : Rel i σC σM) (x y v : Int32) : Sim_rings (Rel (i + 6)) x y v σC σM := by
  have hrel := h
  obtain ⟨T, L, G, H⟩ := h
  have H : RelB i T L G σC σM := H
  have hM := H.1.2.2.2.1
  have hB := H.1.1
  have hGG := H.1.2.2.1
  have h7 : (2 : Nat) ^ tM T ≤ 2 ^ 7 := Nat.pow_le_pow_right (by decide) hM
  obtain ⟨hr, r1, r2, r3⟩ := Rel.hour H.2.2.2.2.2.1 hi
  rcases x012 v with hv | hv
  · have v1 : ¬ v < 0 := by rcases hv with rfl | rfl | rfl <;> decide
    have v2 : v ≤ ci_2 := by rcases hv with rfl | rfl | rfl <;> decide
    have v3 : ∀ σ : bS, m_isIn 1000 v ci_0 ci_2 σ = some (1, σ) := fun σ => by
      unfold m_isIn
      rw [if_neg (show ¬ v < ci_0 from v1), if_neg (Int32.not_lt.mpr v2)]
      rfl
    rcases row_cases (n := 1000) (n1 := 1000) (by omega) (by omega) H x y with ⟨a1, a2⟩ | ⟨b, s, hb, h0, hs, rfl, rfl, a2, ⟨a3, a4⟩ | ⟨a3, a4, a5⟩⟩
    · refine ⟨1000, 1000, -1, σC, σM, ?_, ?_, hrel.mono (by omega)⟩
      · unfold cTop_rings
        rw [if_neg v1, if_pos v2, a1, ob_def, cTop_rings_b19, if_neg m1_ne]
      · unfold m_rings
        rw [a2, ob_def, if_pos rfl, m_rings_b18, cim1]
    · refine ⟨1000, 1000, -2, σC, uI σM 0 40 ci_0, ?_, ?_, hrel.of (by omega) frC.rf frQw⟩
      · unfold cTop_rings
        rw [if_neg v1, if_pos v2, a3, ob_def, cTop_rings_b19, if_neg m2_ne]
      · unfold m_rings
        rw [a2, ob_def, if_neg one_ne, v3, ob_def, if_neg one_ne, a4, ob_def, if_pos rfl, cbm2]
    · have hf6 : ∀ m, s.testBit m = true → tHome T m < 6 := fun m hm => by have := H.1.2.2.2.2.2.1 m (bit_lt hs hm); omega
      have ht6 : ∀ m, s.testBit m = true → wTo T L G b hr m < 6 := fun m hm => by have := (wTo_is (L := L) (G := G) (b := b) (h := hr) H.1 (bit_lt hs hm)).1; omega
      obtain ⟨l0, σ1, c1, c2, c3, c4, c5⟩ := c_prepE (n := 1000) (x := 1) (by omega) H.1 H.2.1 H.2.2.2.1 (H.2.2.2.2.2.1.2.1 b hb) hb hs (by omega) (by omega) r2
      obtain ⟨σ2, d1, d2, d3⟩ := c_draw0_l (n := 1000) 1000 0 σ1 (fun x hx => by omega) (by omega) (by omega)
      obtain ⟨σ3, e1, e2, e3⟩ := c_draw_l (n := 1000) (h := hr) (by omega) H.1 hs 1000 0 σ2 (c4.fr d3 (fun a x y => by unfold sc64; omega)) (c2.fr d3 (by decide) (by decide)) d2 (by omega) (by omega)
      have P3 := (c2.fr d3 (by decide) (by decide)).fr e3 (by decide) (by decide)
      have l6 : l0 ≤ 6 := by have := c2.2.2.2.2.1; omega
      have R := c_rings_l (n := 1000) (x := v) (by omega) e2 (fun k => by have := oA_le (tHome T) s k 7; omega) (fun k => by have := oA_le (wTo T L G b hr) s k 7; omega) (fun k hk => pA_lt hf6 7 k hk) (sL_even hf6 ht6 7) (P3.2.2.1.trans P3.2.2.2.1) l6 1000 0 (by omega) (by omega)
      have h3 : MTx T L (uI σM 0 40 ci_0) := H.2.2.1.of (fun _ _ _ => rfl)
      obtain ⟨σ4, g1, g2, g3⟩ := m_arcs0_l (n := 1000) (x1 := nI b) (x2 := nI s) 1000 0 (uI σM 0 40 ci_0) (fun x hx => by omega) (by omega) (by omega)
      have hT4 : MTx T L (uI σ4 0 40 ci_0) := h3.of (fun a x y => g3.2.1 a (by omega))
      have hG4 : MG T 0 G (uI σ4 0 40 ci_0) := by
        show MG T 0 G σ4
        unfold MG
        rw [g3.2.1 29 (by decide)]
        exact H.2.2.2.2.1
      obtain ⟨σ5, k1, k2, k3⟩ := m_arcs_l (n := 1000) (h := hr) (by omega) H.1 H.2.2.2.2.2.1 r1 r2 hb hs a5 1000 0 (uI σ4 0 40 ci_0) hT4 hG4 rfl g2 (by omega) (by omega)
      have k2' : Ar 38 39 40 (oA (tHome T) s 7) (oA (wTo T L G b hr) s 7) (pA (wTo T L G b hr) (tHome T) s 7) σ5 := fun x hx => by
        rw [show 7 = tM T + (7 - tM T) by omega, oA_top hs, oA_top hs, pA_top hs]
        exact k2 x hx
      have l29 : σ5.2.1 29 (1 + b) = md (lI l0) := by
        rw [k3.2.1 29 (by decide)]
        show σ4.2.1 29 (1 + b) = _
        rw [g3.2.1 29 (by decide)]
        show σM.2.1 29 (1 + b) = _
        rw [← c2.2.2.2.1]
        have := (H.2.2.2.2.1.2.1 b hb).1
        rwa [show 0 + 1 + b = 1 + b by omega] at this
      have S := m_rings_l (n := 1000) (x := v) (by omega) (by omega) hv k2' (fun k => by have := oA_le (tHome T) s k 7; omega) (fun k => by have := oA_le (wTo T L G b hr) s k 7; omega) (fun k hk => pA_lt ht6 7 k hk) l29 l6 1000 0 (by omega) (by omega)
      have al := fun a b ha hb => pA_alike hf6 ht6 7 a b ha hb
      have hp6 := fun k hk => pA_lt (to := wTo T L G b hr) hf6 7 k hk
      have hq6 := fun k hk => pA_lt (to := tHome T) ht6 7 k hk
      have same : aRg v (sm (F1 (pA (wTo T L G b hr) (tHome T) s 7) (oA (tHome T) s 7)) 6) (sm (F2 (pA (wTo T L G b hr) (tHome T) s 7) (oA (tHome T) s 7) (fun k => oA (tHome T) s 7 k - oA (wTo T L G b hr) s 7 k)) 6) (sm (F3 (pA (wTo T L G b hr) (tHome T) s 7) (oA (tHome T) s 7) (fun k => oA (tHome T) s 7 k - oA (wTo T L G b hr) s 7 k)) 6) (¬ l0 = 0 ∧ ¬ sL (pA (wTo T L G b hr) (tHome T) s 7) (oA (tHome T) s 7) (pA (wTo T L G b hr) (tHome T) s 7 (l0 - 1)) = 0 ∧ (sL (pA (wTo T L G b hr) (tHome T) s 7) (fun k => oA (tHome T) s 7 k - oA (wTo T L G b hr) s 7 k) (pA (wTo T L G b hr) (tHome T) s 7 (l0 - 1)) = 0 ∨ oA (wTo T L G b hr) s 7 (l0 - 1) < oA (tHome T) s 7 (l0 - 1))) = aRg v (sm (F1 (pA (tHome T) (wTo T L G b hr) s 7) (oA (tHome T) s 7)) 6) (sm (F2 (pA (tHome T) (wTo T L G b hr) s 7) (oA (tHome T) s 7) (fun k => oA (tHome T) s 7 k - oA (wTo T L G b hr) s 7 k)) 6) (sm (F3 (pA (tHome T) (wTo T L G b hr) s 7) (oA (tHome T) s 7) (fun k => oA (tHome T) s 7 k - oA (wTo T L G b hr) s 7 k)) 6) (¬ l0 = 0 ∧ ¬ oA (tHome T) s 7 (l0 - 1) + oA (wTo T L G b hr) s 7 (l0 - 1) = 0 ∧ (sL (pA (tHome T) (wTo T L G b hr) s 7) (fun k => oA (tHome T) s 7 k - oA (wTo T L G b hr) s 7 k) (pA (tHome T) (wTo T L G b hr) s 7 (l0 - 1)) = 0 ∨ oA (wTo T L G b hr) s 7 (l0 - 1) < oA (tHome T) s 7 (l0 - 1))) := by
        refine aRg_congr (relab hq6 hp6 (fun a b ha hb => (al a b ha hb).symm) (fun l _ z => if_pos (sL_none z)) (fun l _ z => if_pos (sL_none z)) (fun y hy => ?_)) (relab hq6 hp6 (fun a b ha hb => (al a b ha hb).symm) (fun l _ z => if_pos (sL_none z)) (fun l _ z => if_pos (sL_none z)) (fun y hy => ?_)) (relab hq6 hp6 (fun a b ha hb => (al a b ha hb).symm) (fun l _ z => if_pos (sL_none z)) (fun l _ z => if_pos (sL_none z)) (fun y hy => ?_)) ?_
        · unfold F1
          rw [sL_alike al hy]
        · unfold F2
          rw [sL_alike (f := oA (tHome T) s 7) al hy, sL_alike (f := fun k => oA (tHome T) s 7 k - oA (wTo T L G b hr) s 7 k) al hy]
        · unfold F3
          rw [sL_alike (f := oA (tHome T) s 7) al hy, sL_alike (f := fun k => oA (tHome T) s 7 k - oA (wTo T L G b hr) s 7 k) al hy]
        · by_cases z : l0 = 0
          · exact ⟨fun u => absurd z u.1, fun u => absurd z u.1⟩
          · have hb2 : l0 - 1 < 6 := by omega
            rw [← sL_alike (f := oA (tHome T) s 7) al hb2, ← sL_alike (f := fun k => oA (tHome T) s 7 k - oA (wTo T L G b hr) s 7 k) al hb2]
            have key : sL (pA (tHome T) (wTo T L G b hr) s 7) (oA (tHome T) s 7) (pA (tHome T) (wTo T L G b hr) s 7 (l0 - 1)) = 0 ↔ oA (tHome T) s 7 (l0 - 1) + oA (wTo T L G b hr) s 7 (l0 - 1) = 0 := by
              have ev := sL_even hf6 ht6 7 (pA (tHome T) (wTo T L G b hr) s 7 (l0 - 1))
              constructor
              · intro u
                have a1 := sm_ge (f := fun k => if pA (tHome T) (wTo T L G b hr) s 7 k = pA (tHome T) (wTo T L G b hr) s 7 (l0 - 1) then oA (tHome T) s 7 k else 0) 6 (l0 - 1) hb2
                have a2 := sm_ge (f := fun k => if pA (tHome T) (wTo T L G b hr) s 7 k = pA (tHome T) (wTo T L G b hr) s 7 (l0 - 1) then oA (wTo T L G b hr) s 7 k else 0) 6 (l0 - 1) hb2
                have a1 : (if pA (tHome T) (wTo T L G b hr) s 7 (l0 - 1) = pA (tHome T) (wTo T L G b hr) s 7 (l0 - 1) then oA (tHome T) s 7 (l0 - 1) else 0) ≤ sL (pA (tHome T) (wTo T L G b hr) s 7) (oA (tHome T) s 7) (pA (tHome T) (wTo T L G b hr) s 7 (l0 - 1)) := a1
                have a2 : (if pA (tHome T) (wTo T L G b hr) s 7 (l0 - 1) = pA (tHome T) (wTo T L G b hr) s 7 (l0 - 1) then oA (wTo T L G b hr) s 7 (l0 - 1) else 0) ≤ sL (pA (tHome T) (wTo T L G b hr) s 7) (oA (wTo T L G b hr) s 7) (pA (tHome T) (wTo T L G b hr) s 7 (l0 - 1)) := a2
                rw [if_pos rfl] at a1 a2
                omega
              · intro u
                refine sm_zero 6 (fun k hk => ?_)
                show (if pA (tHome T) (wTo T L G b hr) s 7 k = pA (tHome T) (wTo T L G b hr) s 7 (l0 - 1) then oA (tHome T) s 7 k else 0) = 0
                split
                · rename_i w
                  by_cases t : k = l0 - 1
                  · subst t
                    omega
                  · have := oA_some hf6 ht6 7 (l0 - 1) k hb2 hk (fun q => t q.symm) w.symm
                    omega
                · rfl
            rw [key]
      have RS : ∃ res, cRows_ringsOf_b14 1000 1000 v ci_0 ci_0 ci_0 ci_0 σ3 = some (res, σ3) ∧ m_rings_b50 1000 1000 (nI b) v ci_0 ci_0 ci_0 ci_0 σ5 = some (res, σ5) := ⟨_, R, S.trans (by rw [same])⟩
      obtain ⟨res, R1, S1⟩ := RS
      refine ⟨1000, 1000, res, σ3, σ5, ?_, ?_, hrel.of (by omega) ((c3.mono sc_59).trans ((d3.trans e3).mono (fun a z => by unfold scrC; unfold sc64 at z; omega))) (frQw.trans ((frQ.ofM g3 (fun k z => z.elim) (fun a z => by unfold scrA; omega)).trans (frQw.trans (frQ.ofM k3 (fun k z => by unfold scrI; unfold sc46 at z; omega) (fun a z => by unfold scrA; unfold sc38 at z; omega)))))⟩
      · unfold cTop_rings
        rw [if_neg v1, if_pos v2, a3, ob_def, cTop_rings_b19, if_pos rfl]
        rw [show cRows_prepare 1000 (nI b) (nI s) ci_1 σC = some σ1 from c1, ob_def]
        unfold cRows_ringsOf cRows_drawArcs
        rw [show cRows_drawArcs_b2 1000 1000 ci_0 σ1 = _ from d1, show cRows_drawArcs_b37 1000 1000 ci_0 σ2 = _ from e1, ob_def]
        rw [R1, ob_def]
      · unfold m_rings
        rw [a2, ob_def, if_neg one_ne, v3, ob_def, if_neg one_ne, a4, ob_def, if_neg one_ne]
        unfold m_laysArcs
        rw [show m_laysArcs_b2 1000 1000 (nI b) (nI s) ci_0 (uI σM 0 40 ci_0) = _ from g1, show m_laysArcs_b42 1000 1000 (nI b) (nI s) ci_0 (uI σ4 0 40 ci_0) = _ from k1, ob_def]
        rw [S1]
  · refine ⟨1000, 1000, -1, σC, σM, ?_, ?_, hrel.mono (by omega)⟩
    · unfold cTop_rings cTop_rings_b9
      rcases hv with hv | hv
      · rw [if_pos hv, cTop_rings_b19, if_neg (by decide), cim1]
      · split
        · rw [cTop_rings_b19, if_neg (by decide), cim1]
        · rw [cTop_rings_b19, if_neg (by decide), cim1]
    · have v3 : ∀ σ : bS, m_isIn 1000 v ci_0 ci_2 σ = some (0, σ) := fun σ => by
        unfold m_isIn
        rcases hv with hv | hv
        · rw [if_pos (show v < ci_0 from hv)]; rfl
        · split
          · rfl
          · rw [if_pos (Int32.not_le.mp hv)]; rfl
      unfold m_rings
      rcases row_cases (n := 1000) (n1 := 1000) (by omega) (by omega) H x y with ⟨a1, a2⟩ | ⟨b, s, hb, h0, hs, rfl, rfl, a2, -⟩
      · rw [a2, ob_def, if_pos rfl, m_rings_b18, cim1]
      · rw [a2, ob_def, if_neg one_ne, v3, ob_def, if_pos rfl, m_rings_b18, cim1]
