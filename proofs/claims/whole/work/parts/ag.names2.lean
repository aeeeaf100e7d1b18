/-! NAMES -/
abbrev nmS : Type := List (List Nat × Nat × Nat)
abbrev dN : List Nat × Nat × Nat := ([], 0, 0)
def srt (k : Nat) : Nat := if k = 0 then 13 else if k = 1 then 15 else 16
def nmOk (N : nmS) : Prop := ∀ i, i < N.length → okW 27 (N.getD i dN).1 ∧ (N.getD i dN).1.length ≤ 8 ∧ (N.getD i dN).2.1 ≤ 2 ∧ (N.getD i dN).2.2 < 20
def NmC (N : nmS) (σ : bS) : Prop := σ.1 44 11 = nI N.length ∧ ∀ i, i < N.length → σ.2.2 45 i = Int64.ofNat (kR 32 (N.getD i dN).1) ∧ σ.2.1 46 i = nI (srt (N.getD i dN).2.1) ∧ σ.2.1 47 i = nI (N.getD i dN).2.2
def NmM (N : nmS) (σ : bS) : Prop := σ.1 0 31 = nI N.length ∧ ∀ i, i < N.length → σ.2.2 25 i = Int64.ofNat (kR 27 (N.getD i dN).1) ∧ σ.2.1 26 i = nI (N.getD i dN).2.1 ∧ σ.2.1 27 i = nI (N.getD i dN).2.2
/-- the first of a word and a sort, from i on -/
def fI (N : nmS) (w : List Nat) (k : Nat) : Nat → Nat → Option Nat
  | 0, _ => none
  | r + 1, i => if (N.getD i dN).1 = w ∧ (N.getD i dN).2.1 = k then some (N.getD i dN).2.2 else fI N w k r (i + 1)
def oI (o : Option Nat) : Int32 := match o with
  | none => -1
  | some x => nI x
theorem srt_inj : ∀ a b : Fin 3, srt a.val = srt b.val → a.val = b.val := by decide
theorem srt_le (k : Nat) : srt k ≤ 16 := by
  unfold srt
  split
  · omega
  split <;> omega
theorem c_name_l {n k tok : Nat} {N : nmS} {w : List Nat} {σ : bS} (hN : nmOk N) (h : NmC N σ) (h17 : N.length ≤ 17) (hw : okW 27 w) (hw8 : w.length ≤ 8) (hk : k ≤ 2) : ∀ (r i fuel : Nat), i + r = N.length → r < fuel → cReader_takeName_b36 n fuel (nI (srt k)) (Int64.ofNat (kR 32 w)) (nI tok) (nI i) σ = match fI N w k r i with
    | none => ob (cReader_note n ci_4 (nI tok) σ) fun q1 => some (ci_m1, q1)
    | some x => some (nI x, σ)
  | 0, i, 0, h1, h2 => by omega
  | 0, i, fuel + 1, h1, h2 => by
    rw [cReader_takeName_b36, show sI σ 44 11 = nI N.length from h.1, if_pos ((nI_leI (by omega) (by omega)).mpr (by omega))]
    rfl
  | r + 1, i, 0, h1, h2 => by omega
  | r + 1, i, fuel + 1, h1, h2 => by
    obtain ⟨c1, c2, c3⟩ := h.2 i (by omega)
    obtain ⟨o1, o2, o3, o4⟩ := hN i (by omega)
    have s1 := srt_le k
    have s2 := srt_le (N.getD i dN).2.1
    have ej : sJ σ 45 (nI i) = Int64.ofNat (kR 32 (N.getD i dN).1) := by
      show σ.2.2 45 (nI i).toNatClampNeg = _
      rw [nI_clamp (by omega)]
      exact c1
    have ih := c_name_l (n := n) (tok := tok) hN h h17 hw hw8 hk r (i + 1) fuel (by omega) (by omega)
    rw [cReader_takeName_b36, show sI σ 44 11 = nI N.length from h.1, if_neg (nI_ge (by omega) (by omega)), bin_nI (by omega) (by decide), ej, fI]
    by_cases z : (N.getD i dN).1 = w
    · rw [if_pos ((lg_cmp_eq _ _).mpr (by rw [z])), bin_nI (by omega) (by decide), sA_n _ _ (by omega), c2]
      by_cases y : (N.getD i dN).2.1 = k
      · rw [if_pos (by rw [y]), bin_nI (by omega) (by decide), sA_n _ _ (by omega), c3, if_pos ⟨z, y⟩]
      · rw [if_neg (fun u => y (srt_inj ⟨(N.getD i dN).2.1, by omega⟩ ⟨k, by omega⟩ (show srt (N.getD i dN).2.1 = srt k from (nI_eqI (by omega) (by omega)).mp u))), if_neg (fun u => y u.2), cReader_takeName_b76, nI_s]
        exact ih
    · rw [if_neg (fun u => z ((key_iff (Or.inl rfl) o1 hw o2 hw8).mp ((lg_cmp_eq _ _).mp u))), if_neg (fun u => z u.1), cReader_takeName_b76, nI_s]
      exact ih
/-- the reference looks from the last one on -/
theorem m_name_l {n k tok : Nat} {N : nmS} {w : List Nat} (hN : nmOk N) (h17 : N.length ≤ 17) (hw : okW 27 w) (hw8 : w.length ≤ 8) (hk : k ≤ 2) (ht : tok ≤ 2000) : ∀ (i fuel : Nat) (σ : bS), NmM N σ → σ.2.2 5 tok = Int64.ofNat (kR 27 w) → i ≤ N.length → i < fuel → σ.1 0 35 = oI (fI N w k (N.length - i) i) → ∃ σ', m_takesName_b27 n fuel (nI k) (nI tok) (nI i - ci_1) σ = (if 0 ≤ (sI σ' 0 35) then m_takesName_b86 n σ' else ob (m_tells n ci_4 (nI tok) σ') fun q1 => m_takesName_b86 n q1) ∧ σ'.1 0 35 = oI (fI N w k N.length 0) ∧ σ'.2 = σ.2 ∧ ∀ j, ¬ j = 35 → σ'.1 0 j = σ.1 0 j
  | 0, 0, σ, h, h5, h1, h2, h3 => by omega
  | 0, fuel + 1, σ, h, h5, h1, h2, h3 => by
    rw [m_takesName_b27, if_pos (show nI 0 - ci_1 < 0 by decide)]
    exact ⟨σ, rfl, h3, rfl, fun _ _ => rfl⟩
  | i + 1, 0, σ, h, h5, h1, h2, h3 => by omega
  | i + 1, fuel + 1, σ, h, h5, h1, h2, h3 => by
    obtain ⟨c1, c2, c3⟩ := h.2 i (by omega)
    obtain ⟨o1, o2, o3, o4⟩ := hN i (by omega)
    have ej : sJ σ 25 (nI i) = Int64.ofNat (kR 27 (N.getD i dN).1) := by
      show σ.2.2 25 (nI i).toNatClampNeg = _
      rw [nI_clamp (by omega)]
      exact c1
    have et : sJ σ 5 (nI tok) = Int64.ofNat (kR 27 w) := by
      show σ.2.2 5 (nI tok).toNatClampNeg = _
      rw [nI_clamp (by omega)]
      exact h5
    have e0 : nI (i + 1) - ci_1 = nI i := by
      rw [ci1_nI, nI_sub (by omega), Nat.add_sub_cancel]
    have e1 : nI i + ci_m1 = nI i - ci_1 := by
      rw [Int32.sub_eq_add_neg]
      rfl
    have ef : N.length - i = N.length - (i + 1) + 1 := by omega
    rw [m_takesName_b27, e0, if_neg (nI_pos (by omega)), bin_nI (by omega) (by decide), bin_nI (by omega) (by decide), ej, et]
    have no : ¬ ((N.getD i dN).1 = w ∧ (N.getD i dN).2.1 = k) → ∃ σ', m_takesName_b67 n (m_takesName_b27 n fuel) (nI k) (nI tok) (nI i) σ = (if 0 ≤ (sI σ' 0 35) then m_takesName_b86 n σ' else ob (m_tells n ci_4 (nI tok) σ') fun q1 => m_takesName_b86 n q1) ∧ σ'.1 0 35 = oI (fI N w k N.length 0) ∧ σ'.2 = σ.2 ∧ ∀ j, ¬ j = 35 → σ'.1 0 j = σ.1 0 j := fun u => by
      rw [m_takesName_b67, m_takesName_b70, e1]
      exact m_name_l hN h17 hw hw8 hk ht i fuel σ h h5 (by omega) (by omega) (by rw [ef, fI, if_neg u]; exact h3)
    by_cases z : (N.getD i dN).1 = w
    · rw [if_pos ((lg_cmp_eq _ _).mpr (by rw [z])), bin_nI (by omega) (by decide), sA_n _ _ (by omega), c2]
      by_cases y : (N.getD i dN).2.1 = k
      · rw [if_pos (by rw [y]), bin_nI (by omega) (by decide), sA_n _ _ (by omega), c3, m_takesName_b67, m_takesName_b70, e1]
        have hM2 : NmM N (uI σ 0 35 (nI (N.getD i dN).2.2)) := ⟨by rw [uI_1, if_neg (by decide)]; exact h.1, h.2⟩
        obtain ⟨σ', a1, a2, a3, a4⟩ := m_name_l (n := n) hN h17 hw hw8 hk ht i fuel (uI σ 0 35 (nI (N.getD i dN).2.2)) hM2 h5 (by omega) (by omega) (by rw [uI_1, if_pos ⟨rfl, rfl⟩, ef, fI, if_pos ⟨z, y⟩]; rfl)
        exact ⟨σ', a1, a2, a3, fun j hj => by rw [a4 j hj, uI_1, if_neg (fun u => hj u.2)]⟩
      · rw [if_neg (fun u => y ((nI_eqI (by omega) (by omega)).mp u))]
        exact no (fun u => y u.2)
    · rw [if_neg (fun u => z ((key_iff (Or.inr rfl) o1 hw o2 hw8).mp ((lg_cmp_eq _ _).mp u)))]
      exact no (fun u => z u.1)
