/-! the row laid is a row -/
theorem mem_rowL {M s z m : Nat} (h : m ∈ rowL M s z) : m < M ∧ s.testBit m = true := by
  unfold rowL fL at h
  rcases List.mem_append.mp h with q | q
  · obtain ⟨a, b⟩ := List.mem_filter.mp q
    unfold fB at b
    exact ⟨List.mem_range.mp a, (Bool.and_eq_true_iff.mp b).1⟩
  · obtain ⟨a, b⟩ := List.mem_filter.mp q
    unfold fB at b
    exact ⟨List.mem_range.mp a, (Bool.and_eq_true_iff.mp b).1⟩
theorem rowL_mem {M s z m : Nat} (h1 : m < M) (h2 : s.testBit m = true) : m ∈ rowL M s z := by
  unfold rowL fL
  cases e : z.testBit m
  · exact List.mem_append.mpr (Or.inl (List.mem_filter.mpr ⟨List.mem_range.mpr h1, by unfold fB; rw [h2, e]; rfl⟩))
  · exact List.mem_append.mpr (Or.inr (List.mem_filter.mpr ⟨List.mem_range.mpr h1, by unfold fB; rw [h2, e]; rfl⟩))
theorem rowL_nodup (M s z : Nat) : (rowL M s z).Pairwise (fun a b => ¬ a = b) := by
  unfold rowL fL
  refine List.pairwise_append.mpr ⟨List.Pairwise.filter _ List.nodup_range, List.Pairwise.filter _ List.nodup_range, fun a ha b hb e => ?_⟩
  subst e
  have q1 := (List.mem_filter.mp ha).2
  have q2 := (List.mem_filter.mp hb).2
  unfold fB at q1 q2
  have r1 := (Bool.and_eq_true_iff.mp q1).2
  have r2 := (Bool.and_eq_true_iff.mp q2).2
  cases e : z.testBit a
  · rw [e] at r2
    cases r2
  · rw [e] at r1
    cases r1
theorem getD_get {l : List Nat} {q : Nat} (h : q < l.length) : l.getD q 0 = l[q] := by
  simp [List.getD, h]
theorem rowL_len {M s z : Nat} (hM : M ≤ 7) : (rowL M s z).length ≤ 7 := by
  unfold rowL
  rw [List.length_append]
  have := fL_len s z M
  omega
theorem rowL_row {T : aT} {L : aL} {i b s z : Nat} {G : aG} (hI : InvT T L) (hi : InvG T i G) (hb : b < tG T) (hf : ∀ m, s.testBit m = true → m < tM T ∧ G 5 m = nI (tFoot T b)) : isRow T G b (rowL (tM T) s z).length (fun q => (rowL (tM T) s z).getD q 0) := by
  have hB := hI.1
  have hft := hI.2.2.2.2.1 b hb
  constructor
  · intro q hq
    have hm := mem_rowL (List.getElem_mem hq)
    show (rowL (tM T) s z).getD q 0 < tM T ∧ G 5 ((rowL (tM T) s z).getD q 0) = nI (tFoot T b) ∧ G 6 ((rowL (tM T) s z).getD q 0) = -1
    rw [getD_get hq]
    have h5 := (hf _ hm.2).2
    refine ⟨hm.1, h5, ?_⟩
    rcases hi.2.2 _ hm.1 with ⟨a, -⟩ | ⟨a, -⟩
    · exact a
    · exact absurd (h5.symm.trans a) (nI_m1 (by omega))
  · intro p q hpq hq
    show ¬ (rowL (tM T) s z).getD p 0 = (rowL (tM T) s z).getD q 0
    rw [getD_get (show p < _ by omega), getD_get hq]
    exact List.pairwise_iff_getElem.mp (rowL_nodup (tM T) s z) p q (by omega) hq hpq
/-! bits put in and asked -/
theorem bits_is (P : Nat → Prop) [DecidablePred P] {j : Nat} (hj : j < 7) : ((bitsOf P 7 >>> (nI j &&& 31)) &&& ci_1) = ci_1 ↔ P j := by
  have hl := bn_lt P 7
  rw [bits_bn P 7 (by omega), bit_eq (by omega) (by omega), ← bn_bit P 7 hj]
  cases (bn P 7).testBit j
  · constructor
    · intro z
      exact absurd z (by decide)
    · intro z
      cases z
  · constructor
    · intro _
      rfl
    · intro _
      decide
theorem bn_testBit (P : Nat → Prop) [DecidablePred P] {n m : Nat} (h : n ≤ m) : (bn P n).testBit m = false := Nat.testBit_lt_two_pow (Nat.lt_of_lt_of_le (bn_lt P n) (Nat.pow_le_pow_right (by decide) h))
theorem bits_put (P : Nat → Prop) [DecidablePred P] {m : Nat} (hm : m < 7) : (bitsOf P 7 ||| (ci_1 <<< (nI m &&& 31))) = bitsOf (fun j => P j ∨ j = m) 7 := by
  rw [bits_bn P 7 (by omega), bits_bn (fun j => P j ∨ j = m) 7 (by omega), ci1_1, one_shl (by omega), nI_or]
  congr 1
  apply Nat.eq_of_testBit_eq
  intro j
  rw [Nat.testBit_or, Nat.testBit_two_pow]
  by_cases hj : j < 7
  · apply Bool.eq_iff_iff.mpr
    rw [Bool.or_eq_true, bn_bit P 7 hj, bn_bit (fun j => P j ∨ j = m) 7 hj]
    simp only [decide_eq_true_eq]
    constructor
    · rintro (a | a)
      · exact Or.inl a
      · exact Or.inr a.symm
    · rintro (a | a)
      · exact Or.inl a
      · exact Or.inr a.symm
  · rw [bn_testBit P (by omega), bn_testBit _ (by omega)]
    simp
    omega
/-! the class's game: all that are ON come to LAST -/
theorem g_land_l {T : aT} {L : aL} {n : Nat} {x : Int32} {P Q : Nat → Prop} [DecidablePred P] [DecidablePred Q] (hI : InvT T L) (hP : ∀ m, P m → m < tM T) : ∀ (k j : Nat) (σ : bS), CT T L σ → σ.1 68 4 = bitsOf P 7 → σ.1 68 5 = bitsOf (fun m => Q m ∨ (m < j ∧ P m ∧ nI (tHome T m) = x)) 7 → j ≤ 7 → 7 < j + k → ∃ σ', cGame_landAllAt_b2 n k x (nI j) σ = some σ' ∧ σ'.1 68 4 = nI 0 ∧ σ'.1 68 5 = bitsOf (fun m => Q m ∨ (P m ∧ nI (tHome T m) = x)) 7 ∧ frC (fun a => a = 68) σ σ'
  | 0, j, σ, hT, h4, h5, h1, h2 => by omega
  | k + 1, j, σ, hT, h4, h5, h1, h2 => by
    have e4 : sI σ 68 4 = bitsOf P 7 := h4
    have e5 : sI σ 68 5 = bitsOf (fun m => Q m ∨ (m < j ∧ P m ∧ nI (tHome T m) = x)) 7 := h5
    rw [cGame_landAllAt_b2, cb7_nI]
    by_cases hj : j < 7
    · rw [if_neg (nI_ge hj (by omega)), e4]
      by_cases p : P j
      · have q6 : sA σ 6 (nI j) = nI (tHome T j) := (sA_n _ _ (by omega)).trans (hT.2.2.2.1 j (hP j p))
        rw [if_pos ((bits_is P hj).mpr p)]
        unfold cRows_homeOf
        rw [bin_nI hj (by decide), q6, ob_def]
        by_cases y : nI (tHome T j) = x
        · rw [if_pos y]
          simp only [e5]
          rw [bits_put _ hj, cGame_landAllAt_b44, show (nI j + ci_1 : Int32) = nI (j + 1) from nI_add j 1]
          have f : frC (fun a => a = 68) σ (uI σ 68 5 (bitsOf (fun i => (Q i ∨ (i < j ∧ P i ∧ nI (tHome T i) = x)) ∨ i = j) 7)) := frC.uI rfl
          obtain ⟨σ2, c1, c2, c3, c4⟩ := g_land_l (n := n) (Q := Q) hI hP k (j + 1) (uI σ 68 5 (bitsOf (fun i => (Q i ∨ (i < j ∧ P i ∧ nI (tHome T i) = x)) ∨ i = j) 7)) (hT.fr f (fun a x y => by omega)) (by rw [uI_1, if_neg (by decide)]; exact h4) (by
            rw [uI_1, if_pos ⟨rfl, rfl⟩]
            apply bitsOf_congr
            intro m hm
            constructor
            · rintro ((a | ⟨a, b, c⟩) | a)
              · exact Or.inl a
              · exact Or.inr ⟨by omega, b, c⟩
              · subst a
                exact Or.inr ⟨by omega, p, y⟩
            · rintro (a | ⟨a, b, c⟩)
              · exact Or.inl (Or.inl a)
              · by_cases q : m = j
                · exact Or.inr q
                · exact Or.inl (Or.inr ⟨by omega, b, c⟩)) hj (by omega)
          exact ⟨σ2, c1, c2, c3, f.trans c4⟩
        · rw [if_neg y, cGame_landAllAt_b44, show (nI j + ci_1 : Int32) = nI (j + 1) from nI_add j 1]
          exact g_land_l hI hP k (j + 1) σ hT h4 (by
            rw [h5]
            apply bitsOf_congr
            intro m hm
            constructor
            · rintro (a | ⟨a, b, c⟩)
              · exact Or.inl a
              · exact Or.inr ⟨by omega, b, c⟩
            · rintro (a | ⟨a, b, c⟩)
              · exact Or.inl a
              · by_cases q : m = j
                · subst q
                  exact absurd c y
                · exact Or.inr ⟨by omega, b, c⟩) hj (by omega)
      · rw [if_neg (fun z => p ((bits_is P hj).mp z)), cGame_landAllAt_b44, show (nI j + ci_1 : Int32) = nI (j + 1) from nI_add j 1]
        exact g_land_l hI hP k (j + 1) σ hT h4 (by
          rw [h5]
          apply bitsOf_congr
          intro m hm
          constructor
          · rintro (a | ⟨a, b, c⟩)
            · exact Or.inl a
            · exact Or.inr ⟨by omega, b, c⟩
          · rintro (a | ⟨a, b, c⟩)
            · exact Or.inl a
            · by_cases q : m = j
              · subst q
                exact absurd b p
              · exact Or.inr ⟨by omega, b, c⟩) hj (by omega)
    · have e : j = 7 := by omega
      subst e
      rw [if_pos (Int32.le_refl _)]
      refine ⟨_, rfl, ?_, ?_, frC.uI rfl⟩
      · rw [uI_1, if_pos ⟨rfl, rfl⟩]
        rfl
      · rw [uI_1, if_neg (by decide), h5]
        apply bitsOf_congr
        intro m hm
        constructor
        · rintro (a | ⟨a, b, c⟩)
          · exact Or.inl a
          · exact Or.inr ⟨b, c⟩
        · rintro (a | ⟨b, c⟩)
          · exact Or.inl a
          · exact Or.inr ⟨hm, b, c⟩
