def wrgU (U : Option (Nat × Nat)) (lo hi v j : Nat) : Option (Nat × Nat) := if v < lo ∨ hi < v then ntd U 5 j else U
theorem c_intE {s : tS} {n nx lo hi ll : Nat} {U : Option (Nat × Nat)} {x y : Int32} {σ : bS} (hT : okT s) (hP : CP s nx σ) (hx : x = nI lo) (hy : y = nI hi) (hlo : lo ≤ 9999) (hhi : hi ≤ 9999) (hU : okU nx U) (hc : UnC s U σ) (hl : σ.1 23 3 = nI ll) (hl2 : ll ≤ 402) : (tkF s 3 nx = 0 ∧ ∃ σ', cReader_takeInt n x y σ = some (nI (tvl s nx), σ') ∧ CP s (nx + 1) σ' ∧ UnC s (wrgU U lo hi (tvl s nx) nx) σ' ∧ frN σ σ' ∧ σ'.2 = σ.2 ∧ σ'.1 44 11 = σ.1 44 11) ∨ (¬ tkF s 3 nx = 0 ∧ ∃ σ', cReader_takeInt n x y σ = some (nI lo, σ') ∧ CD s (tkF s 3 nx) (tpl s nx) σ' ∧ frZ σ σ') := by
  have nx4 := hP.1.2.2.1
  have e4 : sI σ 44 4 = nI nx := hP.1.2.1
  unfold cReader_takeInt
  rw [e4, bin_nI (by omega) (by decide)]
  rcases c_tkF (n := n) (x := ci_3) (k := 3) hT (by decide) (by omega) (by omega) hP hl hl2 with ⟨t0, t1, t2⟩ | ⟨t0, σ', t1, t2, t3⟩
  · left
    obtain ⟨z, _⟩ := tkF_0 t0
    have v9 := hT.2.2.2.2.2.2.1 nx z
    have ev : (sJ σ 52 (nI nx)).toInt32 = nI (tvl s nx) := by
      show (σ.2.2 52 (nI nx).toNatClampNeg).toInt32 = _
      rw [nI_clamp (by omega), (hP.1.1 nx nx4 hP.1.2.2.2).2.2.2 z, Int32.toInt32_toInt64]
    have hc1 : UnC s U (uI σ 44 4 (nI (nx + 1))) := hc.of (by rw [uI_1, if_neg (by decide)]) (by rw [uI_1, if_neg (by decide)])
    have e5 : sI (uI σ 44 4 (nI (nx + 1))) 44 5 = 0 := t2.2
    have e11 : (uI σ 44 4 (nI (nx + 1))).1 44 11 = σ.1 44 11 := by rw [uI_1, if_neg (by decide)]
    refine ⟨t0, ?_⟩
    rw [t1, ob_def, if_pos e5, ev, hx, hy]
    have wr : (tvl s nx < lo ∨ hi < tvl s nx) → ∃ σ', cReader_takeInt_b44 n (nI (tvl s nx)) (nI nx) (uI σ 44 4 (nI (nx + 1))) = some (nI (tvl s nx), σ') ∧ CP s (nx + 1) σ' ∧ UnC s (wrgU U lo hi (tvl s nx) nx) σ' ∧ frN σ σ' ∧ σ'.2 = σ.2 ∧ σ'.1 44 11 = σ.1 44 11 := fun u => by
      obtain ⟨σ2, b1, b2, b3⟩ := c_note (n := n) (f := 5) (j := nx) (x := ci_5) (by decide) hU hc1 t2.1.1 nx4 hP.1.2.2.2
      rw [cReader_takeInt_b44, b1, ob_def, cReader_takeInt_b51]
      refine ⟨σ2, rfl, t2.of67 b3, ?_, (frN.u44 (by decide)).trans (frN.of67 b3), b3.1, (b3.2.2 11 (by decide)).trans e11⟩
      unfold wrgU
      rw [if_pos u]
      exact b2
    by_cases w : tvl s nx < lo
    · rw [if_pos ((nI_ltI (by omega) (by omega)).mpr w)]
      exact wr (Or.inl w)
    · rw [if_neg (fun u => w ((nI_ltI (by omega) (by omega)).mp u))]
      by_cases q : tvl s nx ≤ hi
      · rw [if_pos ((nI_leI (by omega) (by omega)).mpr q), cReader_takeInt_b51]
        refine ⟨_, rfl, t2, ?_, frN.u44 (by decide), rfl, e11⟩
        unfold wrgU
        rw [if_neg (by omega)]
        exact hc1
      · rw [if_neg (fun u => q ((nI_leI (by omega) (by omega)).mp u))]
        exact wr (Or.inr (by omega))
  · right
    rw [t1, ob_def, if_neg t2.ne, hx]
    exact ⟨t0, σ', rfl, t2, t3⟩
theorem m_intE {s : tS} {n nx lo hi : Nat} {U : Option (Nat × Nat)} {x y : Int32} {σ : bS} (hT : okT s) (hP : MP s nx σ) (hx : x = nI lo) (hy : y = nI hi) (hlo : lo ≤ 9999) (hhi : hi ≤ 9999) (hU : okU nx U) (hc : UnM s U σ) : (tkF s 3 nx = 0 ∧ ∃ σ', m_takesInt n x y σ = some (1, σ') ∧ MP s (nx + 1) σ' ∧ UnM s (wrgU U lo hi (tvl s nx) nx) σ' ∧ σ'.1 0 35 = nI (tvl s nx) ∧ frV σ σ') ∨ (¬ tkF s 3 nx = 0 ∧ ∃ σ', m_takesInt n x y σ = some (0, σ') ∧ MF (tkF s 3 nx) (tpl s nx) σ' ∧ frV σ σ') := by
  have nx4 := hP.2.2.1
  have e7 : sI σ 0 7 = nI nx := hP.2.1
  unfold m_takesInt
  rw [e7]
  rcases m_takesE (n := n) (x := ci_1) (k := 3) (m := 1) hT hP (by decide) (Or.inr ⟨rfl, rfl⟩) with ⟨t0, t1, t2⟩ | ⟨t0, σ', t1, t2, t3, t4⟩
  · left
    obtain ⟨z, _⟩ := tkF_0 t0
    have v9 := hT.2.2.2.2.2.2.1 nx z
    have ev : sA (uI σ 0 7 (nI (nx + 1))) 4 (nI nx) = nI (tvl s nx) := by
      rw [sA_n _ _ (by omega)]
      exact (hP.1 nx hP.2.2.2).2.2.2.1 z
    have f1 : frV σ (uI (uI σ 0 7 (nI (nx + 1))) 0 35 (nI (tvl s nx))) := (frV.uI (by decide)).trans (frV.uI (by decide))
    have hP1 : MP s (nx + 1) (uI (uI σ 0 7 (nI (nx + 1))) 0 35 (nI (tvl s nx))) := t2.of rfl (by rw [uI_1, if_neg (by decide)])
    have hc1 : UnM s U (uI (uI σ 0 7 (nI (nx + 1))) 0 35 (nI (tvl s nx))) := hc.of (by rw [uI_1, if_neg (by decide), uI_1, if_neg (by decide)]) (by rw [uI_1, if_neg (by decide), uI_1, if_neg (by decide)])
    have e35 : sI (uI (uI σ 0 7 (nI (nx + 1))) 0 35 (nI (tvl s nx))) 0 35 = nI (tvl s nx) := by
      show (uI (uI σ 0 7 (nI (nx + 1))) 0 35 (nI (tvl s nx))).1 0 35 = _
      rw [uI_1, if_pos ⟨rfl, rfl⟩]
    refine ⟨t0, ?_⟩
    rw [t1, ob_def, if_neg one_ne, bin_nI (by omega) (by decide), ev, hx, hy, e35]
    have wr : (tvl s nx < lo ∨ hi < tvl s nx) → ∃ σ', m_takesInt_b41 n (nI nx) (uI (uI σ 0 7 (nI (nx + 1))) 0 35 (nI (tvl s nx))) = some (1, σ') ∧ MP s (nx + 1) σ' ∧ UnM s (wrgU U lo hi (tvl s nx) nx) σ' ∧ σ'.1 0 35 = nI (tvl s nx) ∧ frV σ σ' := fun u => by
      obtain ⟨σ3, c1, c2, c3⟩ := m_tell (n := n) (f := 5) (j := nx) (x := ci_5) hT (by decide) (by omega) hU hc1 hP1.1 hP.2.2.2 (fun f0 j0 e => Or.inl (hU f0 j0 e).2.2)
      rw [m_takesInt_b41, c1, ob_def]
      refine ⟨σ3, rfl, hP1.of c3.1 (c3.2 7 (by decide)), ?_, (c3.2 35 (by decide)).trans e35, f1.trans (frV.ofU c3)⟩
      unfold wrgU
      rw [if_pos u]
      exact c2
    by_cases w : tvl s nx < lo
    · rw [if_pos ((nI_ltI (by omega) (by omega)).mpr w)]
      exact wr (Or.inl w)
    · rw [if_neg (fun u => w ((nI_ltI (by omega) (by omega)).mp u))]
      by_cases q : tvl s nx ≤ hi
      · rw [if_pos ((nI_leI (by omega) (by omega)).mpr q)]
        refine ⟨_, rfl, hP1, ?_, e35, f1⟩
        unfold wrgU
        rw [if_neg (by omega)]
        exact hc1
      · rw [if_neg (fun u => q ((nI_leI (by omega) (by omega)).mp u))]
        exact wr (Or.inr (by omega))
  · right
    rw [t1, ob_def, if_pos rfl]
    exact ⟨t0, σ', rfl, t2, frV.ofE t3 t4⟩
