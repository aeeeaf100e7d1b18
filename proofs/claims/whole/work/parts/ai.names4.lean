/-! a new NAME: the reference -/
def pNm (σ : bS) (c : Nat) (key : Int64) (so nu : Int32) : bS := uI (uA (uA (uJ σ 25 (nI c) key) 26 (nI c) so) 27 (nI c) nu) 0 31 (nI (c + 1))
theorem m_push {n fuel c tok : Nat} {x y z : Int32} {key : Int64} {σ : bS} (h : σ.1 0 31 = nI c) (hc : c < 20) (hz : z = nI c) (ht : tok ≤ 2000) (h5 : σ.2.2 5 tok = key) : m_names_b18 n (fuel + 1) x y (nI tok) z σ = some (1, pNm σ c key x y) := by
  have e1 : ∀ i w, sI (uJ σ 25 i w) 0 31 = nI c := fun _ _ => h
  have e2 : ∀ i w i2 w2, sI (uA (uJ σ 25 i w) 26 i2 w2) 0 31 = nI c := fun _ _ _ _ => h
  have e3 : ∀ i w i2 w2 i3 w3, sI (uA (uA (uJ σ 25 i w) 26 i2 w2) 27 i3 w3) 0 31 = nI c := fun _ _ _ _ _ _ => h
  have et : sJ σ 5 (nI tok) = key := by
    show σ.2.2 5 (nI tok).toNatClampNeg = _
    rw [nI_clamp (by omega)]
    exact h5
  rw [m_names_b18, e3, e2, e1, show sI σ 0 31 = nI c from h, hz, if_pos (Int32.le_refl _), bin_nI (by omega) (by decide), bin_nI hc (by decide), bin_nI hc (by decide), bin_nI hc (by decide), nI_s, et]
  rfl
theorem pNm_is {N : nmS} {w : List Nat} {k nu : Nat} {σ : bS} (h : NmM N σ) (hc : N.length < 20) : NmM (N ++ [(w, k, nu)]) (pNm σ N.length (Int64.ofNat (kR 27 w)) (nI k) (nI nu)) := by
  have r1 : ∀ i, (pNm σ N.length (Int64.ofNat (kR 27 w)) (nI k) (nI nu)).2.2 25 i = if i = N.length then Int64.ofNat (kR 27 w) else σ.2.2 25 i := fun i => by
    show (uJ σ 25 (nI N.length) (Int64.ofNat (kR 27 w))).2.2 25 i = _
    rw [uJ_3, nI_clamp (by omega)]
    simp
  have r2 : ∀ i, (pNm σ N.length (Int64.ofNat (kR 27 w)) (nI k) (nI nu)).2.1 26 i = if i = N.length then nI k else σ.2.1 26 i := fun i => by
    unfold pNm
    rw [uI_2, uA_o _ _ _ _ (by decide), uA_2, nI_clamp (by omega)]
    simp only [true_and]
    rfl
  have r3 : ∀ i, (pNm σ N.length (Int64.ofNat (kR 27 w)) (nI k) (nI nu)).2.1 27 i = if i = N.length then nI nu else σ.2.1 27 i := fun i => by
    unfold pNm
    rw [uI_2, uA_2, nI_clamp (by omega), uA_o _ _ _ _ (by decide)]
    simp only [true_and]
    rfl
  refine ⟨?_, fun i hi => ?_⟩
  · unfold pNm
    rw [uI_1, if_pos ⟨rfl, rfl⟩, List.length_append, List.length_singleton]
  · rw [List.length_append, List.length_singleton] at hi
    rw [r1, r2, r3, List.getD_eq_getElem?_getD]
    by_cases z : i = N.length
    · subst z
      rw [if_pos rfl, if_pos rfl, if_pos rfl, List.getElem?_append_right (Nat.le_refl _), Nat.sub_self]
      exact ⟨rfl, rfl, rfl⟩
    · rw [if_neg z, if_neg z, if_neg z, List.getElem?_append_left (by omega), ← List.getD_eq_getElem?_getD]
      exact h.2 i (by omega)
theorem frU.rf {σ : bS} : frU σ σ := ⟨rfl, fun _ _ => rfl⟩
theorem frU.trans {σ σ1 σ2 : bS} (h : frU σ σ1) (g : frU σ1 σ2) : frU σ σ2 := ⟨g.1.trans h.1, fun k hk => (g.2 k hk).trans (h.2 k hk)⟩
theorem NmM.ofU {N : nmS} {σ σ' : bS} (h : NmM N σ) (f : frU σ σ') : NmM N σ' := ⟨(f.2 31 (by decide)).trans h.1, fun i hi => by rw [f.1]; exact h.2 i hi⟩
theorem TMs.ofU {s : tS} {σ σ' : bS} (h : TMs s σ) (f : frU σ σ') : TMs s σ' := fun j hj => by rw [f.1]; exact h j hj
theorem m_new_l {s : tS} {n k nu tok nx : Nat} {N : nmS} {w : List Nat} (hT : okT s) (hN : nmOk N) (h17 : N.length < 17) (hw : okW 27 w) (hw8 : w.length ≤ 8) (ht : tok ≤ 2000) (ht2 : tok ≤ tcE s) (htn : tok < nx) : ∀ (r i fuel : Nat) (U : Option (Nat × Nat)) (σ : bS), i + r = N.length → r < fuel → NmM N σ → TMs s σ → σ.2.2 5 tok = Int64.ofNat (kR 27 w) → okU nx U → UnM s U σ → (∀ f0 j0, U = some (f0, j0) → j0 < tok ∨ (j0 = tok ∧ f0 = 3)) → ∃ σ', m_names_b18 n fuel (nI k) (nI nu) (nI tok) (nI i) σ = some (1, pNm σ' N.length (Int64.ofNat (kR 27 w)) (nI k) (nI nu)) ∧ NmM N σ' ∧ UnM s (if hsI N w r i = true then ntd U 3 tok else U) σ' ∧ frU σ σ'
  | 0, i, 0, U, σ, h1, h2, h, hC, h5, hU, hc, hl => by omega
  | 0, i, fuel + 1, U, σ, h1, h2, h, hC, h5, hU, hc, hl => by
    rw [m_push h.1 (by omega) (by rw [show i = N.length by omega]) ht h5]
    exact ⟨σ, rfl, h, hc, frU.rf⟩
  | r + 1, i, 0, U, σ, h1, h2, h, hC, h5, hU, hc, hl => by omega
  | r + 1, i, fuel + 1, U, σ, h1, h2, h, hC, h5, hU, hc, hl => by
    obtain ⟨c1, c2, c3⟩ := h.2 i (by omega)
    obtain ⟨o1, o2, o3, o4⟩ := hN i (by omega)
    have ej : sJ σ 25 (nI i) = Int64.ofNat (kR 27 (N.getD i dN).1) := by
      show σ.2.2 25 (nI i).toNatClampNeg = _
      rw [nI_clamp (by omega)]
      exact c1
    have et : sJ σ 5 (nI tok) = Int64.ofNat (kR 27 w) := by
      show σ.2.2 5 (nI tok).toNatClampNeg = _
      rw [nI_clamp (by omega)]
      exact h5
    rw [m_names_b18, show sI σ 0 31 = nI N.length from h.1, if_neg (nI_ge (by omega) (by omega)), bin_nI (by omega) (by decide), bin_nI (by omega) (by decide), ej, et, hsI]
    by_cases z : (N.getD i dN).1 = w
    · rw [if_pos ((lg_cmp_eq _ _).mpr (by rw [z])), if_pos z]
      obtain ⟨σ1, a1, a2, a3⟩ := m_tell (n := n) (f := 3) (j := tok) (x := ci_3) hT (by decide) (by omega) hU hc hC ht2 hl
      rw [a1, ob_def, m_names_b50, nI_s]
      obtain ⟨σ2, b1, b2, b3, b4⟩ := m_new_l (n := n) (k := k) (nu := nu) hT hN h17 hw hw8 ht ht2 htn r (i + 1) fuel (ntd U 3 tok) σ1 (by omega) (by omega) (h.ofU a3) (hC.ofU a3) (by rw [a3.1]; exact h5) (hU.ntd (by omega) (by omega) htn) a2 (fun f0 j0 e => by
        cases U with
        | none =>
          have e := Option.some.inj e
          have e1 : 3 = f0 := congrArg Prod.fst e
          have e2 : tok = j0 := congrArg Prod.snd e
          exact Or.inr ⟨e2.symm, e1.symm⟩
        | some q => exact hl f0 j0 e)
      refine ⟨σ2, b1, b2, ?_, a3.trans b4⟩
      rw [ntd_ntd] at b3
      rw [if_pos rfl]
      split at b3
      · exact b3
      · exact b3
    · rw [if_neg (fun u => z ((key_iff (Or.inr rfl) o1 hw o2 hw8).mp ((lg_cmp_eq _ _).mp u))), if_neg z, m_names_b50, nI_s]
      exact m_new_l hT hN h17 hw hw8 ht ht2 htn r (i + 1) fuel U σ (by omega) (by omega) h hC h5 hU hc hl
