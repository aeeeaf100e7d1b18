/-! a new NAME: the class -/
def hsI (N : nmS) (w : List Nat) : Nat → Nat → Bool
  | 0, _ => false
  | r + 1, i => if (N.getD i dN).1 = w then true else hsI N w r (i + 1)
theorem ntd_ntd (U : Option (Nat × Nat)) (f j : Nat) : ntd (ntd U f j) f j = ntd U f j := by
  cases U with
  | none => rfl
  | some q => rfl
theorem okU.ntd {nx f j : Nat} {U : Option (Nat × Nat)} (h : okU nx U) (h3 : 3 ≤ f) (h5 : f ≤ 5) (hj : j < nx) : okU nx (ntd U f j) := by
  cases U with
  | none =>
    intro f0 j0 e
    have e := Option.some.inj e
    have e1 : f = f0 := congrArg Prod.fst e
    have e2 : j = j0 := congrArg Prod.snd e
    omega
  | some q => exact h
theorem okU.le {nx nx' : Nat} {U : Option (Nat × Nat)} (h : okU nx U) (le : nx ≤ nx') : okU nx' U := fun f j e => by
  have := h f j e
  omega
theorem NmC.of67 {N : nmS} {σ σ' : bS} (h : NmC N σ) (f : fr67 σ σ') : NmC N σ' := ⟨(f.2.2 11 (by decide)).trans h.1, fun i hi => by rw [f.1]; exact h.2 i hi⟩
theorem TC.of67 {s : tS} {σ σ' : bS} (h : TC s σ) (f : fr67 σ σ') : TC s σ' := fun j h1 h2 => by rw [f.1]; exact h j h1 h2
theorem fr67.trans {σ σ1 σ2 : bS} (h : fr67 σ σ1) (g : fr67 σ1 σ2) : fr67 σ σ2 := ⟨g.1.trans h.1, fun a ha => (g.2.1 a ha).trans (h.2.1 a ha), fun k hk => (g.2.2 k hk).trans (h.2.2 k hk)⟩
def pN (σ : bS) (c : Nat) (key : Int64) (so nu : Int32) : bS := uI (uA (uA (uJ σ 45 (nI c) key) 46 (nI c) so) 47 (nI c) nu) 44 11 (nI (c + 1))
theorem c_push {n fuel c : Nat} {x y z t : Int32} {key : Int64} {σ : bS} (h : σ.1 44 11 = nI c) (hc : c < 17) (hz : z = nI c) : cReader_takeNewName_b35 n (fuel + 1) x y key t z σ = some (pN σ c key x y) := by
  have e1 : ∀ i w, sI (uJ σ 45 i w) 44 11 = nI c := fun _ _ => h
  have e2 : ∀ i w i2 w2, sI (uA (uJ σ 45 i w) 46 i2 w2) 44 11 = nI c := fun _ _ _ _ => h
  have e3 : ∀ i w i2 w2 i3 w3, sI (uA (uA (uJ σ 45 i w) 46 i2 w2) 47 i3 w3) 44 11 = nI c := fun _ _ _ _ _ _ => h
  rw [cReader_takeNewName_b35, e3, e2, e1, show sI σ 44 11 = nI c from h, hz, if_pos (Int32.le_refl _), show cn_17 = nI 17 by decide, if_neg (nI_ge hc (by omega)), bin_nI hc (by decide), bin_nI hc (by decide), bin_nI hc (by decide), cReader_takeNewName_b121, nI_s]
  rfl
theorem pN_is {N : nmS} {w : List Nat} {k nu : Nat} {σ : bS} (h : NmC N σ) (hc : N.length < 17) : NmC (N ++ [(w, k, nu)]) (pN σ N.length (Int64.ofNat (kR 32 w)) (nI (srt k)) (nI nu)) := by
  have r1 : ∀ i, (pN σ N.length (Int64.ofNat (kR 32 w)) (nI (srt k)) (nI nu)).2.2 45 i = if i = N.length then Int64.ofNat (kR 32 w) else σ.2.2 45 i := fun i => by
    show (uJ σ 45 (nI N.length) (Int64.ofNat (kR 32 w))).2.2 45 i = _
    rw [uJ_3, nI_clamp (by omega)]
    simp
  have r2 : ∀ i, (pN σ N.length (Int64.ofNat (kR 32 w)) (nI (srt k)) (nI nu)).2.1 46 i = if i = N.length then nI (srt k) else σ.2.1 46 i := fun i => by
    unfold pN
    rw [uI_2, uA_o _ _ _ _ (by decide), uA_2, nI_clamp (by omega)]
    simp only [true_and]
    rfl
  have r3 : ∀ i, (pN σ N.length (Int64.ofNat (kR 32 w)) (nI (srt k)) (nI nu)).2.1 47 i = if i = N.length then nI nu else σ.2.1 47 i := fun i => by
    unfold pN
    rw [uI_2, uA_2, nI_clamp (by omega), uA_o _ _ _ _ (by decide)]
    simp only [true_and]
    rfl
  refine ⟨?_, fun i hi => ?_⟩
  · unfold pN
    rw [uI_1, if_pos ⟨rfl, rfl⟩, List.length_append, List.length_singleton]
  · rw [List.length_append, List.length_singleton] at hi
    rw [r1, r2, r3, List.getD_eq_getElem?_getD]
    by_cases z : i = N.length
    · subst z
      rw [if_pos rfl, if_pos rfl, if_pos rfl, List.getElem?_append_right (Nat.le_refl _), Nat.sub_self]
      exact ⟨rfl, rfl, rfl⟩
    · rw [if_neg z, if_neg z, if_neg z, List.getElem?_append_left (by omega), ← List.getD_eq_getElem?_getD]
      exact h.2 i (by omega)
theorem c_new_l {s : tS} {n k nu tok nx : Nat} {N : nmS} {w : List Nat} (hN : nmOk N) (h17 : N.length < 17) (hw : okW 27 w) (hw8 : w.length ≤ 8) (ht : tok ≤ 400) (ht2 : tok ≤ tcE s) (htn : tok < nx) : ∀ (r i fuel : Nat) (U : Option (Nat × Nat)) (σ : bS), i + r = N.length → r < fuel → NmC N σ → TC s σ → okU nx U → UnC s U σ → ∃ σ', cReader_takeNewName_b35 n fuel (nI (srt k)) (nI nu) (Int64.ofNat (kR 32 w)) (nI tok) (nI i) σ = some (pN σ' N.length (Int64.ofNat (kR 32 w)) (nI (srt k)) (nI nu)) ∧ NmC N σ' ∧ UnC s (if hsI N w r i = true then ntd U 3 tok else U) σ' ∧ fr67 σ σ'
  | 0, i, 0, U, σ, h1, h2, h, hC, hU, hc => by omega
  | 0, i, fuel + 1, U, σ, h1, h2, h, hC, hU, hc => by
    rw [c_push h.1 h17 (by rw [show i = N.length by omega])]
    exact ⟨σ, rfl, h, hc, fr67.rf⟩
  | r + 1, i, 0, U, σ, h1, h2, h, hC, hU, hc => by omega
  | r + 1, i, fuel + 1, U, σ, h1, h2, h, hC, hU, hc => by
    obtain ⟨c1, c2, c3⟩ := h.2 i (by omega)
    obtain ⟨o1, o2, o3, o4⟩ := hN i (by omega)
    have ej : sJ σ 45 (nI i) = Int64.ofNat (kR 32 (N.getD i dN).1) := by
      show σ.2.2 45 (nI i).toNatClampNeg = _
      rw [nI_clamp (by omega)]
      exact c1
    rw [cReader_takeNewName_b35, show sI σ 44 11 = nI N.length from h.1, if_neg (nI_ge (by omega) (by omega)), bin_nI (by omega) (by decide), ej, hsI]
    by_cases z : (N.getD i dN).1 = w
    · rw [if_pos ((lg_cmp_eq _ _).mpr (by rw [z])), if_pos z]
      obtain ⟨σ1, a1, a2, a3⟩ := c_note (n := n) (f := 3) (j := tok) (x := ci_3) (by decide) hU hc hC ht ht2
      rw [a1, ob_def, cReader_takeNewName_b63, nI_s]
      obtain ⟨σ2, b1, b2, b3, b4⟩ := c_new_l (n := n) (k := k) (nu := nu) hN h17 hw hw8 ht ht2 htn r (i + 1) fuel (ntd U 3 tok) σ1 (by omega) (by omega) (h.of67 a3) (hC.of67 a3) (hU.ntd (by omega) (by omega) htn) a2
      refine ⟨σ2, b1, b2, ?_, a3.trans b4⟩
      rw [ntd_ntd] at b3
      rw [if_pos rfl]
      split at b3
      · exact b3
      · exact b3
    · rw [if_neg (fun u => z ((key_iff (Or.inl rfl) o1 hw o2 hw8).mp ((lg_cmp_eq _ _).mp u))), if_neg z, cReader_takeNewName_b63, nI_s]
      exact c_new_l hN h17 hw hw8 ht ht2 htn r (i + 1) fuel U σ (by omega) (by omega) h hC hU hc
