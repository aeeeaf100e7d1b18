theorem fI_lt {N : nmS} {w : List Nat} {k : Nat} (hN : nmOk N) : ∀ (r i x : Nat), i + r = N.length → fI N w k r i = some x → x < 20
  | 0, i, x, h, e => by cases e
  | r + 1, i, x, h, e => by
    rw [fI] at e
    by_cases z : (N.getD i dN).1 = w ∧ (N.getD i dN).2.1 = k
    · rw [if_pos z] at e
      have := (hN i (by omega)).2.2.2
      have := Option.some.inj e
      omega
    · rw [if_neg z] at e
      exact fI_lt hN r (i + 1) x (by omega) e
def frV (σ σ' : bS) : Prop := σ'.2 = σ.2 ∧ ∀ k, ¬ (k = 7 ∨ k = 8 ∨ k = 9 ∨ k = 10 ∨ k = 11 ∨ k = 35 ∨ k = 36 ∨ k = 38) → σ'.1 0 k = σ.1 0 k
theorem frV.rf {σ : bS} : frV σ σ := ⟨rfl, fun _ _ => rfl⟩
theorem frV.trans {σ σ1 σ2 : bS} (h : frV σ σ1) (g : frV σ1 σ2) : frV σ σ2 := ⟨g.1.trans h.1, fun k hk => (g.2 k hk).trans (h.2 k hk)⟩
theorem frV.ofU {σ σ' : bS} (h : frU σ σ') : frV σ σ' := ⟨h.1, fun k hk => h.2 k (fun u => hk (by omega))⟩
theorem frV.ofE {σ σ' : bS} (h : frE σ σ') (h2 : σ'.2 = σ.2) : frV σ σ' := ⟨h2, fun k hk => h.1 k (fun u => hk (by omega))⟩
theorem frV.uI {σ : bS} {k : Nat} {v : Int32} (h : k = 7 ∨ k = 35) : frV σ (uI σ 0 k v) := ⟨rfl, fun j hj => by
  rw [uI_1, if_neg]
  rintro ⟨-, rfl⟩
  exact hj (by omega)⟩
theorem UnM.of {s : tS} {U : Option (Nat × Nat)} {σ σ' : bS} (h : UnM s U σ) (h6 : σ'.1 0 10 = σ.1 0 10) (h7 : σ'.1 0 11 = σ.1 0 11) : UnM s U σ' := by
  cases U with
  | none => exact h6.trans h
  | some q => exact ⟨h6.trans h.1, h7.trans h.2⟩
theorem NmM.of {N : nmS} {σ σ' : bS} (h : NmM N σ) (h2 : σ'.2 = σ.2) (h31 : σ'.1 0 31 = σ.1 0 31) : NmM N σ' := ⟨h31.trans h.1, fun i hi => by rw [h2]; exact h.2 i hi⟩
theorem MP.of {s : tS} {nx : Nat} {σ σ' : bS} (h : MP s nx σ) (h2 : σ'.2 = σ.2) (h7 : σ'.1 0 7 = σ.1 0 7) : MP s nx σ' := ⟨fun j hj => by rw [h2]; exact h.1 j hj, h7.trans h.2.1, h.2.2.1, h.2.2.2⟩
theorem m_nameE {s : tS} {n nx k : Nat} {N : nmS} {U : Option (Nat × Nat)} {σ : bS} (hn : 50 ≤ n) (hT : okT s) (hP : MP s nx σ) (hN : nmOk N) (h17 : N.length ≤ 17) (hC : NmM N σ) (hU : okU nx U) (hc : UnM s U σ) (hk : k ≤ 2) : (tkF s 2 nx = 0 ∧ ∃ σ', m_takesName n (nI k) σ = some (1, σ') ∧ MP s (nx + 1) σ' ∧ NmM N σ' ∧ UnM s (unkU U (fndN N (twd s nx) k) nx) σ' ∧ σ'.1 0 35 = oI (fndN N (twd s nx) k) ∧ frV σ σ') ∨ (¬ tkF s 2 nx = 0 ∧ ∃ σ', m_takesName n (nI k) σ = some (0, σ') ∧ MF (tkF s 2 nx) (tpl s nx) σ' ∧ frV σ σ') := by
  have nx4 := hP.2.2.1
  have e7 : sI σ 0 7 = nI nx := hP.2.1
  unfold m_takesName
  rw [e7]
  rcases m_takesE (n := n) (x := ci_0) (k := 2) (m := 0) hT hP (by decide) (Or.inl ⟨rfl, rfl⟩) with ⟨t0, t1, t2⟩ | ⟨t0, σ', t1, t2, t3, t4⟩
  · left
    obtain ⟨z, y⟩ := tkF_0 t0
    obtain ⟨w1, w2⟩ := hT.2.2.2.2.2.1 nx z
    have f1 : frV σ (uI (uI σ 0 7 (nI (nx + 1))) 0 35 ci_m1) := (frV.uI (by decide)).trans (frV.uI (by decide))
    have hC1 : NmM N (uI (uI σ 0 7 (nI (nx + 1))) 0 35 ci_m1) := hC.of rfl (f1.2 31 (by decide))
    have hP1 : MP s (nx + 1) (uI (uI σ 0 7 (nI (nx + 1))) 0 35 ci_m1) := t2.of rfl (by rw [uI_1, if_neg (by decide)])
    have hc1 : UnM s U (uI (uI σ 0 7 (nI (nx + 1))) 0 35 ci_m1) := hc.of (by rw [uI_1, if_neg (by decide), uI_1, if_neg (by decide)]) (by rw [uI_1, if_neg (by decide), uI_1, if_neg (by decide)])
    have e31 : sI (uI (uI σ 0 7 (nI (nx + 1))) 0 35 ci_m1) 0 31 = nI N.length := hC1.1
    refine ⟨t0, ?_⟩
    rw [t1, ob_def, if_neg one_ne]
    show ∃ σ', m_takesName_b26 n (nI k) (nI nx) (sI (uI (uI σ 0 7 (nI (nx + 1))) 0 35 ci_m1) 0 31 - ci_1) (uI (uI σ 0 7 (nI (nx + 1))) 0 35 ci_m1) = some (1, σ') ∧ _
    rw [e31, m_takesName_b26]
    obtain ⟨σ2, b1, b2, b3, b4⟩ := m_name_l (n := n) (tok := nx) hN h17 w1 w2 hk (by omega) N.length n (uI (uI σ 0 7 (nI (nx + 1))) 0 35 ci_m1) hC1 ((hP.1 nx hP.2.2.2).2.2.1 z) (Nat.le_refl _) (by omega) (by rw [Nat.sub_self, uI_1, if_pos ⟨rfl, rfl⟩]; exact cim1)
    have f2 : frV (uI (uI σ 0 7 (nI (nx + 1))) 0 35 ci_m1) σ2 := ⟨b3, fun j hj => b4 j (fun u => hj (by omega))⟩
    have hP2 := hP1.of b3 (b4 7 (by decide))
    have hC2 := hC1.of b3 (b4 31 (by decide))
    have hc2 := hc1.of (b4 10 (by decide)) (b4 11 (by decide))
    rw [b1, show sI σ2 0 35 = oI (fI N (twd s nx) k N.length 0) from b2]
    unfold fndN
    cases h : fI N (twd s nx) k N.length 0 with
    | none =>
      rw [h] at b2
      obtain ⟨σ3, c1, c2, c3⟩ := m_tell (n := n) (f := 4) (j := nx) (x := ci_4) hT ci_4_n (by omega) hU hc2 hP2.1 hP.2.2.2 (fun f0 j0 e => Or.inl (hU f0 j0 e).2.2)
      rw [if_neg (show ¬ (0 : Int32) ≤ oI none by decide), c1, ob_def]
      exact ⟨σ3, rfl, hP2.of c3.1 (c3.2 7 (by decide)), hC2.ofU c3, c2, (c3.2 35 (by decide)).trans b2, (f1.trans f2).trans (frV.ofU c3)⟩
    | some x =>
      rw [h] at b2
      have xl := fI_lt hN N.length 0 x (by omega) h
      rw [if_pos (show (0 : Int32) ≤ oI (some x) from Int32.not_lt.mp (nI_pos (by omega)))]
      exact ⟨σ2, rfl, hP2, hC2, hc2, b2, f1.trans f2⟩
  · right
    rw [t1, ob_def, if_pos rfl]
    exact ⟨t0, σ', rfl, t2, frV.ofE t3 t4⟩
