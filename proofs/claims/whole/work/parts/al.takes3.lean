def twcU (U : Option (Nat × Nat)) (N : nmS) (w : List Nat) (j : Nat) : Option (Nat × Nat) := if hsI N w N.length 0 = true then ntd U 3 j else U
theorem pN_fr {σ : bS} {c : Nat} {key : Int64} {so nu : Int32} : frN σ (pN σ c key so nu) ∧ (∀ k, ¬ k = 11 → (pN σ c key so nu).1 44 k = σ.1 44 k) := by
  have e : ∀ k, ¬ k = 11 → (pN σ c key so nu).1 44 k = σ.1 44 k := fun k hk => by
    unfold pN
    rw [uI_1, if_neg (fun u => hk u.2)]
    rfl
  refine ⟨⟨?_, fun k hk => e k (fun u => hk (by omega))⟩, e⟩
  unfold pN
  exact ((frC.uJ (by omega)).trans ((frC.uA (by omega)).trans (frC.uA (by omega)))).trans (frC.uI (by omega))
theorem TC.frN {s : tS} {σ σ' : bS} (h : TC s σ) (f : frN σ σ') : TC s σ' := fun j h1 h2 => by
  rw [(f.1 51 (by decide)).2.1, (f.1 53 (by decide)).2.1, (f.1 52 (by decide)).2.2]
  exact h j h1 h2
theorem c_newE {s : tS} {n nx k nu ll : Nat} {N : nmS} {U : Option (Nat × Nat)} {σ : bS} (hn : 50 ≤ n) (hT : okT s) (hP : CP s nx σ) (hN : nmOk N) (h17 : N.length < 17) (hC : NmC N σ) (hU : okU nx U) (hc : UnC s U σ) (hl : σ.1 23 3 = nI ll) (hl2 : ll ≤ 402) : (tkF s 2 nx = 0 ∧ ∃ σ', cReader_takeNewName n (nI (srt k)) (nI nu) σ = some σ' ∧ CP s (nx + 1) σ' ∧ NmC (N ++ [(twd s nx, k, nu)]) σ' ∧ UnC s (twcU U N (twd s nx) nx) σ' ∧ frN σ σ') ∨ (¬ tkF s 2 nx = 0 ∧ ∃ σ', cReader_takeNewName n (nI (srt k)) (nI nu) σ = some σ' ∧ CD s (tkF s 2 nx) (tpl s nx) σ' ∧ frZ σ σ') := by
  have nx4 := hP.1.2.2.1
  have e4 : sI σ 44 4 = nI nx := hP.1.2.1
  unfold cReader_takeNewName
  rw [e4, bin_nI (by omega) (by decide)]
  rcases c_tkF (n := n) (x := ci_2) (k := 2) hT (by decide) (by omega) (by omega) hP hl hl2 with ⟨t0, t1, t2⟩ | ⟨t0, σ', t1, t2, t3⟩
  · left
    obtain ⟨z, y⟩ := tkF_0 t0
    obtain ⟨w1, w2⟩ := hT.2.2.2.2.2.1 nx z
    have ej : sJ σ 52 (nI nx) = Int64.ofNat (kR 32 (twd s nx)) := by
      show σ.2.2 52 (nI nx).toNatClampNeg = _
      rw [nI_clamp (by omega)]
      exact (hP.1.1 nx nx4 hP.1.2.2.2).2.2.1 z
    have hC1 : NmC N (uI σ 44 4 (nI (nx + 1))) := hC.of rfl (by rw [uI_1, if_neg (by decide)])
    have hc1 : UnC s U (uI σ 44 4 (nI (nx + 1))) := hc.of (by rw [uI_1, if_neg (by decide)]) (by rw [uI_1, if_neg (by decide)])
    have e5 : sI (uI σ 44 4 (nI (nx + 1))) 44 5 = 0 := t2.2
    obtain ⟨σ2, b1, b2, b3, b4⟩ := c_new_l (s := s) (n := n) (k := k) (nu := nu) (tok := nx) (nx := nx + 1) hN h17 w1 w2 nx4 hP.1.2.2.2 (by omega) N.length 0 n U (uI σ 44 4 (nI (nx + 1))) (by omega) (by omega) hC1 t2.1.1 (hU.le (by omega)) hc1
    obtain ⟨f1, f2⟩ := pN_fr (σ := σ2) (c := N.length) (key := Int64.ofNat (kR 32 (twd s nx))) (so := nI (srt k)) (nu := nI nu)
    have hP2 := t2.of67 b4
    refine ⟨t0, ?_⟩
    rw [t1, ob_def, if_pos e5, ej, show ci_0 = nI 0 by decide, b1]
    exact ⟨_, rfl, ⟨⟨hP2.1.1.frN f1, (f2 4 (by decide)).trans hP2.1.2.1, hP2.1.2.2.1, hP2.1.2.2.2⟩, (f2 5 (by decide)).trans hP2.2⟩, pN_is b2 h17, b3.of (f2 6 (by decide)) (f2 7 (by decide)), ((frN.u44 (by decide)).trans (frN.of67 b4)).trans f1⟩
  · right
    rw [t1, ob_def, if_neg t2.ne]
    exact ⟨t0, σ', rfl, t2, t3⟩
/-- what the reference changes with a new NAME -/
def frW (σ σ' : bS) : Prop := (∀ a, ¬ (a = 26 ∨ a = 27) → σ'.2.1 a = σ.2.1 a) ∧ (∀ a, ¬ a = 25 → σ'.2.2 a = σ.2.2 a) ∧ ∀ k, ¬ (k = 7 ∨ k = 8 ∨ k = 9 ∨ k = 10 ∨ k = 11 ∨ k = 31 ∨ k = 35 ∨ k = 36 ∨ k = 38) → σ'.1 0 k = σ.1 0 k
theorem frW.ofV {σ σ' : bS} (h : frV σ σ') : frW σ σ' := ⟨fun a _ => by rw [h.1], fun a _ => by rw [h.1], fun k hk => h.2 k (fun u => hk (by omega))⟩
theorem frW.trans {σ σ1 σ2 : bS} (h : frW σ σ1) (g : frW σ1 σ2) : frW σ σ2 := ⟨fun a ha => (g.1 a ha).trans (h.1 a ha), fun a ha => (g.2.1 a ha).trans (h.2.1 a ha), fun k hk => (g.2.2 k hk).trans (h.2.2 k hk)⟩
theorem pNm_fr {σ : bS} {c : Nat} {key : Int64} {so nu : Int32} : frW σ (pNm σ c key so nu) ∧ ∀ k, ¬ k = 31 → (pNm σ c key so nu).1 0 k = σ.1 0 k := by
  have e : ∀ k, ¬ k = 31 → (pNm σ c key so nu).1 0 k = σ.1 0 k := fun k hk => by
    unfold pNm
    rw [uI_1, if_neg (fun u => hk u.2)]
    rfl
  refine ⟨⟨fun a ha => ?_, fun a ha => ?_, fun k hk => e k (fun u => hk (by omega))⟩, e⟩
  · unfold pNm
    rw [uI_2, uA_o _ _ _ _ (fun u => ha (Or.inr u)), uA_o _ _ _ _ (fun u => ha (Or.inl u))]
    rfl
  · funext j
    show (uJ σ 25 (nI c) key).2.2 a j = _
    rw [uJ_3, if_neg (fun u => ha u.1)]
theorem m_newE {s : tS} {n nx k nu : Nat} {N : nmS} {U : Option (Nat × Nat)} {σ : bS} (hn : 50 ≤ n) (hT : okT s) (hP : MP s nx σ) (hN : nmOk N) (h17 : N.length < 17) (hC : NmM N σ) (hU : okU nx U) (hc : UnM s U σ) : (tkF s 2 nx = 0 ∧ ∃ σ', m_names n (nI k) (nI nu) σ = some (1, σ') ∧ MP s (nx + 1) σ' ∧ NmM (N ++ [(twd s nx, k, nu)]) σ' ∧ UnM s (twcU U N (twd s nx) nx) σ' ∧ frW σ σ') ∨ (¬ tkF s 2 nx = 0 ∧ ∃ σ', m_names n (nI k) (nI nu) σ = some (0, σ') ∧ MF (tkF s 2 nx) (tpl s nx) σ' ∧ frW σ σ') := by
  have nx4 := hP.2.2.1
  have e7 : sI σ 0 7 = nI nx := hP.2.1
  unfold m_names
  rw [e7]
  rcases m_takesE (n := n) (x := ci_0) (k := 2) (m := 0) hT hP (by decide) (Or.inl ⟨rfl, rfl⟩) with ⟨t0, t1, t2⟩ | ⟨t0, σ', t1, t2, t3, t4⟩
  · left
    obtain ⟨z, y⟩ := tkF_0 t0
    obtain ⟨w1, w2⟩ := hT.2.2.2.2.2.1 nx z
    have f0 : frV σ (uI σ 0 7 (nI (nx + 1))) := frV.uI (by decide)
    have hC1 : NmM N (uI σ 0 7 (nI (nx + 1))) := hC.of rfl (f0.2 31 (by decide))
    have hc1 : UnM s U (uI σ 0 7 (nI (nx + 1))) := hc.of (by rw [uI_1, if_neg (by decide)]) (by rw [uI_1, if_neg (by decide)])
    obtain ⟨σ2, b1, b2, b3, b4⟩ := m_new_l (s := s) (n := n) (k := k) (nu := nu) (tok := nx) (nx := nx + 1) hT hN h17 w1 w2 (by omega) hP.2.2.2 (by omega) N.length 0 n U (uI σ 0 7 (nI (nx + 1))) (by omega) (by omega) hC1 t2.1 ((hP.1 nx hP.2.2.2).2.2.1 z) (hU.le (by omega)) hc1 (fun f0 j0 e => Or.inl (hU f0 j0 e).2.2)
    obtain ⟨f1, f2⟩ := pNm_fr (σ := σ2) (c := N.length) (key := Int64.ofNat (kR 27 (twd s nx))) (so := nI k) (nu := nI nu)
    have hP2 := t2.of b4.1 (b4.2 7 (by decide))
    refine ⟨t0, ?_⟩
    rw [t1, ob_def, if_neg one_ne, show ci_0 = nI 0 by decide]
    show ∃ σ', m_names_b18 n n (nI k) (nI nu) (nI nx) (nI 0) (uI σ 0 7 (nI (nx + 1))) = some (1, σ') ∧ _
    rw [b1]
    refine ⟨_, rfl, ⟨fun j hj => ?_, (f2 7 (by decide)).trans hP2.2.1, hP2.2.2.1, hP2.2.2.2⟩, pNm_is b2 (by omega), b3.of (f2 10 (by decide)) (f2 11 (by decide)), ((frW.ofV f0).trans (frW.ofV (frV.ofU b4))).trans f1⟩
    rw [f1.1 2 (by decide), f1.1 3 (by decide), f1.1 4 (by decide), f1.2.1 5 (by decide)]
    exact hP2.1 j hj
  · right
    rw [t1, ob_def, if_pos rfl]
    exact ⟨t0, σ', rfl, t2, frW.ofV (frV.ofE t3 t4)⟩
