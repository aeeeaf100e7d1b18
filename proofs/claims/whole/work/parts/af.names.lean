/-! a LAW from its = on, on both sides -/
def lawW (s : tS) (nx : Nat) : (Nat × Nat) ⊕ (Nat × lwS) := if tkF s 5 nx = 0 then lawA s 5 0 (nx + 1) [] else .inl (tkF s 5 nx, nx)
theorem c_lawE {s : tS} {n nx a : Nat} {σ : bS} (hn : 500 ≤ n) (hT : okT s) (hP : CP s nx σ) (h3 : σ.1 23 3 = nI a) (ha : a ≤ nx) : ∃ σ', cReader_takeLaw n σ = some (nI a, σ') ∧ frZ σ σ' ∧ LCOut s a (lawW s nx) σ σ' := by
  have nx4 := hP.1.2.2.1
  unfold cReader_takeLaw lawW
  rw [show sI σ 23 3 = nI a from h3]
  rcases c_tkF (n := n) (x := ci_5) (k := 5) hT (by decide) (by omega) (by omega) hP h3 (by omega) with ⟨t0, t1, t2⟩ | ⟨t0, σ1, t1, t2, t3⟩
  · rw [t1, ob_def, if_pos t0]
    obtain ⟨σ', a1, a2, a3⟩ := c_law_l (n := n) (a := a) hn hT 5 n 0 (nx + 1) [] (uI σ 44 4 (nI (nx + 1))) (by omega) (by omega) rfl t2 (by rw [uI_1, if_neg (by decide)]; exact h3) (fun i hi => by cases hi) (show a + 0 ≤ nx + 1 by omega) (by omega)
    exact ⟨σ', a1, (frZ.u44 (by decide)).trans a2, a3.tr (frA.of rfl)⟩
  · rw [t1, ob_def, if_neg t0]
    obtain ⟨n', rfl⟩ : ∃ n', n = n' + 1 := ⟨n - 1, by omega⟩
    obtain ⟨σ', a1, a2, a3⟩ := c_15D (n := n' + 1) (k := n') (x := nI a) (y := ci_0) (by omega) t2
    exact ⟨σ', a1, t3.trans a2, a3⟩
theorem c_lawD {s : tS} {n f p : Nat} {σ : bS} (hn : 100 ≤ n) (h : CD s f p σ) : ∃ r σ', cReader_takeLaw n σ = some (r, σ') ∧ frZ σ σ' ∧ CD s f p σ' := by
  unfold cReader_takeLaw
  rw [c_takeD h, ob_def]
  obtain ⟨n', rfl⟩ : ∃ n', n = n' + 1 := ⟨n - 1, by omega⟩
  obtain ⟨σ', a1, a2, a3⟩ := c_15D (n := n' + 1) (k := n') (x := sI σ 23 3) (y := ci_0) (by omega) h
  exact ⟨_, σ', a1, a2, a3⟩
theorem m_lawE {s : tS} {n nx m : Nat} {o : Option Nat} {x : Int32} {σ : bS} (hn : 500 ≤ n) (hT : okT s) (hx : x = lwI o) (ho : ∀ l, o = some l → l < 14) (hP : MP s nx σ) (h6 : σ.2.1 6 1 = nI m) (hm : m ≤ nx) : ∃ v σ', m_lawTold n x σ = some (v, σ') ∧ frL σ σ' ∧ frB m σ σ' ∧ kpL o σ σ' ∧ LOut s o m (lawW s nx) v σ' := by
  unfold m_lawTold lawW
  rcases m_tkS (n := n) (x := cb_61) (k := 5) hT hP (by decide) (by omega) (by omega) with ⟨t0, t1, t2⟩ | ⟨t0, σ1, t1, t2, t3, t4⟩
  · rw [t1, ob_def, if_neg one_ne, if_pos t0]
    obtain ⟨v, σ', a1, a2, a3, a4, a5⟩ := m_law_l (n := n) (o := o) (x := x) hn hT hx ho 5 n 0 (nx + 1) m [] (uI σ 0 7 (nI (nx + 1))) (by omega) (by omega) rfl t2 h6 (by omega) (fun l hl i hi => by cases hi) (by omega)
    exact ⟨v, σ', a1, (frL.ofE (frE.uI (by decide))).trans a2, (frB.of2 rfl).trans a3, (kpL.of2 rfl).trans a4, a5⟩
  · rw [t1, ob_def, if_pos rfl, if_neg t0]
    exact ⟨0, σ1, rfl, frL.ofE t3, frB.of2 t4, kpL.of2 t4, rfl, t2⟩
/-! FAULTS 3 to 5: the first, by its number and its TOKEN -/
def UnC (s : tS) (U : Option (Nat × Nat)) (σ : bS) : Prop := match U with
  | none => σ.1 44 6 = nI 0
  | some (f, j) => σ.1 44 6 = nI f ∧ σ.1 44 7 = nI (tpl s j)
def UnM (s : tS) (U : Option (Nat × Nat)) (σ : bS) : Prop := match U with
  | none => σ.1 0 10 = nI 0
  | some (f, j) => σ.1 0 10 = nI f ∧ σ.1 0 11 = nI (tpl s j)
def okU (nx : Nat) (U : Option (Nat × Nat)) : Prop := ∀ f j, U = some (f, j) → 3 ≤ f ∧ f ≤ 5 ∧ j < nx
def ntd (U : Option (Nat × Nat)) (f j : Nat) : Option (Nat × Nat) := match U with
  | none => some (f, j)
  | some q => some q
def fr67 (σ σ' : bS) : Prop := σ'.2 = σ.2 ∧ (∀ a, ¬ a = 44 → σ'.1 a = σ.1 a) ∧ ∀ k, ¬ (k = 6 ∨ k = 7) → σ'.1 44 k = σ.1 44 k
theorem fr67.rf {σ : bS} : fr67 σ σ := ⟨rfl, fun _ _ => rfl, fun _ _ => rfl⟩
theorem c_note {s : tS} {n f j : Nat} {U : Option (Nat × Nat)} {x : Int32} {nx : Nat} {σ : bS} (hx : x = nI f) (hU : okU nx U) (h : UnC s U σ) (hC : TC s σ) (hj : j ≤ 400) (hj2 : j ≤ tcE s) : ∃ σ', cReader_note n x (nI j) σ = some σ' ∧ UnC s (ntd U f j) σ' ∧ fr67 σ σ' := by
  unfold cReader_note
  cases U with
  | none =>
    have h : σ.1 44 6 = nI 0 := h
    rw [if_pos (show sI σ 44 6 = 0 from h), bin_nI (by omega) (by decide), cReader_note_b25, sA_n _ _ (by omega), hx]
    have e := (hC j hj hj2).2.1
    rw [show (uI σ 44 6 (nI f)).2.1 53 j = nI (tpl s j) from e]
    refine ⟨_, rfl, ⟨?_, ?_⟩, rfl, fun a ha => ?_, fun k hk => ?_⟩
    · rw [uI_1, if_neg (by decide), uI_1, if_pos ⟨rfl, rfl⟩]
    · rw [uI_1, if_pos ⟨rfl, rfl⟩]
    · funext k
      rw [uI_1, if_neg (fun u => ha u.1), uI_1, if_neg (fun u => ha u.1)]
    · rw [uI_1, if_neg (fun u => hk (Or.inr u.2)), uI_1, if_neg (fun u => hk (Or.inl u.2))]
  | some q =>
    obtain ⟨f0, j0⟩ := q
    have h : σ.1 44 6 = nI f0 ∧ σ.1 44 7 = nI (tpl s j0) := h
    have hf := hU f0 j0 rfl
    rw [if_neg (fun u => by
      have := nI_inj (by omega) (by decide) ((h.1.symm.trans u).trans (show (0 : Int32) = nI 0 from rfl))
      omega), cReader_note_b25]
    exact ⟨σ, rfl, h, fr67.rf⟩
def frU (σ σ' : bS) : Prop := σ'.2 = σ.2 ∧ ∀ k, ¬ (k = 10 ∨ k = 11) → σ'.1 0 k = σ.1 0 k
theorem m_tell {s : tS} {n f j nx : Nat} {U : Option (Nat × Nat)} {x : Int32} {σ : bS} (hT : okT s) (hx : x = nI f) (hf5 : f ≤ 5) (hU : okU nx U) (h : UnM s U σ) (hM : TMs s σ) (hj2 : j ≤ tcE s) (hlt : ∀ f0 j0, U = some (f0, j0) → j0 < j ∨ (j0 = j ∧ f0 = f)) : ∃ σ', m_tells n x (nI j) σ = some σ' ∧ UnM s (ntd U f j) σ' ∧ frU σ σ' := by
  have c2 := hT.2.2.2.2.2.2.2
  have e := (hM j hj2).2.1
  have pj := hT.2.2.2.2.1 j
  unfold m_tells
  rw [bin_nI (by omega) (by decide), sA_n _ _ (by omega), e, hx]
  cases U with
  | none =>
    have h : σ.1 0 10 = nI 0 := h
    rw [if_pos (show sI σ 0 10 = 0 from h), m_tells_b39]
    refine ⟨_, rfl, ⟨?_, ?_⟩, rfl, fun k hk => ?_⟩
    · rw [uI_1, if_neg (by decide), uI_1, if_pos ⟨rfl, rfl⟩]
    · rw [uI_1, if_pos ⟨rfl, rfl⟩]
    · rw [uI_1, if_neg (fun u => hk (Or.inr u.2)), uI_1, if_neg (fun u => hk (Or.inl u.2))]
  | some q =>
    obtain ⟨f0, j0⟩ := q
    have h : σ.1 0 10 = nI f0 ∧ σ.1 0 11 = nI (tpl s j0) := h
    have hf := hU f0 j0 rfl
    have p0 := hT.2.2.2.2.1 j0
    rw [if_neg (show ¬ sI σ 0 10 = 0 from fun u => by
      have := nI_inj (by omega) (by decide) ((h.1.symm.trans u).trans (show (0 : Int32) = nI 0 from rfl))
      omega), show sI σ 0 11 = nI (tpl s j0) from h.2, show sI σ 0 10 = nI f0 from h.1]
    rcases hlt f0 j0 rfl with z | ⟨rfl, rfl⟩
    · have lt := hT.2.2.2.1 j0 j z hj2
      rw [if_pos ((nI_ltI (by omega) (by omega)).mpr lt), m_tells_b38]
      exact ⟨σ, rfl, h, rfl, fun _ _ => rfl⟩
    · rw [if_neg (fun u => by have := (nI_ltI (by omega) (by omega)).mp u; omega), if_pos rfl, if_neg (fun u => by have := (nI_ltI (by omega) (by omega)).mp u; omega), m_tells_b38]
      exact ⟨σ, rfl, h, rfl, fun _ _ => rfl⟩
