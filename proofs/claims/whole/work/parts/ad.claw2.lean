/-! the class's LAW, alive -/
def lawC (a : Nat) (ifs : List (codes × codes × codes)) (E : codes) : codes := cmpP a ifs ++ (E ++ [(7, 0)])
def LCOut (s : tS) (a : Nat) (r : (Nat × Nat) ⊕ (Nat × lwS)) (σ0 σ : bS) : Prop := match r with
  | .inl (f, p) => CD s f (tpl s p) σ
  | .inr (nx, ifs, E) => if tkF s 4 nx = 0 then CP s (nx + 1) σ ∧ σ.1 23 3 = nI (a + (lawC a ifs E).length) ∧ AtC a (lawC a ifs E) σ ∧ a + (lawC a ifs E).length ≤ nx + 1 ∧ frA a σ0 σ else CD s (tkF s 4 nx) (tpl s nx) σ
theorem LCOut.tr {s : tS} {a : Nat} {r : (Nat × Nat) ⊕ (Nat × lwS)} {σ0 σ1 σ : bS} (h : LCOut s a r σ1 σ) (f : frA a σ0 σ1) : LCOut s a r σ0 σ := by
  unfold LCOut at h ⊢
  cases r with
  | inl q => exact h
  | inr q =>
    obtain ⟨nx, ifs, E⟩ := q
    show if tkF s 4 nx = 0 then _ else _
    have h : if tkF s 4 nx = 0 then CP s (nx + 1) σ ∧ σ.1 23 3 = nI (a + (lawC a ifs E).length) ∧ AtC a (lawC a ifs E) σ ∧ a + (lawC a ifs E).length ≤ nx + 1 ∧ frA a σ1 σ else CD s (tkF s 4 nx) (tpl s nx) σ := h
    by_cases z : tkF s 4 nx = 0
    · rw [if_pos z] at h ⊢
      exact ⟨h.1, h.2.1, h.2.2.1, h.2.2.2.1, f.trans h.2.2.2.2⟩
    · rw [if_neg z] at h ⊢
      exact h
/-- an E of the class, by cases -/
theorem c_sumF {s : tS} {n a nx : Nat} {σ : bS} (hn : 500 ≤ n) (hT : okT s) (hP : CP s nx σ) (h3 : σ.1 23 3 = nI a) (ha : a ≤ nx) : ∃ σ', cReader_takeSum n σ = some σ' ∧ frZ σ σ' ∧ ((∃ f p, smA s nx = .inl (f, p) ∧ CD s f (tpl s p) σ') ∨ (∃ nx' C, smA s nx = .inr (nx', C) ∧ CP s nx' σ' ∧ σ'.1 23 3 = nI (a + C.length) ∧ AtC a C σ' ∧ a + C.length ≤ nx' ∧ frA a σ σ')) := by
  obtain ⟨σ', a1, a2, a3⟩ := c_sumE (n := n) hn hT hP h3 ha
  have a3 : COut s a (smA s nx) σ σ' := a3
  refine ⟨σ', a1, a2, ?_⟩
  cases h : smA s nx with
  | inl q =>
    obtain ⟨f, p⟩ := q
    rw [h] at a3
    exact Or.inl ⟨f, p, rfl, a3⟩
  | inr q =>
    obtain ⟨nx', C⟩ := q
    rw [h] at a3
    exact Or.inr ⟨nx', C, rfl, a3⟩
theorem CP.aS {s : tS} {nx l : Nat} {v : Int32} {σ : bS} (h : CP s nx σ) (hl : l < 2 ^ 31) : CP s nx (aS σ l v) := by
  obtain ⟨q1, q2, q3, q4, q5⟩ := aS_is (σ := σ) (l := l) (v := v) hl
  exact ⟨⟨h.1.1.fr q3, by rw [q4]; exact h.1.2.1, h.1.2.2.1, h.1.2.2.2⟩, by rw [q4]; exact h.2⟩
theorem c_118E {s : tS} {n a nx : Nat} {acc : List (codes × codes × codes)} {x : Int32} {σ : bS} (hn : 500 ≤ n) (hT : okT s) (hP : CP s nx σ) (h3 : σ.1 23 3 = nI (a + (cmpP a acc).length)) (hA : AtC a (cmpP a acc) σ) (ha : a + (cmpP a acc).length ≤ nx) : ∃ σ', cReader_takeLaw_b118 n x σ = some (x, σ') ∧ frZ σ σ' ∧ LCOut s a (match smA s nx with | .inl e => .inl e | .inr (n1, E) => .inr (n1, acc, E)) σ σ' := by
  obtain ⟨σ1, a1, a2, a3⟩ := c_sumF (n := n) hn hT hP h3 ha
  unfold cReader_takeLaw_b118
  rw [a1, ob_def]
  rcases a3 with ⟨f, p, b1, b2⟩ | ⟨n1, E, b1, b2, b3, b4, b5, b6⟩
  · rw [b1]
    obtain ⟨r, σ2, c1, c2, c3, -⟩ := c_addDD (n := n) (x := cb_7) (y := ci_0) b2
    rw [c1, ob_def]
    show ∃ σ', (ob (cReader_take n ci_4 σ2) fun q3 => some (x, q3)) = _ ∧ _
    rw [c_takeD c3, ob_def]
    exact ⟨σ2, rfl, a2.trans c2, c3⟩
  · rw [b1]
    have n14 := b2.1.2.2.1
    have hl : a + (cmpP a acc).length + E.length < 402 := by omega
    rw [c_addE (op := 7) (arg := 0) (show cb_7 = nI 7 by decide) (show ci_0 = nI 0 by decide) b3 hl, ob_def]
    obtain ⟨q1, q2, q3, q4, q5⟩ := aS_is (σ := σ1) (l := a + (cmpP a acc).length + E.length) (v := nI (0 * 8 + 7)) (by omega)
    have hP1 := b2.aS (l := a + (cmpP a acc).length + E.length) (v := nI (0 * 8 + 7)) (by omega)
    have len : (lawC a acc E).length = (cmpP a acc).length + E.length + 1 := by
      unfold lawC
      rw [List.length_append, List.length_append, List.length_singleton]
      omega
    have fA2 : frA (a + (cmpP a acc).length + E.length) σ1 (aS σ1 (a + (cmpP a acc).length + E.length) (nI (0 * 8 + 7))) := fun i hi => by
      rw [q2, if_neg (by omega)]
    show ∃ σ', (ob (cReader_take n ci_4 (aS σ1 (a + (cmpP a acc).length + E.length) (nI (0 * 8 + 7)))) fun q3 => some (x, q3)) = _ ∧ _
    rcases c_tkF (n := n) (k := 4) hT ci_4_n (by omega) (by omega) hP1 q1 (by omega) with ⟨t0, t1, t2⟩ | ⟨t0, σ', t1, t2, t3⟩
    · rw [t1, ob_def]
      refine ⟨_, rfl, (a2.trans q3).trans (frZ.u44 (by decide)), ?_⟩
      show if tkF s 4 n1 = 0 then _ else _
      rw [if_pos t0]
      refine ⟨t2, ?_, ?_, by omega, ((b6.le (by omega)).trans (fA2.le (by omega))).trans (frA.of rfl)⟩
      · rw [uI_1, if_neg (by decide), q1, len]
        congr 1
        omega
      · refine AtC.of (σ := aS σ1 (a + (cmpP a acc).length + E.length) (nI (0 * 8 + 7))) ?_ rfl
        unfold lawC
        refine AtC_app.mpr ⟨(hA.keep b6 (by omega)).keep fA2 (by omega), AtC_app.mpr ⟨b4.keep fA2 (by omega), AtC_one (by rw [q2, if_pos rfl])⟩⟩
    · rw [t1, ob_def]
      refine ⟨_, rfl, (a2.trans q3).trans t3, ?_⟩
      show if tkF s 4 n1 = 0 then _ else _
      rw [if_neg t0]
      exact t2
