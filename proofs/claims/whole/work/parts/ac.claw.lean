/-! the class's LAW: steps -/
def cmpI (a : Nat) (A B D : codes) : codes := A ++ (B ++ ((6, a + A.length + B.length + D.length + 2) :: (D ++ [(7, 0)])))
def cmpF (a : Nat) (P : codes) (q : codes × codes × codes) : codes := P ++ cmpI (a + P.length) q.1 q.2.1 q.2.2
def cmpP (a : Nat) (acc : List (codes × codes × codes)) : codes := acc.foldl (cmpF a) []
theorem cmpP_app {a : Nat} {acc : List (codes × codes × codes)} {q : codes × codes × codes} : cmpP a (acc ++ [q]) = cmpF a (cmpP a acc) q := by
  unfold cmpP
  rw [List.foldl_append]
  rfl
theorem cmpI_len {a : Nat} {A B D : codes} : (cmpI a A B D).length = A.length + B.length + D.length + 2 := by
  unfold cmpI
  rw [List.length_append, List.length_append, List.length_cons, List.length_append, List.length_singleton]
  omega
theorem getD_appR {X Y : codes} {i : Nat} (h : X.length ≤ i) : (X ++ Y).getD i (0, 0) = Y.getD (i - X.length) (0, 0) := by
  rw [List.getD_eq_getElem?_getD, List.getD_eq_getElem?_getD, List.getElem?_append_right h]
theorem getD_appL {X Y : codes} {i : Nat} (h : i < X.length) : (X ++ Y).getD i (0, 0) = X.getD i (0, 0) := by
  rw [List.getD_eq_getElem?_getD, List.getD_eq_getElem?_getD, List.getElem?_append_left h]
theorem AtC_app {a : Nat} {X Y : codes} {σ : bS} : AtC a (X ++ Y) σ ↔ AtC a X σ ∧ AtC (a + X.length) Y σ := by
  constructor
  · intro h
    refine ⟨fun i hi => ?_, fun i hi => ?_⟩
    · have := h i (by rw [List.length_append]; omega)
      rw [getD_appL hi] at this
      exact this
    · have := h (X.length + i) (by rw [List.length_append]; omega)
      rw [getD_appR (by omega), Nat.add_sub_cancel_left] at this
      rw [Nat.add_assoc]
      exact this
  · rintro ⟨h1, h2⟩ i hi
    rw [List.length_append] at hi
    by_cases z : i < X.length
    · rw [getD_appL z]
      exact h1 i z
    · rw [getD_appR (by omega)]
      have := h2 (i - X.length) (by omega)
      rw [show a + X.length + (i - X.length) = a + i by omega] at this
      exact this
theorem AtC_one {a : Nat} {q : Nat × Nat} {σ : bS} (h : σ.2.1 24 a = nI (q.2 * 8 + q.1)) : AtC a [q] σ := fun i hi => by
  have e : i = 0 := by
    rw [List.length_singleton] at hi
    omega
  subst e
  exact h
theorem AtC.keep {a b : Nat} {C : codes} {σ σ' : bS} (h : AtC a C σ) (f : frA b σ σ') (le : a + C.length ≤ b) : AtC a C σ' := fun i hi => by
  rw [f (a + i) (by omega)]
  exact h i hi
theorem frA.le {a b : Nat} {σ σ' : bS} (h : frA b σ σ') (le : a ≤ b) : frA a σ σ' := fun i hi => h i (by omega)
theorem c_tkF {s : tS} {n nx k ll : Nat} {x : Int32} {σ : bS} (hT : okT s) (hx : x = nI k) (hk1 : 1 < k) (hk : k ≤ 36) (h : CP s nx σ) (hl : σ.1 23 3 = nI ll) (hl2 : ll ≤ 402) : (tkF s k nx = 0 ∧ cReader_take n x σ = some (uI σ 44 4 (nI (nx + 1))) ∧ CP s (nx + 1) (uI σ 44 4 (nI (nx + 1)))) ∨ (¬ tkF s k nx = 0 ∧ ∃ σ', cReader_take n x σ = some σ' ∧ CD s (tkF s k nx) (tpl s nx) σ' ∧ frZ σ σ') := by
  unfold tkF
  rcases c_takeE (n := n) hT hx hk1 hk h with ⟨z, y, t1, t2⟩ | ⟨f, hf, t1, t2⟩
  · left
    rw [if_pos z, if_pos y]
    exact ⟨rfl, t1, t2⟩
  · right
    rcases t1 with ⟨z, y, rfl⟩ | ⟨z, rfl⟩
    · rw [if_pos z, if_neg y]
      exact ⟨by omega, _, t2, h.dead hf hl hl2, frZ_fail⟩
    · rw [if_neg z]
      exact ⟨by omega, _, t2, h.dead hf hl hl2, frZ_fail⟩
/-- a step added after a FAULT -/
theorem c_addDD {s : tS} {n f p : Nat} {x y : Int32} {σ : bS} (h : CD s f p σ) : ∃ r σ', cLaws_add_s n x y σ = some (r, σ') ∧ frZ σ σ' ∧ CD s f p σ' ∧ (r = -1 ∨ ∃ j, j < 402 ∧ r = nI j) := by
  obtain ⟨ll, l1, l2⟩ := h.2.2.2.2
  obtain ⟨r, σ', l', a1, a2, a3, a4, a5, a6, a7⟩ := c_addD (n := n) (x := x) (y := y) l2 l1
  exact ⟨r, σ', a1, a4, h.mv a4 (fun j _ => by rw [a5]) a3 a2, a7⟩
theorem c_aimD {s : tS} {n f p : Nat} {r : Int32} {σ : bS} (h : CD s f p σ) (hr : r = -1 ∨ ∃ j, j < 402 ∧ r = nI j) : ∃ σ', cLaws_aim_s n r σ = some σ' ∧ frZ σ σ' ∧ CD s f p σ' := by
  obtain ⟨ll, l1, l2⟩ := h.2.2.2.2
  unfold cLaws_aim_s
  rcases hr with rfl | ⟨j, hj, rfl⟩
  · rw [if_pos (by decide), cLaws_aim_s_b28]
    exact ⟨σ, rfl, frZ.rf, h⟩
  · rw [if_neg (nI_pos (by omega))]
    by_cases z : (sI σ 23 3) ≤ nI j
    · rw [if_pos z, cLaws_aim_s_b28]
      exact ⟨σ, rfl, frZ.rf, h⟩
    · rw [if_neg z, bin_nI hj (by decide), cLaws_aim_s_b28]
      have f1 : ∀ v, frZ σ (uA σ 24 (nI j) v) := fun v => ⟨frC.uA (Or.inr (Or.inl rfl)), fun _ _ => rfl⟩
      exact ⟨_, rfl, f1 _, h.mv (f1 _) (fun _ _ => rfl) l2 l1⟩
theorem c_118D {s : tS} {n f p : Nat} {x : Int32} {σ : bS} (hn : 100 ≤ n) (h : CD s f p σ) : ∃ σ', cReader_takeLaw_b118 n x σ = some (x, σ') ∧ frZ σ σ' ∧ CD s f p σ' := by
  obtain ⟨σ1, a1, a2, a3⟩ := c_sumD (n := n) hn h
  obtain ⟨r, σ2, b1, b2, b3, -⟩ := c_addDD (n := n) (x := cb_7) (y := ci_0) a3
  unfold cReader_takeLaw_b118
  rw [a1, ob_def, b1, ob_def]
  show ∃ σ', (ob (cReader_take n ci_4 σ2) fun q3 => some (x, q3)) = _ ∧ _
  rw [c_takeD b3, ob_def]
  exact ⟨σ2, rfl, a2.trans b2, b3⟩
theorem c_15D {s : tS} {n f p k : Nat} {x y : Int32} {σ : bS} (hn : 100 ≤ n) (h : CD s f p σ) : ∃ σ', cReader_takeLaw_b15 n (k + 1) x y σ = some (x, σ') ∧ frZ σ σ' ∧ CD s f p σ' := by
  obtain ⟨σ1, a1, a2, a3⟩ := c_118D (n := n) (x := x) hn h
  refine ⟨σ1, ?_, a2, a3⟩
  rw [cReader_takeLaw_b15, if_neg h.ne, a1]
  split <;> rfl
/-! what stands behind an IF, part by part -/
def kEl (n k : Nat) (x y r : Int32) (σ : bS) : Option (Int32 × bS) :=
  ob (cReader_take n cb_28 σ) fun q11 =>
  ob (cLaws_add_s n cb_7 ci_0 q11) fun q12 =>
  ob (cLaws_aim_s n r q12.2) fun q13 =>
  cReader_takeLaw_b15 n k x (y + ci_1) q13
def kDo (n k : Nat) (x y r : Int32) (σ : bS) : Option (Int32 × bS) := ob (cReader_takeSum n σ) fun q10 => kEl n k x y r q10
def kTh (n k : Nat) (x y : Int32) (σ : bS) : Option (Int32 × bS) := ob (cReader_take n cb_27 σ) fun q8 => ob (cLaws_add_s n cb_6 ci_0 q8) fun q9 => kDo n k x y q9.1 q9.2
def kBs (n k : Nat) (x y : Int32) (σ : bS) : Option (Int32 × bS) := ob (cReader_takeSum n σ) fun q7 => kTh n k x y q7
def kLs (n k : Nat) (x y : Int32) (σ : bS) : Option (Int32 × bS) := ob (cReader_take n cb_10 σ) fun q6 => kBs n k x y q6
def kAs (n k : Nat) (x y : Int32) (σ : bS) : Option (Int32 × bS) := ob (cReader_takeSum n σ) fun q5 => kLs n k x y q5
theorem b46_is {n k : Nat} {x y : Int32} {σ : bS} : cReader_takeLaw_b46 n (cReader_takeLaw_b15 n k) x y σ = ob (cReader_take n cb_26 σ) fun q4 => kAs n k x y q4 := rfl
theorem kElD {s : tS} {n f p k : Nat} {x y r : Int32} {σ : bS} (hn : 100 ≤ n) (h : CD s f p σ) (hr : r = -1 ∨ ∃ j, j < 402 ∧ r = nI j) : ∃ σ', kEl n (k + 1) x y r σ = some (x, σ') ∧ frZ σ σ' ∧ CD s f p σ' := by
  unfold kEl
  rw [c_takeD h, ob_def]
  obtain ⟨r2, σ2, b1, b2, b3, -⟩ := c_addDD (n := n) (x := cb_7) (y := ci_0) h
  rw [b1, ob_def]
  obtain ⟨σ3, c1, c2, c3⟩ := c_aimD (n := n) b3 hr
  show ∃ σ', (ob (cLaws_aim_s n r σ2) fun q13 => _) = _ ∧ _
  rw [c1, ob_def]
  obtain ⟨σ4, d1, d2, d3⟩ := c_15D (n := n) (k := k) (x := x) (y := y + ci_1) hn c3
  exact ⟨σ4, d1, (b2.trans c2).trans d2, d3⟩
theorem kDoD {s : tS} {n f p k : Nat} {x y r : Int32} {σ : bS} (hn : 100 ≤ n) (h : CD s f p σ) (hr : r = -1 ∨ ∃ j, j < 402 ∧ r = nI j) : ∃ σ', kDo n (k + 1) x y r σ = some (x, σ') ∧ frZ σ σ' ∧ CD s f p σ' := by
  unfold kDo
  obtain ⟨σ1, a1, a2, a3⟩ := c_sumD (n := n) hn h
  rw [a1, ob_def]
  obtain ⟨σ2, b1, b2, b3⟩ := kElD (n := n) (k := k) (x := x) (y := y) hn a3 hr
  exact ⟨σ2, b1, a2.trans b2, b3⟩
theorem kThD {s : tS} {n f p k : Nat} {x y : Int32} {σ : bS} (hn : 100 ≤ n) (h : CD s f p σ) : ∃ σ', kTh n (k + 1) x y σ = some (x, σ') ∧ frZ σ σ' ∧ CD s f p σ' := by
  unfold kTh
  rw [c_takeD h, ob_def]
  obtain ⟨r2, σ2, b1, b2, b3, b4⟩ := c_addDD (n := n) (x := cb_6) (y := ci_0) h
  rw [b1, ob_def]
  obtain ⟨σ3, c1, c2, c3⟩ := kDoD (n := n) (k := k) (x := x) (y := y) hn b3 b4
  exact ⟨σ3, c1, b2.trans c2, c3⟩
theorem kBsD {s : tS} {n f p k : Nat} {x y : Int32} {σ : bS} (hn : 100 ≤ n) (h : CD s f p σ) : ∃ σ', kBs n (k + 1) x y σ = some (x, σ') ∧ frZ σ σ' ∧ CD s f p σ' := by
  unfold kBs
  obtain ⟨σ1, a1, a2, a3⟩ := c_sumD (n := n) hn h
  rw [a1, ob_def]
  obtain ⟨σ2, b1, b2, b3⟩ := kThD (n := n) (k := k) (x := x) (y := y) hn a3
  exact ⟨σ2, b1, a2.trans b2, b3⟩
theorem kLsD {s : tS} {n f p k : Nat} {x y : Int32} {σ : bS} (hn : 100 ≤ n) (h : CD s f p σ) : ∃ σ', kLs n (k + 1) x y σ = some (x, σ') ∧ frZ σ σ' ∧ CD s f p σ' := by
  unfold kLs
  rw [c_takeD h, ob_def]
  exact kBsD hn h
theorem kAsD {s : tS} {n f p k : Nat} {x y : Int32} {σ : bS} (hn : 100 ≤ n) (h : CD s f p σ) : ∃ σ', kAs n (k + 1) x y σ = some (x, σ') ∧ frZ σ σ' ∧ CD s f p σ' := by
  unfold kAs
  obtain ⟨σ1, a1, a2, a3⟩ := c_sumD (n := n) hn h
  rw [a1, ob_def]
  obtain ⟨σ2, b1, b2, b3⟩ := kLsD (n := n) (k := k) (x := x) (y := y) hn a3
  exact ⟨σ2, b1, a2.trans b2, b3⟩
