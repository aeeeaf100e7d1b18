/-! the class reads an E: its steps, alive and after a FAULT -/
def CPs (s : tS) (nx : Nat) (σ : bS) : Prop := TC s σ ∧ σ.1 44 4 = nI nx ∧ nx ≤ 400 ∧ nx ≤ tcE s
def CP (s : tS) (nx : Nat) (σ : bS) : Prop := CPs s nx σ ∧ σ.1 44 5 = 0
def frZ (σ σ' : bS) : Prop := frC (fun a => a = 23 ∨ a = 24 ∨ a = 44 ∨ a = 48) σ σ' ∧ ∀ k, ¬ (k = 0 ∨ k = 4 ∨ k = 5 ∨ k = 13) → σ'.1 44 k = σ.1 44 k
theorem frZ.rf {σ : bS} : frZ σ σ := ⟨frC.rf, fun _ _ => rfl⟩
theorem frZ.trans {σ σ1 σ2 : bS} (h : frZ σ σ1) (g : frZ σ1 σ2) : frZ σ σ2 := ⟨h.1.trans g.1, fun k hk => (g.2 k hk).trans (h.2 k hk)⟩
theorem frZ.u44 {σ : bS} {k : Nat} {v : Int32} (h : k = 0 ∨ k = 4 ∨ k = 5 ∨ k = 13) : frZ σ (uI σ 44 k v) := ⟨frC.uI (Or.inr (Or.inr (Or.inl rfl))), fun j hj => by
  rw [uI_1, if_neg]
  rintro ⟨-, rfl⟩
  exact hj h⟩
theorem TC.fr {s : tS} {σ σ' : bS} (h : TC s σ) (f : frZ σ σ') : TC s σ' := fun j h1 h2 => by
  rw [(f.1 51 (by decide)).2.1, (f.1 53 (by decide)).2.1, (f.1 52 (by decide)).2.2]
  exact h j h1 h2
def frA (a : Nat) (σ σ' : bS) : Prop := ∀ i, i < a → σ'.2.1 24 i = σ.2.1 24 i
theorem frA.rf {a : Nat} {σ : bS} : frA a σ σ := fun _ _ => rfl
theorem frA.trans {a : Nat} {σ σ1 σ2 : bS} (h : frA a σ σ1) (g : frA a σ1 σ2) : frA a σ σ2 := fun i hi => (g i hi).trans (h i hi)
theorem frA.of {a : Nat} {σ σ' : bS} (h : σ'.2 = σ.2) : frA a σ σ' := fun i _ => by rw [h]
/-- after a FAULT -/
def CD (s : tS) (f p : Nat) (σ : bS) : Prop := σ.1 44 5 = nI f ∧ (f = 1 ∨ f = 2) ∧ σ.1 44 0 = nI p ∧ (∃ nx, CPs s nx σ) ∧ ∃ ll, ll ≤ 402 ∧ σ.1 23 3 = nI ll
theorem CD.ne {s : tS} {f p : Nat} {σ : bS} (h : CD s f p σ) : ¬ sI σ 44 5 = 0 := fun u => by
  have e : nI f = nI 0 := h.1.symm.trans u
  rcases h.2.1 with rfl | rfl
  · exact absurd e (by decide)
  · exact absurd e (by decide)
theorem c_kindE {s : tS} {n nx : Nat} {σ : bS} (h : CPs s nx σ) : cReader_kind n σ = some (nI (tkd s nx), σ) := by
  obtain ⟨h1, h2, h3, h4⟩ := h
  unfold cReader_kind
  rw [show sI σ 44 4 = nI nx from h2, bin_nI (by omega) (by decide), sA_n _ _ (by omega), (h1 nx h3 h4).1]
theorem c_failE {s : tS} {n nx f : Nat} {x : Int32} {σ : bS} (hx : x = nI f) (h : CP s nx σ) : cReader_fail n x σ = some (uI (uI σ 44 5 (nI f)) 44 0 (nI (tpl s nx))) := by
  obtain ⟨⟨h1, h2, h3, h4⟩, h5⟩ := h
  have e4 : sI (uI σ 44 5 x) 44 4 = nI nx := h2
  unfold cReader_fail
  rw [if_pos (show sI σ 44 5 = 0 from h5), e4, bin_nI (by omega) (by decide), cReader_fail_b28, sA_n _ _ (by omega), hx]
  have e := (h1 nx h3 h4).2.1
  rw [show (uI σ 44 5 (nI f)).2.1 53 nx = nI (tpl s nx) from e]
theorem CP.dead {s : tS} {nx f ll : Nat} {σ : bS} (h : CP s nx σ) (hf : f = 1 ∨ f = 2) (hl : σ.1 23 3 = nI ll) (hl2 : ll ≤ 402) : CD s f (tpl s nx) (uI (uI σ 44 5 (nI f)) 44 0 (nI (tpl s nx))) := by
  obtain ⟨⟨h1, h2, h3, h4⟩, h5⟩ := h
  refine ⟨?_, hf, ?_, ⟨nx, ?_, ?_, h3, h4⟩, ll, hl2, ?_⟩
  · rw [uI_1, if_neg (by decide), uI_1, if_pos ⟨rfl, rfl⟩]
  · rw [uI_1, if_pos ⟨rfl, rfl⟩]
  · exact h1.fr ((frZ.u44 (by decide)).trans (frZ.u44 (by decide)))
  · rw [uI_1, if_neg (by decide), uI_1, if_neg (by decide)]
    exact h2
  · rw [uI_1, if_neg (by decide), uI_1, if_neg (by decide)]
    exact hl
theorem c_takeD {s : tS} {n f p : Nat} {x : Int32} {σ : bS} (h : CD s f p σ) : cReader_take n x σ = some σ := by
  unfold cReader_take
  rw [if_neg h.ne]
theorem c_failD {s : tS} {n f p : Nat} {x : Int32} {σ : bS} (h : CD s f p σ) : cReader_fail n x σ = some σ := by
  unfold cReader_fail
  rw [if_neg h.ne, cReader_fail_b28]
/-- a TOKEN taken, or a FAULT -/
theorem c_takeE {s : tS} {n nx k : Nat} {x : Int32} {σ : bS} (hT : okT s) (hx : x = nI k) (hk1 : 1 < k) (hk : k ≤ 36) (h : CP s nx σ) : (tkd s nx = k ∧ nx < 400 ∧ cReader_take n x σ = some (uI σ 44 4 (nI (nx + 1))) ∧ CP s (nx + 1) (uI σ 44 4 (nI (nx + 1)))) ∨ (∃ f, (f = 1 ∨ f = 2) ∧ ((tkd s nx = k ∧ ¬ nx < 400 ∧ f = 2) ∨ (¬ tkd s nx = k ∧ f = 1)) ∧ cReader_take n x σ = some (uI (uI σ 44 5 (nI f)) 44 0 (nI (tpl s nx)))) := by
  have h0 := h
  obtain ⟨⟨h1, h2, h3, h4⟩, h5⟩ := h
  have k36 := hT.1 nx
  unfold cReader_take
  rw [if_pos (show sI σ 44 5 = 0 from h5), c_kindE h0.1, ob_def, hx]
  by_cases z : tkd s nx = k
  · rw [if_pos (by rw [z]), cReader_take_b21, if_neg (show ¬ (ci_1 : Int32) = 0 by decide)]
    show (_ ∧ _ ∧ (if cs_400 ≤ sI σ 44 4 then _ else _) = _ ∧ _) ∨ ∃ f, _ ∧ _ ∧ (if cs_400 ≤ sI σ 44 4 then _ else _) = _
    rw [show sI σ 44 4 = nI nx from h2, cs_400_n]
    by_cases y : nx < 400
    · left
      have lt : nx < tcE s := by
        rcases Nat.lt_or_ge nx (tcE s) with w | w
        · exact w
        · have e : nx = tcE s := by omega
          have := hT.2.2.1
          rw [← e] at this
          omega
      refine ⟨z, y, ?_, ⟨h1.fr (frZ.u44 (by decide)), ?_, by omega, by omega⟩, ?_⟩
      · rw [if_neg (nI_ge y (by omega)), cReader_take_b62, nI_s]
      · rw [uI_1, if_pos ⟨rfl, rfl⟩]
      · rw [uI_1, if_neg (by decide)]
        exact h5
    · right
      refine ⟨2, Or.inr rfl, Or.inl ⟨z, y, rfl⟩, ?_⟩
      rw [if_pos ((nI_leI (by omega) (by omega)).mpr (by omega)), cReader_take_b49, if_neg (show ¬ (ci_1 : Int32) = 0 by decide), cReader_take_b59, c_failE (show ci_2 = nI 2 by decide) h0, ob_def, cReader_take_b62]
  · right
    refine ⟨1, Or.inl rfl, Or.inr ⟨z, rfl⟩, ?_⟩
    rw [if_neg (fun u => z ((nI_eqI (by omega) (by omega)).mp u)), cReader_take_b21, if_pos (show (ci_0 : Int32) = 0 by decide), cReader_take_b49, if_pos (show (ci_0 : Int32) = 0 by decide), cReader_take_b59, c_failE (show ci_1 = nI 1 by decide) h0, ob_def, cReader_take_b62]
/-! steps added -/
def AtC (a : Nat) (C : codes) (σ : bS) : Prop := ∀ i, i < C.length → σ.2.1 24 (a + i) = nI ((C.getD i (0, 0)).2 * 8 + (C.getD i (0, 0)).1)
def aS (σ : bS) (l : Nat) (v : Int32) : bS := uI (uA σ 24 (nI l) v) 23 3 (nI (l + 1))
theorem c_addE {n l op arg : Nat} {x y : Int32} {σ : bS} (hx : x = nI op) (hy : y = nI arg) (h : σ.1 23 3 = nI l) (hl : l < 402) : cLaws_add_s n x y σ = some (nI l, aS σ l (nI (arg * 8 + op))) := by
  have e1 : ∀ i w, sI (uA σ 24 i w) 23 3 = nI l := fun _ _ => h
  have e2 : ∀ τ w, sI (uI τ 23 3 w) 23 3 = w := fun τ w => by
    show (uI τ 23 3 w).1 23 3 = w
    rw [uI_1, if_pos ⟨rfl, rfl⟩]
  unfold cLaws_add_s
  rw [e2, e1, show sI σ 23 3 = nI l from h, show cn_402 = nI 402 by decide, if_pos ((nI_ltI (by omega) (by omega)).mpr hl), bin_nI (by omega) (by decide), cLaws_add_s_b45, hx, hy, cb_8_n, nI_mul, nI_add, nI_s, ci1_nI, nI_sub (by omega)]
  rfl
theorem aS_is {σ : bS} {l : Nat} {v : Int32} (hl : l < 2 ^ 31) : (aS σ l v).1 23 3 = nI (l + 1) ∧ (∀ i, (aS σ l v).2.1 24 i = if i = l then v else σ.2.1 24 i) ∧ frZ σ (aS σ l v) ∧ (aS σ l v).1 44 = σ.1 44 ∧ (aS σ l v).2.1 48 = σ.2.1 48 := by
  unfold aS
  refine ⟨?_, fun i => ?_, ⟨(frC.uA (Or.inr (Or.inl rfl))).trans (frC.uI (Or.inl rfl)), fun k hk => ?_⟩, ?_, ?_⟩
  · rw [uI_1, if_pos ⟨rfl, rfl⟩]
  · rw [uI_2, uA_2, nI_clamp hl]
    simp
  · rw [uI_1, if_neg (fun u => absurd u.1 (by decide))]
    rfl
  · funext k
    rw [uI_1, if_neg (fun u => absurd u.1 (by decide))]
    rfl
  · rw [uI_2, uA_o _ _ _ _ (by decide)]
/-- whatever is added: no harm -/
theorem c_addD {n l : Nat} {x y : Int32} {σ : bS} (h : σ.1 23 3 = nI l) (hl : l ≤ 402) : ∃ r σ' l', cLaws_add_s n x y σ = some (r, σ') ∧ l' ≤ 402 ∧ σ'.1 23 3 = nI l' ∧ frZ σ σ' ∧ σ'.1 44 = σ.1 44 ∧ σ'.2.1 48 = σ.2.1 48 ∧ (r = -1 ∨ ∃ j, j < 402 ∧ r = nI j) := by
  by_cases z : l < 402
  · have e1 : ∀ i w, sI (uA σ 24 i w) 23 3 = nI l := fun _ _ => h
    have e2 : ∀ τ w, sI (uI τ 23 3 w) 23 3 = w := fun τ w => by
      show (uI τ 23 3 w).1 23 3 = w
      rw [uI_1, if_pos ⟨rfl, rfl⟩]
    obtain ⟨a1, a2, a3, a4, a5⟩ := aS_is (σ := σ) (l := l) (v := y * cb_8 + x) (by omega)
    refine ⟨nI l, aS σ l (y * cb_8 + x), l + 1, ?_, by omega, a1, a3, a4, a5, Or.inr ⟨l, z, rfl⟩⟩
    unfold cLaws_add_s
    rw [e2, e1, show sI σ 23 3 = nI l from h, show cn_402 = nI 402 by decide, if_pos ((nI_ltI (by omega) (by omega)).mpr z), bin_nI (by omega) (by decide), cLaws_add_s_b45, nI_s, ci1_nI, nI_sub (by omega)]
    rfl
  · refine ⟨-1, σ, l, ?_, hl, h, frZ.rf, rfl, rfl, Or.inl rfl⟩
    unfold cLaws_add_s
    rw [show sI σ 23 3 = nI l from h, show cn_402 = nI 402 by decide, if_neg (fun u => z ((nI_ltI (by omega) (by omega)).mp u)), cim1]
theorem aS_at {a : Nat} {C : codes} {op arg : Nat} {σ : bS} (h : AtC a C σ) (hm : a + C.length < 402) : AtC a (C ++ [(op, arg)]) (aS σ (a + C.length) (nI (arg * 8 + op))) ∧ frA a σ (aS σ (a + C.length) (nI (arg * 8 + op))) := by
  obtain ⟨-, e, -⟩ := aS_is (σ := σ) (l := a + C.length) (v := nI (arg * 8 + op)) (by omega)
  refine ⟨fun i hi => ?_, fun i hi => ?_⟩
  · rw [List.length_append, List.length_singleton] at hi
    rw [e]
    by_cases z : i = C.length
    · subst z
      rw [if_pos rfl, getD_last]
    · rw [if_neg (by omega), getD_app (by omega)]
      exact h i (by omega)
  · rw [e, if_neg (by omega)]
theorem AtC.of {a : Nat} {C : codes} {σ σ' : bS} (h : AtC a C σ) (e : σ'.2.1 24 = σ.2.1 24) : AtC a C σ' := fun i hi => by
  rw [e]
  exact h i hi
/-! signs settle -/
theorem c_weight {n x : Nat} {σ : bS} (h : x ≤ 36) : cReader_weightOf n (nI x) σ = some (nI (wgt x), σ) := by
  unfold cReader_weightOf wgt
  rw [show cb_11 = nI 11 by decide, cb_8_n]
  by_cases z : x = 11
  · rw [if_pos (by rw [z]), if_pos z]
    rfl
  · rw [if_neg (fun u => z ((nI_eqI (by omega) (by decide)).mp u)), if_neg z]
    by_cases y : 8 ≤ x
    · rw [if_pos ((nI_leI (by omega) (by omega)).mpr y), if_pos y]
      rfl
    · rw [if_neg (fun u => y ((nI_leI (by omega) (by omega)).mp u)), if_neg y]
      rfl
theorem c_weightD {n : Nat} {x : Int32} {σ : bS} : ∃ r, cReader_weightOf n x σ = some (r, σ) := by
  unfold cReader_weightOf
  split
  · exact ⟨_, rfl⟩
  · split
    · exact ⟨_, rfl⟩
    · exact ⟨_, rfl⟩
def KCx (a : Nat) (C : codes) (S : List Nat) (σ : bS) : Prop := σ.1 23 3 = nI (a + C.length) ∧ AtC a C σ ∧ σ.1 44 13 = nI S.length ∧ Sgk id S (σ.2.1 48)
theorem c_set_l {n w a : Nat} (hw1 : 1 ≤ w) (hw : w ≤ 2) : ∀ (S : List Nat) (C : codes) (σ : bS) (k o : Nat), okK S o → KCx a C S σ → a + C.length + pnd S < 402 → S.length ≤ 20 → S.length < k → ∃ σ', cReader_settleSigns_b0 n k (nI w) σ = some σ' ∧ KCx a (setl w C S).1 (setl w C S).2 σ' ∧ frZ σ σ' ∧ frA a σ σ' ∧ (∀ j, ¬ j = 13 → σ'.1 44 j = σ.1 44 j)
  | [], C, σ, 0, o, hO, hK, h1, h2, h3 => by omega
  | [], C, σ, k + 1, o, hO, hK, h1, h2, h3 => by
    have e : sI σ 44 13 = nI 0 := hK.2.2.1
    rw [cReader_settleSigns_b0, e, if_pos (show (nI 0 : Int32) ≤ 0 from Int32.le_refl _), cReader_settleSigns_b63]
    exact ⟨σ, rfl, hK, frZ.rf, frA.rf, fun _ _ => rfl⟩
  | x :: S, C, σ, 0, o, hO, hK, h1, h2, h3 => by omega
  | x :: S, C, σ, k + 1, o, hO, hK, h1, h2, h3 => by
    obtain ⟨k1, k2, k3, k4, k5⟩ := hK
    rw [List.length_cons] at h2 h3 k3
    have e13 : sI σ 44 13 = nI (S.length + 1) := k3
    have hd := hO.hd
    have wl := wgt_le x
    have k4 : σ.2.1 48 S.length = nI x := k4
    rw [cReader_settleSigns_b0, e13, if_neg (show ¬ nI (S.length + 1) ≤ 0 from nI_ge (a := 0) (by omega) (by omega)), ci1_nI, nI_sub (by omega), Nat.add_sub_cancel, cReader_settleSigns_b17, bin_nI (by omega) (by decide), sA_n _ _ (by omega), k4, c_weight (by omega), ob_def, setl]
    by_cases z : wgt x < w
    · rw [if_pos ((nI_ltI (by omega) (by omega)).mpr z), if_pos z, cReader_settleSigns_b63]
      exact ⟨σ, rfl, ⟨k1, k2, by rw [List.length_cons]; exact k3, k4, k5⟩, frZ.rf, frA.rf, fun _ _ => rfl⟩
    · have nx : ¬ x = 11 := fun u => by
        rw [u] at z
        exact z (by rw [show wgt 11 = 0 by decide]; omega)
      have hO' : okK S o := by
        rcases hO with ⟨e, -⟩ | ⟨-, -, -, h⟩
        · exact absurd e nx
        · exact h
      have pn : pnd (x :: S) = pnd S + 1 := by rw [pnd, if_neg nx]
      have hm : a + C.length < 402 := by omega
      rw [if_neg (fun u => z ((nI_ltI (by omega) (by omega)).mp u)), if_neg z]
      show ∃ σ', cReader_settleSigns_b40 n (cReader_settleSigns_b0 n k) (nI w) ci_2 (sI σ 44 13 - ci_1) σ = some σ' ∧ _
      rw [e13, ci1_nI, nI_sub (by omega), Nat.add_sub_cancel, cReader_settleSigns_b40, bin_nI (by omega) (by decide), sA_n _ _ (by omega), k4, show ci_2 = nI 2 by decide, nI_add, show cb_6 = nI 6 by decide, nI_sub (by omega), show 2 + x - 6 = x - 4 by omega, cReader_settleSigns_b45, c_addE (op := x - 4) (arg := 0) rfl (show ci_0 = nI 0 by decide) k1 hm, ob_def]
      obtain ⟨q1, q2, q3, q4, q5⟩ := aS_is (σ := σ) (l := a + C.length) (v := nI (0 * 8 + (x - 4))) (by omega)
      obtain ⟨a1, a2⟩ := aS_at (σ := σ) (op := x - 4) (arg := 0) k2 hm
      have e13' : sI (aS σ (a + C.length) (nI (0 * 8 + (x - 4)))) 44 13 = nI (S.length + 1) := by
        show (aS σ (a + C.length) (nI (0 * 8 + (x - 4)))).1 44 13 = _
        rw [q4]
        exact k3
      show ∃ σ', cReader_settleSigns_b57 n (cReader_settleSigns_b0 n k) (nI w) (sI (aS σ (a + C.length) (nI (0 * 8 + (x - 4)))) 44 13 - ci_1) (aS σ (a + C.length) (nI (0 * 8 + (x - 4)))) = some σ' ∧ _
      rw [e13', ci1_nI, nI_sub (by omega), Nat.add_sub_cancel, cReader_settleSigns_b57]
      obtain ⟨σ', d1, d2, d3, d4, d5⟩ := c_set_l (n := n) (a := a) hw1 hw S (C ++ [(x - 4, 0)]) (uI (aS σ (a + C.length) (nI (0 * 8 + (x - 4)))) 44 13 (nI S.length)) k o hO' ⟨by rw [uI_1, if_neg (by decide), q1, List.length_append, List.length_singleton, Nat.add_assoc], a1.of rfl, by rw [uI_1, if_pos ⟨rfl, rfl⟩], by rw [uI_2, q5]; exact k5⟩ (by rw [List.length_append, List.length_singleton]; omega) (by omega) (by omega)
      refine ⟨σ', d1, d2, (q3.trans (frZ.u44 (by decide))).trans d3, (a2.trans (frA.of rfl)).trans d4, fun j hj => ?_⟩
      rw [d5 j hj, uI_1, if_neg (fun u => hj u.2), q4]
/-- signs settle after a FAULT -/
theorem c_setD_l {n : Nat} {x : Int32} : ∀ (k sc l : Nat) (σ : bS), σ.1 44 13 = nI sc → sc ≤ 20 → σ.1 23 3 = nI l → l ≤ 402 → sc < k → ∃ σ' sc' l', cReader_settleSigns_b0 n k x σ = some σ' ∧ sc' ≤ 20 ∧ σ'.1 44 13 = nI sc' ∧ l' ≤ 402 ∧ σ'.1 23 3 = nI l' ∧ frZ σ σ' ∧ (∀ j, ¬ j = 13 → σ'.1 44 j = σ.1 44 j)
  | 0, sc, l, σ, h1, h2, h3, h4, h5 => by omega
  | k + 1, sc, l, σ, h1, h2, h3, h4, h5 => by
    have e13 : sI σ 44 13 = nI sc := h1
    rw [cReader_settleSigns_b0, e13]
    by_cases z : sc = 0
    · subst z
      rw [if_pos (show (nI 0 : Int32) ≤ 0 from Int32.le_refl _), cReader_settleSigns_b63]
      exact ⟨σ, 0, l, rfl, by omega, h1, h4, h3, frZ.rf, fun _ _ => rfl⟩
    · rw [if_neg (show ¬ nI sc ≤ 0 from nI_ge (a := 0) (by omega) (by omega)), ci1_nI, nI_sub (by omega), cReader_settleSigns_b17, bin_nI (by omega) (by decide)]
      obtain ⟨r, hr⟩ := c_weightD (n := n) (x := sA σ 48 (nI (sc - 1))) (σ := σ)
      rw [hr, ob_def]
      by_cases y : r < x
      · rw [if_pos y, cReader_settleSigns_b63]
        exact ⟨σ, sc, l, rfl, h2, h1, h4, h3, frZ.rf, fun _ _ => rfl⟩
      · rw [if_neg y]
        show ∃ σ' sc' l', cReader_settleSigns_b40 n (cReader_settleSigns_b0 n k) x ci_2 (sI σ 44 13 - ci_1) σ = some σ' ∧ _
        rw [e13, ci1_nI, nI_sub (by omega), cReader_settleSigns_b40, bin_nI (by omega) (by decide), cReader_settleSigns_b45]
        obtain ⟨r2, σ1, l1, a1, a2, a3, a4, a5, a6, -⟩ := c_addD (n := n) (x := ci_2 + sA σ 48 (nI (sc - 1)) - cb_6) (y := ci_0) h3 h4
        rw [a1, ob_def]
        have e13' : sI σ1 44 13 = nI sc := by
          show σ1.1 44 13 = _
          rw [a5]
          exact h1
        show ∃ σ' sc' l', cReader_settleSigns_b57 n (cReader_settleSigns_b0 n k) x (sI σ1 44 13 - ci_1) σ1 = some σ' ∧ _
        rw [e13', ci1_nI, nI_sub (by omega), cReader_settleSigns_b57]
        obtain ⟨σ2, sc2, l2, d1, d2, d3, d4, d5, d6, d7⟩ := c_setD_l (n := n) (x := x) k (sc - 1) l1 (uI σ1 44 13 (nI (sc - 1))) (by rw [uI_1, if_pos ⟨rfl, rfl⟩]) (by omega) (by rw [uI_1, if_neg (by decide)]; exact a3) a2 (by omega)
        refine ⟨σ2, sc2, l2, d1, d2, d3, d4, d5, (a4.trans (frZ.u44 (by decide))).trans d6, fun j hj => ?_⟩
        rw [d7 j hj, uI_1, if_neg (fun u => hj u.2), a5]
