/-! the class's E, whole -/
def CDs (s : tS) (f p : Nat) (σ : bS) : Prop := CD s f p σ ∧ ∃ sc, sc ≤ 20 ∧ σ.1 44 13 = nI sc
theorem CD.mv {s : tS} {f p ll : Nat} {σ σ' : bS} (h : CD s f p σ) (fr : frZ σ σ') (e : ∀ j, ¬ j = 13 → σ'.1 44 j = σ.1 44 j) (hl : σ'.1 23 3 = nI ll) (hl2 : ll ≤ 402) : CD s f p σ' := by
  obtain ⟨h1, h2, h3, ⟨nx, a, b, c, d⟩, h5⟩ := h
  exact ⟨(e 5 (by decide)).trans h1, h2, (e 0 (by decide)).trans h3, ⟨nx, a.fr fr, (e 4 (by decide)).trans b, c, d⟩, ll, hl2, hl⟩
theorem c_setD {s : tS} {n f p : Nat} {x : Int32} {σ : bS} (hn : 30 ≤ n) (h : CDs s f p σ) : ∃ σ', cReader_settleSigns n x σ = some σ' ∧ CDs s f p σ' ∧ frZ σ σ' := by
  obtain ⟨hD, sc, h1, h2⟩ := h
  obtain ⟨ll, l1, l2⟩ := hD.2.2.2.2
  obtain ⟨σ', sc', l', a1, a2, a3, a4, a5, a6, a7⟩ := c_setD_l (n := n) (x := x) n sc ll σ h2 h1 l2 l1 (by omega)
  exact ⟨σ', a1, ⟨hD.mv a6 a7 a5 a4, sc', a2, a3⟩, a6⟩
theorem c_115D {s : tS} {n f p : Nat} {σ : bS} (hn : 30 ≤ n) (h : CDs s f p σ) : ∃ σ', cReader_takeSum_b115 n σ = some σ' ∧ CD s f p σ' ∧ frZ σ σ' := by
  obtain ⟨σ', a1, a2, a3⟩ := c_setD (n := n) (x := ci_1) hn h
  exact ⟨σ', by rw [cReader_takeSum_b115, a1, ob_def], a2.1, a3⟩
theorem c_105D {s : tS} {n f p : Nat} {x : Int32} {σ : bS} (hn : 30 ≤ n) (h : CDs s f p σ) : ∃ σ', cReader_takeSum_b105 n x σ = some σ' ∧ CD s f p σ' ∧ frZ σ σ' := by
  obtain ⟨σ', a1, a2, a3⟩ := c_115D (n := n) hn h
  refine ⟨σ', ?_, a2, a3⟩
  rw [cReader_takeSum_b105]
  by_cases z : x ≤ 0
  · rw [if_pos z, a1]
  · rw [if_neg z, c_takeD h.1, ob_def, a1]
theorem c_9D {s : tS} {n f p k : Nat} {x y : Int32} {σ : bS} (hn : 30 ≤ n) (h : CDs s f p σ) : ∃ σ', cReader_takeSum_b9 n (k + 1) x y σ = some σ' ∧ CD s f p σ' ∧ frZ σ σ' := by
  obtain ⟨σ', a1, a2, a3⟩ := c_105D (n := n) (x := x) hn h
  refine ⟨σ', ?_, a2, a3⟩
  rw [cReader_takeSum_b9, if_neg h.1.ne, a1]
  split <;> rfl
theorem c_signD {s : tS} {n f p : Nat} {σ : bS} (h : CDs s f p σ) : ∃ σ', cReader_takeSign n σ = some σ' ∧ CDs s f p σ' ∧ frZ σ σ' := by
  obtain ⟨hD, sc, h1, h2⟩ := h
  obtain ⟨ll, l1, l2⟩ := hD.2.2.2.2
  obtain ⟨nx, hP⟩ := hD.2.2.2.1
  unfold cReader_takeSign
  rw [show sI σ 44 13 = nI sc from h2, show cn_20 = nI 20 by decide]
  by_cases z : sc < 20
  · have e : ∀ i v, sI (uA σ 48 i v) 44 13 = nI sc := fun _ _ => h2
    rw [if_neg (nI_ge z (by omega)), c_kindE hP, ob_def]
    show ∃ σ', bin_ (nI sc) 20 (cReader_takeSign_b35 n (uI (uA σ 48 (nI sc) (nI (tkd s nx))) 44 13 (sI (uA σ 48 (nI sc) (nI (tkd s nx))) 44 13 + ci_1))) = some σ' ∧ _
    rw [bin_nI z (by decide), e, nI_s, cReader_takeSign_b35]
    have f1 : frZ σ (uA σ 48 (nI sc) (nI (tkd s nx))) := ⟨frC.uA (Or.inr (Or.inr (Or.inr rfl))), fun _ _ => rfl⟩
    have f2 : frZ σ (uI (uA σ 48 (nI sc) (nI (tkd s nx))) 44 13 (nI (sc + 1))) := f1.trans (frZ.u44 (by decide))
    have hD2 : CD s f p (uI (uA σ 48 (nI sc) (nI (tkd s nx))) 44 13 (nI (sc + 1))) := hD.mv f2 (fun j hj => by rw [uI_1, if_neg (fun u => hj u.2)]; rfl) (by rw [uI_1, if_neg (by decide)]; exact l2) l1
    obtain ⟨nx2, hP2⟩ := hD2.2.2.2.1
    rw [c_kindE hP2, ob_def, c_takeD hD2, ob_def]
    exact ⟨_, rfl, ⟨hD2, sc + 1, by omega, by rw [uI_1, if_pos ⟨rfl, rfl⟩]⟩, f2⟩
  · rw [if_pos ((nI_leI (by omega) (by omega)).mpr (by omega)), cReader_takeSign_b35, c_kindE hP, ob_def, c_takeD hD, ob_def]
    exact ⟨σ, rfl, ⟨hD, sc, h1, h2⟩, frZ.rf⟩
/-- what stands behind a unit and what it closes -/
def cRst (n fuel : Nat) (x2 : Int32) (q7 : Int32 × bS) : Option bS :=
  ob (cReader_kind n q7.2) fun q8 =>
    if q8.1 < cb_6 then
      cReader_takeSum_b105 n q7.1 q8.2
    else
    ob (cReader_kind n q8.2) fun q9 =>
    if q9.1 ≤ cb_9 then
      ob (cReader_kind n q9.2) fun q10 =>
      ob (cReader_weightOf n q10.1 q10.2) fun q11 =>
      ob (cReader_settleSigns n q11.1 q11.2) fun q12 =>
      ob (cReader_takeSign n q12) fun q13 =>
      cReader_takeSum_b99 n (cReader_takeSum_b9 n fuel) q7.1 x2 q13
    else
    cReader_takeSum_b105 n q7.1 q9.2
def cAft (n fuel fc : Nat) (x1 x2 : Int32) (σ : bS) : Option bS := ob (cReader_takeCloses_b2 n fc x1 σ) (cRst n fuel x2)
theorem c_rstD {s : tS} {n f p fuel : Nat} {x y : Int32} {σ : bS} (hT : okT s) (hn : 30 ≤ n) (h : CDs s f p σ) : ∃ σ', cRst n (fuel + 1) y (x, σ) = some σ' ∧ CD s f p σ' ∧ frZ σ σ' := by
  obtain ⟨nx, hP⟩ := h.1.2.2.2.1
  have k36 := hT.1 nx
  obtain ⟨σ1, a1, a2, a3⟩ := c_105D (n := n) (x := x) hn h
  unfold cRst
  show ∃ σ', (ob (cReader_kind n σ) fun q8 => _) = some σ' ∧ _
  rw [c_kindE hP, ob_def]
  by_cases z : nI (tkd s nx) < cb_6
  · rw [if_pos z]
    exact ⟨σ1, a1, a2, a3⟩
  · rw [if_neg z]
    show ∃ σ', (ob (cReader_kind n σ) fun q8 => _) = some σ' ∧ _
    rw [c_kindE hP, ob_def]
    by_cases w : nI (tkd s nx) ≤ cb_9
    · rw [if_pos w]
      show ∃ σ', (ob (cReader_kind n σ) fun q8 => _) = some σ' ∧ _
      rw [c_kindE hP, ob_def]
      show ∃ σ', (ob (cReader_weightOf n (nI (tkd s nx)) σ) fun q8 => _) = some σ' ∧ _
      rw [c_weight k36, ob_def]
      obtain ⟨σ2, b1, b2, b3⟩ := c_setD (n := n) (x := nI (wgt (tkd s nx))) hn h
      show ∃ σ', (ob (cReader_settleSigns n (nI (wgt (tkd s nx))) σ) fun q8 => _) = some σ' ∧ _
      rw [b1, ob_def]
      obtain ⟨σ3, c1, c2, c3⟩ := c_signD (n := n) b2
      rw [c1, ob_def, cReader_takeSum_b99]
      obtain ⟨σ4, d1, d2, d3⟩ := c_9D (n := n) (k := fuel) (x := x) (y := y + ci_1) hn c2
      exact ⟨σ4, d1, d2, (b3.trans c3).trans d3⟩
    · rw [if_neg w]
      exact ⟨σ1, a1, a2, a3⟩
theorem c_clsD {s : tS} {n f p k : Nat} {x : Int32} {σ : bS} (h : CD s f p σ) : cReader_takeCloses_b2 n (k + 1) x σ = some (x, σ) := by
  rw [cReader_takeCloses_b2, if_neg h.ne, cReader_takeCloses_b53]
  split <;> rfl
/-! alive -/
def CES (s : tS) (a nx : Nat) (C : codes) (S : List Nat) (o : Nat) (σ : bS) : Prop := CP s nx σ ∧ KCx a C S σ ∧ okK S o ∧ o ≤ 6 ∧ a + C.length + pnd S ≤ nx
def COut (s : tS) (a : Nat) (r : sR) (σ0 σ : bS) : Prop := match r with
  | .inl (f, p) => CD s f (tpl s p) σ
  | .inr (nx, C) => CP s nx σ ∧ σ.1 23 3 = nI (a + C.length) ∧ AtC a C σ ∧ a + C.length ≤ nx ∧ frA a σ0 σ
theorem COut.tr {s : tS} {a : Nat} {r : sR} {σ0 σ1 σ : bS} (h : COut s a r σ1 σ) (f : frA a σ0 σ1) : COut s a r σ0 σ := by
  unfold COut at h ⊢
  cases r with
  | inl q => exact h
  | inr q => exact ⟨h.1, h.2.1, h.2.2.1, h.2.2.2.1, f.trans h.2.2.2.2⟩
theorem KCx.of {a : Nat} {C : codes} {S : List Nat} {σ σ' : bS} (h : KCx a C S σ) (h2 : σ'.2 = σ.2) (h3 : σ'.1 23 3 = σ.1 23 3) (h13 : σ'.1 44 13 = σ.1 44 13) : KCx a C S σ' := ⟨h3.trans h.1, h.2.1.of (by rw [h2]), h13.trans h.2.2.1, by rw [h2]; exact h.2.2.2⟩
/-- a FAULT within an E -/
theorem CP.deadS {s : tS} {nx f a : Nat} {C : codes} {S : List Nat} {σ : bS} (h : CP s nx σ) (hf : f = 1 ∨ f = 2) (hK : KCx a C S σ) (hl : S.length ≤ 20) (hl2 : a + C.length ≤ 402) : CDs s f (tpl s nx) (uI (uI σ 44 5 (nI f)) 44 0 (nI (tpl s nx))) := ⟨h.dead hf hK.1 hl2, S.length, hl, by
  rw [uI_1, if_neg (by decide), uI_1, if_neg (by decide)]
  exact hK.2.2.1⟩
theorem frZ_fail {σ : bS} {x y : Int32} : frZ σ (uI (uI σ 44 5 x) 44 0 y) := (frZ.u44 (by decide)).trans (frZ.u44 (by decide))
theorem c_signE {s : tS} {n a nx : Nat} {C : codes} {S : List Nat} {σ : bS} (hT : okT s) (hP : CP s nx σ) (hK : KCx a C S σ) (hl : S.length < 20) (hl2 : a + C.length ≤ 402) (hk : 1 < tkd s nx) : (nx < 400 ∧ ∃ σ', cReader_takeSign n σ = some σ' ∧ CP s (nx + 1) σ' ∧ KCx a C (tkd s nx :: S) σ' ∧ frZ σ σ' ∧ frA a σ σ') ∨ (¬ nx < 400 ∧ ∃ σ', cReader_takeSign n σ = some σ' ∧ CDs s 2 (tpl s nx) σ' ∧ frZ σ σ') := by
  have e13 : sI σ 44 13 = nI S.length := hK.2.2.1
  have e : ∀ i v, sI (uA σ 48 i v) 44 13 = nI S.length := fun _ _ => hK.2.2.1
  have k36 := hT.1 nx
  unfold cReader_takeSign
  rw [e13, show cn_20 = nI 20 by decide, if_neg (nI_ge hl (by omega)), c_kindE hP.1, ob_def]
  show (_ ∧ ∃ σ', bin_ (nI S.length) 20 (cReader_takeSign_b35 n (uI (uA σ 48 (nI S.length) (nI (tkd s nx))) 44 13 (sI (uA σ 48 (nI S.length) (nI (tkd s nx))) 44 13 + ci_1))) = some σ' ∧ _) ∨ (_ ∧ ∃ σ', bin_ (nI S.length) 20 (cReader_takeSign_b35 n (uI (uA σ 48 (nI S.length) (nI (tkd s nx))) 44 13 (sI (uA σ 48 (nI S.length) (nI (tkd s nx))) 44 13 + ci_1))) = some σ' ∧ _)
  rw [bin_nI hl (by decide), e, nI_s, cReader_takeSign_b35]
  have f1 : frZ σ (uA σ 48 (nI S.length) (nI (tkd s nx))) := ⟨frC.uA (Or.inr (Or.inr (Or.inr rfl))), fun _ _ => rfl⟩
  have f2 : frZ σ (uI (uA σ 48 (nI S.length) (nI (tkd s nx))) 44 13 (nI (S.length + 1))) := f1.trans (frZ.u44 (by decide))
  have hP2 : CP s nx (uI (uA σ 48 (nI S.length) (nI (tkd s nx))) 44 13 (nI (S.length + 1))) := ⟨⟨hP.1.1.fr f2, by rw [uI_1, if_neg (by decide)]; exact hP.1.2.1, hP.1.2.2.1, hP.1.2.2.2⟩, by rw [uI_1, if_neg (by decide)]; exact hP.2⟩
  have rd : ∀ j, (uI (uA σ 48 (nI S.length) (nI (tkd s nx))) 44 13 (nI (S.length + 1))).2.1 48 j = if j = S.length then nI (tkd s nx) else σ.2.1 48 j := fun j => by
    rw [uI_2, uA_2, nI_clamp (by omega)]
    simp
  have e24 : (uI (uA σ 48 (nI S.length) (nI (tkd s nx))) 44 13 (nI (S.length + 1))).2.1 24 = σ.2.1 24 := by rw [uI_2, uA_o _ _ _ _ (by decide)]
  have hK2 : KCx a C (tkd s nx :: S) (uI (uA σ 48 (nI S.length) (nI (tkd s nx))) 44 13 (nI (S.length + 1))) := by
    refine ⟨?_, hK.2.1.of e24, ?_, ?_, hK.2.2.2.of (fun j hj => by rw [rd, if_neg (by omega)])⟩
    · rw [uI_1, if_neg (by decide)]
      exact hK.1
    · rw [uI_1, if_pos ⟨rfl, rfl⟩, List.length_cons]
    · rw [rd, if_pos rfl]
      rfl
  rw [c_kindE hP2.1, ob_def]
  show (_ ∧ ∃ σ', (ob (cReader_take n (nI (tkd s nx)) (uI (uA σ 48 (nI S.length) (nI (tkd s nx))) 44 13 (nI (S.length + 1)))) fun q2 => some q2) = some σ' ∧ _) ∨ (_ ∧ ∃ σ', (ob (cReader_take n (nI (tkd s nx)) (uI (uA σ 48 (nI S.length) (nI (tkd s nx))) 44 13 (nI (S.length + 1)))) fun q2 => some q2) = some σ' ∧ _)
  rcases c_takeE (n := n) hT rfl hk k36 hP2 with ⟨-, y, t1, t2⟩ | ⟨f, hf, t1, t2⟩
  · left
    rw [t1, ob_def]
    exact ⟨y, _, rfl, t2, hK2.of rfl (by rw [uI_1, if_neg (by decide)]) (by rw [uI_1, if_neg (by decide)]), f2.trans (frZ.u44 (by decide)), fun i _ => congrFun e24 i⟩
  · rcases t1 with ⟨-, y, rfl⟩ | ⟨y, -⟩
    · right
      rw [t2, ob_def]
      exact ⟨y, _, rfl, hP2.deadS hf hK2 (by rw [List.length_cons]; omega) hl2, f2.trans frZ_fail⟩
    · exact absurd rfl y
theorem c_told {s : tS} {n a nx op arg : Nat} {C : codes} {S : List Nat} {o : Nat} {x y z : Int32} {σ : bS} (hT : okT s) (h : CES s a nx C S o σ) (hk : 1 < tkd s nx) (hx : x = nI op) (hy : y = nI arg) (hz : z = nI (tkd s nx)) : ∃ σ', (ob (cLaws_add_s n x y σ) fun q1 => ob (cReader_take n z q1.2) fun q2 => cReader_takeUnit_b72 n q2) = some σ' ∧ frZ σ σ' ∧ ((nx < 400 ∧ CES s a (nx + 1) (C ++ [(op, arg)]) S o σ' ∧ frA a σ σ') ∨ (¬ nx < 400 ∧ CDs s 2 (tpl s nx) σ')) := by
  obtain ⟨hP, hK, hO, ho, hb⟩ := h
  have nx4 := hP.1.2.2.1
  have ol := hO.len
  have w2 := wgt_le (S.headD 11)
  have hm : a + C.length < 402 := by omega
  rw [c_addE hx hy hK.1 hm, ob_def]
  obtain ⟨q1, q2, q3, q4, q5⟩ := aS_is (σ := σ) (l := a + C.length) (v := nI (arg * 8 + op)) (by omega)
  obtain ⟨a1, a2⟩ := aS_at (σ := σ) (op := op) (arg := arg) hK.2.1 hm
  have len : (C ++ [(op, arg)]).length = C.length + 1 := by rw [List.length_append, List.length_singleton]
  have hP1 : CP s nx (aS σ (a + C.length) (nI (arg * 8 + op))) := ⟨⟨hP.1.1.fr q3, by rw [q4]; exact hP.1.2.1, hP.1.2.2.1, hP.1.2.2.2⟩, by rw [q4]; exact hP.2⟩
  have hK1 : KCx a (C ++ [(op, arg)]) S (aS σ (a + C.length) (nI (arg * 8 + op))) := ⟨by rw [q1, len, Nat.add_assoc], a1, by rw [q4]; exact hK.2.2.1, by rw [q5]; exact hK.2.2.2⟩
  show ∃ σ', (ob (cReader_take n z (aS σ (a + C.length) (nI (arg * 8 + op)))) fun q2 => cReader_takeUnit_b72 n q2) = some σ' ∧ _
  rcases c_takeE (n := n) hT hz hk (hT.1 nx) hP1 with ⟨-, y, t1, t2⟩ | ⟨f, hf, t1, t2⟩
  · rw [t1, ob_def, cReader_takeUnit_b72]
    exact ⟨_, rfl, q3.trans (frZ.u44 (by decide)), Or.inl ⟨y, ⟨t2, hK1.of rfl (by rw [uI_1, if_neg (by decide)]) (by rw [uI_1, if_neg (by decide)]), hO, ho, by omega⟩, a2.trans (frA.of rfl)⟩⟩
  · rcases t1 with ⟨-, y, rfl⟩ | ⟨y, -⟩
    · rw [t2, ob_def, cReader_takeUnit_b72]
      exact ⟨_, rfl, q3.trans frZ_fail, Or.inr ⟨y, hP1.deadS hf hK1 (by omega) (by omega)⟩⟩
    · exact absurd rfl y
theorem c_unitE {s : tS} {n a nx : Nat} {C : codes} {S : List Nat} {o : Nat} {σ : bS} (hT : okT s) (h : CES s a nx C S o σ) : ∃ σ', cReader_takeUnit n σ = some σ' ∧ frZ σ σ' ∧ ((tkd s nx = 3 ∧ nx < 400 ∧ CES s a (nx + 1) (C ++ [(0, tvl s nx)]) S o σ' ∧ frA a σ σ') ∨ (29 ≤ tkd s nx ∧ nx < 400 ∧ CES s a (nx + 1) (C ++ [(1, tkd s nx - 29)]) S o σ' ∧ frA a σ σ') ∨ ((tkd s nx = 3 ∨ 29 ≤ tkd s nx) ∧ ¬ nx < 400 ∧ CDs s 2 (tpl s nx) σ') ∨ (¬ tkd s nx = 3 ∧ ¬ 29 ≤ tkd s nx ∧ CDs s 1 (tpl s nx) σ')) := by
  have hE := h
  obtain ⟨hP, hK, hO, ho, hb⟩ := h
  have nx4 := hP.1.2.2.1
  have ol := hO.len
  have w2 := wgt_le (S.headD 11)
  have k36 := hT.1 nx
  unfold cReader_takeUnit
  rw [c_kindE hP.1, ob_def, show ci_3 = nI 3 by decide]
  show ∃ σ', (if nI (tkd s nx) = nI 3 then bin_ (sI σ 44 4) 401 (ob (cLaws_add_s n ci_0 ((sJ σ 52 (sI σ 44 4))).toInt32 σ) fun q4 => ob (cReader_take n (nI (tkd s nx)) q4.2) fun q5 => cReader_takeUnit_b72 n q5) else if nI (tkd s nx) < cb_29 then ob (cReader_fail n ci_1 σ) fun q6 => cReader_takeUnit_b72 n q6 else cReader_takeUnit_b55 n (nI (tkd s nx)) ci_1 (nI (tkd s nx) - cb_29) σ) = some σ' ∧ _
  by_cases z : tkd s nx = 3
  · have ev : (sJ σ 52 (nI nx)).toInt32 = nI (tvl s nx) := by
      show (σ.2.2 52 (nI nx).toNatClampNeg).toInt32 = _
      rw [nI_clamp (by omega), (hP.1.1 nx nx4 hP.1.2.2.2).2.2.2 z, Int32.toInt32_toInt64]
    rw [if_pos (by rw [z]), show sI σ 44 4 = nI nx from hP.1.2.1, bin_nI (by omega) (by decide), ev]
    obtain ⟨σ', a1, a2, a3⟩ := c_told (n := n) (op := 0) (arg := tvl s nx) (x := ci_0) hT hE (by omega) (by decide) rfl rfl
    refine ⟨σ', a1, a2, ?_⟩
    rcases a3 with ⟨b1, b2, b3⟩ | ⟨b1, b2⟩
    · exact Or.inl ⟨z, b1, b2, b3⟩
    · exact Or.inr (Or.inr (Or.inl ⟨Or.inl z, b1, b2⟩))
  · rw [if_neg (fun u => z ((nI_eqI (by omega) (by decide)).mp u)), show cb_29 = nI 29 by decide]
    by_cases y : 29 ≤ tkd s nx
    · rw [if_neg (fun u => by have := (nI_ltI (by omega) (by omega)).mp u; omega), nI_sub y, cReader_takeUnit_b55]
      obtain ⟨σ', a1, a2, a3⟩ := c_told (n := n) (op := 1) (arg := tkd s nx - 29) (x := ci_1) hT hE (by omega) (by decide) rfl rfl
      refine ⟨σ', a1, a2, ?_⟩
      rcases a3 with ⟨b1, b2, b3⟩ | ⟨b1, b2⟩
      · exact Or.inr (Or.inl ⟨y, b1, b2, b3⟩)
      · exact Or.inr (Or.inr (Or.inl ⟨Or.inr y, b1, b2⟩))
    · rw [if_pos ((nI_ltI (by omega) (by omega)).mpr (by omega)), c_failE (show ci_1 = nI 1 by decide) hP, ob_def, cReader_takeUnit_b72]
      exact ⟨_, rfl, frZ_fail, Or.inr (Or.inr (Or.inr ⟨z, y, hP.deadS (Or.inl rfl) hK (by omega) (by omega)⟩))⟩
theorem c_set {s : tS} {n w a nx o : Nat} {S : List Nat} {C : codes} {σ : bS} {x : Int32} (hn : 100 ≤ n) (hx : x = nI w) (hw1 : 1 ≤ w) (hw : w ≤ 2) (h : CES s a nx C S o σ) : ∃ σ', cReader_settleSigns n x σ = some σ' ∧ CES s a nx (setl w C S).1 (setl w C S).2 o σ' ∧ frZ σ σ' ∧ frA a σ σ' := by
  obtain ⟨hP, hK, hO, ho, hb⟩ := h
  have nx4 := hP.1.2.2.1
  have ol := hO.len
  have w2 := wgt_le (S.headD 11)
  obtain ⟨s1, s2, s3, s4⟩ := setl_ok hw1 C hO
  obtain ⟨σ', a1, a2, a3, a4, a5⟩ := c_set_l (n := n) (a := a) hw1 hw S C σ n o hO hK (by omega) (by omega) (by omega)
  rw [hx]
  exact ⟨σ', a1, ⟨⟨⟨hP.1.1.fr a3, (a5 4 (by decide)).trans hP.1.2.1, hP.1.2.2.1, hP.1.2.2.2⟩, (a5 5 (by decide)).trans hP.2⟩, a2, s1, ho, by omega⟩, a3, a4⟩
/-- the end of an E -/
theorem c_105E {s : tS} {n a nx : Nat} {C : codes} {S : List Nat} {o : Nat} {σ : bS} (hT : okT s) (hn : 100 ≤ n) (h : CES s a nx C S o σ) (hk : o = 0 ∨ ¬ tkd s nx = 12) : ∃ σ', cReader_takeSum_b105 n (nI o) σ = some σ' ∧ frZ σ σ' ∧ COut s a (if o = 0 then .inr (nx, (setl 1 C S).1) else .inl (1, nx)) σ σ' := by
  have hE := h
  obtain ⟨hP, hK, hO, ho, hb⟩ := h
  have nx4 := hP.1.2.2.1
  have ol := hO.len
  have w2 := wgt_le (S.headD 11)
  rw [cReader_takeSum_b105]
  by_cases z : o = 0
  · obtain ⟨σ', a1, a2, a3, a4⟩ := c_set (n := n) (w := 1) (x := ci_1) hn (by decide) (by omega) (by omega) hE
    rw [if_pos (by rw [z]; exact Int32.le_refl _), cReader_takeSum_b115, a1, ob_def, if_pos z]
    exact ⟨σ', rfl, a3, a2.1, a2.2.1.1, a2.2.1.2.1, by have := a2.2.2.2.2; omega, a4⟩
  · have hk := hk.resolve_left z
    rw [if_neg (show ¬ nI o ≤ 0 from nI_ge (a := 0) (by omega) (by omega)), if_neg z]
    rcases c_takeE (n := n) (x := cb_12) (k := 12) hT (by decide) (by omega) (by omega) hP with ⟨y, -⟩ | ⟨f, hf, t1, t2⟩
    · exact absurd y hk
    · rcases t1 with ⟨y, -⟩ | ⟨-, rfl⟩
      · exact absurd y hk
      · rw [t2, ob_def]
        obtain ⟨σ', b1, b2, b3⟩ := c_115D (n := n) (by omega) (hP.deadS (f := 1) hf hK (by omega) (by omega))
        exact ⟨σ', b1, frZ_fail.trans b3, b2⟩
theorem maxE {n x : Nat} {σ : bS} (hx : x < 2 ^ 31) : cj_max n ci_0 (nI x) σ = some (nI x, σ) := by
  unfold cj_max
  rw [show ci_0 = nI 0 by decide]
  by_cases z : 0 < x
  · rw [if_pos ((nI_ltI (by omega) hx).mpr z)]
    rfl
  · have e : x = 0 := by omega
    subst e
    rw [if_neg (fun u => z ((nI_ltI (by omega) (by omega)).mp u))]
    rfl
