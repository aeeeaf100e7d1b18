theorem MP.fr {s : tS} {nx : Nat} {σ σ' : bS} (h : MP s nx σ) (f : frE σ σ') (h7 : σ'.1 0 7 = σ.1 0 7) : MP s nx σ' := ⟨h.1.fr f, h7.trans h.2.1, h.2.2.1, h.2.2.2⟩
theorem m_join {s : tS} {n nx : Nat} {σ : bS} (h : MP s nx σ) : m_joiner n σ = some (nI (if 6 ≤ tkd s nx ∧ tkd s nx ≤ 9 then tkd s nx - 4 else 0), σ) := by
  unfold m_joiner
  rw [show cb_43 = nI (sB 6) by decide, show cb_45 = nI (sB 7) by decide, show cb_42 = nI (sB 8) by decide, show cb_47 = nI (sB 9) by decide, m_isSg 6 h (by omega) (by omega), ob_def]
  by_cases z6 : tkd s nx = 6
  · rw [if_pos z6, z6]
    rfl
  rw [if_neg z6]
  simp only [if_true]
  rw [m_isSg 7 h (by omega) (by omega), ob_def]
  by_cases z7 : tkd s nx = 7
  · rw [if_pos z7, z7]
    rfl
  rw [if_neg z7]
  simp only [if_true]
  rw [m_isSg 8 h (by omega) (by omega), ob_def]
  by_cases z8 : tkd s nx = 8
  · rw [if_pos z8, z8]
    rfl
  rw [if_neg z8]
  simp only [if_true]
  rw [m_isSg 9 h (by omega) (by omega), ob_def]
  by_cases z9 : tkd s nx = 9
  · rw [if_pos z9, z9]
    rfl
  rw [if_neg z9]
  simp only [if_true]
  rw [if_neg (by omega)]
  rfl
/-- the reference within an E -/
def ES (s : tS) (m nx : Nat) (C : codes) (S : List Nat) (o : Nat) (σ : bS) : Prop := MP s nx σ ∧ KMx m C S σ ∧ σ.1 0 38 = nI o ∧ okK S o ∧ o ≤ 6 ∧ m + C.length + pnd S ≤ nx
theorem frB.of2 {m : Nat} {σ σ' : bS} (h : σ'.2 = σ.2) : frB m σ σ' := fun i _ => by
  rw [h]
  exact ⟨rfl, rfl⟩
theorem KMx.of {m : Nat} {C : codes} {S : List Nat} {σ σ' : bS} (h : KMx m C S σ) (h2 : σ'.2 = σ.2) (h36 : σ'.1 0 36 = σ.1 0 36) : KMx m C S σ' := by
  obtain ⟨a, b, c, d⟩ := h
  exact ⟨by rw [h2]; exact a, b.of (by rw [h2]) (by rw [h2]), h36.trans c, by rw [h2]; exact d⟩
/-- a unit told, and passed -/
theorem m_told {s : tS} {n m nx op arg : Nat} {C : codes} {S : List Nat} {o : Nat} {σ : bS} {x y : Int32} (hT : okT s) (h : ES s m nx C S o σ) (hk : 1 < tkd s nx) (hx : x = nI op) (hy : y = nI arg) : ∃ v σ', m_takesUnit_b160 n x y σ = some (v, σ') ∧ frE σ σ' ∧ frB m σ σ' ∧ ((nx < 400 ∧ v = 0 ∧ ES s m (nx + 1) (C ++ [(op, arg)]) S o σ') ∨ (¬ nx < 400 ∧ v = -1 ∧ MF 2 (tpl s nx) σ')) := by
  obtain ⟨hP, hK, h38, hO, ho, hb⟩ := h
  have nx4 := hP.2.2.1
  have hm : m + C.length < 500 := by omega
  unfold m_takesUnit_b160
  rw [hx, hy, m_emit_eq hK.1 hm, ob_def]
  obtain ⟨q1, q2, q3, q4, q5, q6⟩ := eM_is (σ := σ) (a := nI op) (b := nI arg) hm
  obtain ⟨a1, a2⟩ := eM_at (σ := σ) (op := op) (arg := arg) hK.2.1 hm
  have hP1 : MP s nx (eM σ (m + C.length) (nI op) (nI arg)) := hP.fr q6 (by rw [q1])
  rcases m_pass_eq (n := n) hT hP1 hk with ⟨z, p1, p2⟩ | ⟨z, σ', p1, p2, p3, p4⟩
  · rw [p2, ob_def, if_neg one_ne, m_takesUnit_b175]
    have len : (C ++ [(op, arg)]).length = C.length + 1 := by rw [List.length_append, List.length_singleton]
    refine ⟨0, _, rfl, q6.trans (frE.uI (by decide)), a2.trans (frB.of2 rfl), Or.inl ⟨z, rfl, p1, ⟨?_, a1.of rfl rfl, ?_, ?_⟩, ?_, hO, ho, by omega⟩⟩
    · rw [uI_2, q2, len, Nat.add_assoc]
    · rw [uI_1, if_neg (by decide), q1]
      exact hK.2.2.1
    · rw [uI_2, q3]
      exact hK.2.2.2
    · rw [uI_1, if_neg (by decide), q1]
      exact h38
  · rw [p1, ob_def, if_pos rfl, m_takesUnit_b175, cim1]
    exact ⟨-1, σ', rfl, q6.trans p3, a2.trans (frB.of2 p4), Or.inr ⟨z, rfl, p2⟩⟩
theorem m_unit {s : tS} {n m nx : Nat} {C : codes} {S : List Nat} {o : Nat} {σ : bS} (hT : okT s) (h : ES s m nx C S o σ) : ∃ v σ', m_takesUnit n σ = some (v, σ') ∧ frE σ σ' ∧ frB m σ σ' ∧ ((tkd s nx = 11 ∧ ¬ o = 6 ∧ nx < 400 ∧ v = 1 ∧ ES s m (nx + 1) C (11 :: S) (o + 1) σ') ∨ (tkd s nx = 3 ∧ nx < 400 ∧ v = 0 ∧ ES s m (nx + 1) (C ++ [(0, tvl s nx)]) S o σ') ∨ (29 ≤ tkd s nx ∧ nx < 400 ∧ v = 0 ∧ ES s m (nx + 1) (C ++ [(1, tkd s nx - 29)]) S o σ') ∨ (v = -1 ∧ ((tkd s nx = 11 ∧ (o = 6 ∨ ¬ nx < 400) ∧ MF 2 (tpl s nx) σ') ∨ (tkd s nx = 3 ∧ ¬ nx < 400 ∧ MF 2 (tpl s nx) σ') ∨ (29 ≤ tkd s nx ∧ ¬ nx < 400 ∧ MF 2 (tpl s nx) σ') ∨ (¬ tkd s nx = 11 ∧ ¬ tkd s nx = 3 ∧ ¬ 29 ≤ tkd s nx ∧ MF 1 (tpl s nx) σ')))) := by
  have hE := h
  obtain ⟨hP, hK, h38, hO, ho, hb⟩ := h
  have km := mkK_in (tkd s nx)
  have k36 := hT.1 nx
  have tv := hP.1 nx hP.2.2.2
  have nx4 := hP.2.2.1
  have ol := hO.len
  have w2 := wgt_le (S.headD 11)
  unfold m_takesUnit
  rw [show cb_40 = nI (sB 11) by decide, m_isSg 11 hP (by omega) (by omega), ob_def]
  by_cases z : tkd s nx = 11
  · rw [if_pos z]
    simp only [if_neg one_ne]
    rw [show sI σ 0 38 = nI o from h38, show cb_6 = nI 6 by decide]
    by_cases y : o = 6
    · obtain ⟨σ', a1, a2, a3, a4⟩ := m_wrong_eq (n := n) (x := ci_2) (f := 2) (by decide) hP
      rw [if_pos (by rw [y]), a1, ob_def, if_pos rfl, m_takesUnit_b31, cim1]
      exact ⟨-1, σ', rfl, a3, frB.of2 a4, Or.inr (Or.inr (Or.inr ⟨rfl, Or.inl ⟨z, Or.inl y, a2⟩⟩))⟩
    · rw [if_neg (fun u => y ((nI_eqI (by omega) (by decide)).mp u))]
      rcases m_pass_eq (n := n) hT hP (by omega) with ⟨w, p1, p2⟩ | ⟨w, σ', p1, p2, p3, p4⟩
      · rw [p2, ob_def, if_neg one_ne]
        have e38 : sI (uI σ 0 7 (nI (nx + 1))) 0 38 = nI o := h38
        show ∃ v σ', (ob (m_await n ci_0 (uI (uI σ 0 7 (nI (nx + 1))) 0 38 (sI (uI σ 0 7 (nI (nx + 1))) 0 38 + ci_1))) fun q7 => some (ci_1, q7)) = some (v, σ') ∧ _
        rw [e38, nI_s]
        obtain ⟨σ', b1, b2, b3, b4, b5⟩ := m_aw (n := n) (x := 11) (y := ci_0) (m := m) (C := C) (S := S) (σ := uI (uI σ 0 7 (nI (nx + 1))) 0 38 (nI (o + 1))) (by decide) (hK.of rfl rfl) (by omega)
        rw [b1, ob_def]
        have f1 : frE σ (uI (uI σ 0 7 (nI (nx + 1))) 0 38 (nI (o + 1))) := (frE.uI (by decide)).trans (frE.uI (by decide))
        refine ⟨1, σ', rfl, f1.trans b3, (frB.of2 rfl).trans b4, Or.inl ⟨z, y, w, rfl, (p1.fr (frE.uI (by decide)) rfl).fr b3 (b5 7 (by decide)), b2, ?_, Or.inl ⟨rfl, o, rfl, hO⟩, by omega, ?_⟩⟩
        · rw [b5 38 (by decide), uI_1, if_pos ⟨rfl, rfl⟩]
        · rw [pnd, if_pos rfl]
          omega
      · rw [p1, ob_def, if_pos rfl, cim1]
        exact ⟨-1, σ', rfl, p3, frB.of2 p4, Or.inr (Or.inr (Or.inr ⟨rfl, Or.inl ⟨z, Or.inr w, p2⟩⟩))⟩
  · rw [if_neg z]
    simp only [if_true]
    rw [hP.bin, hP.kind, show ci_3 = nI 3 by decide]
    -- what is no look-up word
    have rest : ¬ 29 ≤ tkd s nx → ∃ v σ', m_takesUnit_b90 n ci_0 σ = some (v, σ') ∧ frE σ σ' ∧ frB m σ σ' ∧ ((tkd s nx = 11 ∧ ¬ o = 6 ∧ nx < 400 ∧ v = 1 ∧ ES s m (nx + 1) C (11 :: S) (o + 1) σ') ∨ (tkd s nx = 3 ∧ nx < 400 ∧ v = 0 ∧ ES s m (nx + 1) (C ++ [(0, tvl s nx)]) S o σ') ∨ (29 ≤ tkd s nx ∧ nx < 400 ∧ v = 0 ∧ ES s m (nx + 1) (C ++ [(1, tkd s nx - 29)]) S o σ') ∨ (v = -1 ∧ ((tkd s nx = 11 ∧ (o = 6 ∨ ¬ nx < 400) ∧ MF 2 (tpl s nx) σ') ∨ (tkd s nx = 3 ∧ ¬ nx < 400 ∧ MF 2 (tpl s nx) σ') ∨ (29 ≤ tkd s nx ∧ ¬ nx < 400 ∧ MF 2 (tpl s nx) σ') ∨ (¬ tkd s nx = 11 ∧ ¬ tkd s nx = 3 ∧ ¬ 29 ≤ tkd s nx ∧ MF 1 (tpl s nx) σ')))) := fun y => by
      rw [m_takesUnit_b90, hP.bin, hP.kind, ci1_nI]
      by_cases w : tkd s nx = 3
      · rw [if_pos ((nI_eqI (by omega) (by decide)).mpr (mkK_1.mpr w)), m_takesUnit_b122, if_pos (show (ci_0 : Int32) = 0 by decide), m_takesUnit_b132, if_pos (show (ci_0 : Int32) = 0 by decide), hP.bin, hP.val, tv.2.2.2.1 w]
        obtain ⟨v, σ', a1, a2, a3, a4⟩ := m_told (n := n) (op := 0) (arg := tvl s nx) (x := ci_0) hT hE (by omega) (by decide) rfl
        refine ⟨v, σ', a1, a2, a3, ?_⟩
        rcases a4 with ⟨b1, b2, b3⟩ | ⟨b1, b2, b3⟩
        · exact Or.inr (Or.inl ⟨w, b1, b2, b3⟩)
        · exact Or.inr (Or.inr (Or.inr ⟨b2, Or.inr (Or.inl ⟨w, b1, b3⟩)⟩))
      · obtain ⟨σ', a1, a2, a3, a4⟩ := m_wrong_eq (n := n) (x := nI 1) (f := 1) rfl hP
        rw [if_neg (fun u => w (mkK_1.mp ((nI_eqI (by omega) (by decide)).mp u))), if_pos (show (ci_0 : Int32) = 0 by decide), a1, ob_def, if_pos rfl, m_takesUnit_b121, cim1]
        exact ⟨-1, σ', rfl, a3, frB.of2 a4, Or.inr (Or.inr (Or.inr ⟨rfl, Or.inr (Or.inr (Or.inr ⟨z, w, y, a2⟩))⟩))⟩
    by_cases y : 13 ≤ tkd s nx
    · rw [if_pos ((nI_eqI (by omega) (by decide)).mpr (mkK_3.mpr y)), hP.bin, hP.val, tv.2.2.2.2.2 y, show cb_15 = nI 15 by decide]
      by_cases x : 29 ≤ tkd s nx
      · rw [if_neg (fun u => by have := (nI_leI (by omega) (by omega)).mp u; omega), m_takesUnit_b90, hP.bin, hP.kind, ci1_nI, if_neg (fun u => by have := mkK_1.mp ((nI_eqI (by omega) (by decide)).mp u); omega), if_neg (show ¬ nI 1 = 0 by decide), m_takesUnit_b122, if_neg (show ¬ nI 1 = 0 by decide), m_takesUnit_b132, if_neg (show ¬ nI 1 = 0 by decide), hP.bin, hP.val, tv.2.2.2.2.2 y, m_takesUnit_b148, show cb_16 = nI 16 by decide, nI_sub (by omega), show tkd s nx - 13 - 16 = tkd s nx - 29 by omega]
        obtain ⟨v, σ', a1, a2, a3, a4⟩ := m_told (n := n) (op := 1) (arg := tkd s nx - 29) (x := ci_1) hT hE (by omega) (by decide) rfl
        refine ⟨v, σ', a1, a2, a3, ?_⟩
        rcases a4 with ⟨b1, b2, b3⟩ | ⟨b1, b2, b3⟩
        · exact Or.inr (Or.inr (Or.inl ⟨x, b1, b2, b3⟩))
        · exact Or.inr (Or.inr (Or.inr ⟨b2, Or.inr (Or.inr (Or.inl ⟨x, b1, b3⟩))⟩))
      · rw [if_pos ((nI_leI (by omega) (by omega)).mpr (by omega)), m_takesUnit_b89]
        exact rest x
    · rw [if_neg (fun u => y (mkK_3.mp ((nI_eqI (by omega) (by decide)).mp u))), m_takesUnit_b89]
      exact rest (by omega)
