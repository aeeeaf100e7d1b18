/-! the reference's E, whole -/
def EOut (s : tS) (m : Nat) (r : sR) (v : Int32) (σ : bS) : Prop := match r with
  | .inl (f, p) => v = 0 ∧ MF f (tpl s p) σ
  | .inr (nx, C) => v = 1 ∧ MP s nx σ ∧ σ.2.1 6 1 = nI (m + C.length) ∧ AtM m C σ ∧ m + C.length ≤ nx
theorem wgt_in {x : Nat} (h : 6 ≤ x ∧ x ≤ 9) : 1 ≤ wgt x ∧ wgt x ≤ 2 := ⟨(wgt_op h).1, wgt_le x⟩
theorem m_expr_l {s : tS} {n m : Nat} (hn : 100 ≤ n) (hT : okT s) : ∀ (k fuel nx : Nat) (w : Bool) (C : codes) (S : List Nat) (o : Nat) (σ : bS), nx + k = 401 → ES s m nx C S o σ → k + 2 ≤ fuel → ∃ v σ', m_expr_b14 n fuel (if w = true then ci_1 else ci_0) ci_1 σ = some (v, σ') ∧ frE σ σ' ∧ frB m σ σ' ∧ EOut s m (sumA s k w nx C S o) v σ'
  | 0, fuel, nx, w, C, S, o, σ, e, hE, hf => by
    have := hE.1.2.2.1
    omega
  | k + 1, 0, nx, w, C, S, o, σ, e, hE, hf => by omega
  | k + 1, fuel + 1, nx, true, C, S, o, σ, e, hE, hf => by
    obtain ⟨v, σ1, a1, a2, a3, a4⟩ := m_unit (n := n) hT hE
    rw [if_pos rfl, m_expr_b14, if_neg (show ¬ (ci_1 : Int32) = 0 by decide), m_join hE.1, ob_def, if_neg (show ¬ (ci_1 : Int32) = 0 by decide)]
    show ∃ v σ', (ob (m_takesUnit n σ) fun q9 => _) = some (v, σ') ∧ _
    rw [a1, ob_def, sumA]
    rcases a4 with ⟨z, y, x, rfl, b⟩ | ⟨z, x, rfl, b⟩ | ⟨z, x, rfl, b⟩ | ⟨rfl, b⟩
    · rw [if_pos (show (0 : Int32) ≤ 1 by decide), if_pos (show (1 : Int32) = ci_1 by decide), m_expr_b51, m_expr_b134, if_pos z, if_neg y, if_pos x]
      obtain ⟨v, σ2, d1, d2, d3, d4⟩ := m_expr_l (m := m) hn hT k fuel (nx + 1) true C (11 :: S) (o + 1) σ1 (by omega) b (by omega)
      exact ⟨v, σ2, d1, a2.trans d2, a3.trans d3, d4⟩
    · rw [if_pos (show (0 : Int32) ≤ 0 by decide), if_neg (show ¬ (0 : Int32) = ci_1 by decide), m_expr_b51, m_expr_b134, if_neg (by omega), if_pos z, if_pos x]
      obtain ⟨v, σ2, d1, d2, d3, d4⟩ := m_expr_l (m := m) hn hT k fuel (nx + 1) false (C ++ [(0, tvl s nx)]) S o σ1 (by omega) b (by omega)
      exact ⟨v, σ2, d1, a2.trans d2, a3.trans d3, d4⟩
    · rw [if_pos (show (0 : Int32) ≤ 0 by decide), if_neg (show ¬ (0 : Int32) = ci_1 by decide), m_expr_b51, m_expr_b134, if_neg (by omega), if_neg (by omega), if_pos z, if_pos x]
      obtain ⟨v, σ2, d1, d2, d3, d4⟩ := m_expr_l (m := m) hn hT k fuel (nx + 1) false (C ++ [(1, tkd s nx - 29)]) S o σ1 (by omega) b (by omega)
      exact ⟨v, σ2, d1, a2.trans d2, a3.trans d3, d4⟩
    · rw [if_neg (show ¬ (0 : Int32) ≤ -1 by decide)]
      refine ⟨0, σ1, rfl, a2, a3, ?_⟩
      rcases b with ⟨z, y, x⟩ | ⟨z, y, x⟩ | ⟨z, y, x⟩ | ⟨z, y, x, u⟩
      · rw [if_pos z]
        by_cases o6 : o = 6
        · rw [if_pos o6]
          exact ⟨rfl, x⟩
        · rw [if_neg o6, if_neg (y.resolve_left o6)]
          exact ⟨rfl, x⟩
      · rw [if_neg (by omega), if_pos z, if_neg y]
        exact ⟨rfl, x⟩
      · rw [if_neg (by omega), if_neg (by omega), if_pos z, if_neg y]
        exact ⟨rfl, x⟩
      · rw [if_neg z, if_neg y, if_neg x]
        exact ⟨rfl, u⟩
  | k + 1, fuel + 1, nx, false, C, S, o, σ, e, hE, hf => by
    have hE0 := hE
    obtain ⟨hP, hK, h38, hO, ho, hb⟩ := hE
    have nx4 := hP.2.2.1
    have ol := hO.len
    have w2 := wgt_le (S.headD 11)
    have k36 := hT.1 nx
    rw [if_neg Bool.false_ne_true, m_expr_b14, if_neg (show ¬ (ci_1 : Int32) = 0 by decide), m_join hP, ob_def, if_pos (show (ci_0 : Int32) = 0 by decide), sumA]
    by_cases z : 6 ≤ tkd s nx ∧ tkd s nx ≤ 9
    · have g : gM (tkd s nx) = tkd s nx - 4 := by
        unfold gM
        rw [if_neg (by omega)]
      have wi := wgt_in z
      rw [if_pos z, if_neg (show ¬ nI (tkd s nx - 4) ≤ 0 from nI_ge (a := 0) (by omega) (by omega)), ← g, m_rank_eq (Or.inr z), ob_def]
      obtain ⟨σ1, a1, a2, a3, a4, a5⟩ := m_red (n := n) (w := wgt (tkd s nx)) (x := nI (wgt (tkd s nx))) hn rfl wi.1 wi.2 hO ho hK (by omega)
      obtain ⟨s1, s2, s3, s4⟩ := setl_ok wi.1 C hO
      show ∃ v σ', (ob (m_reduce n (nI (wgt (tkd s nx))) σ) fun q6 => _) = some (v, σ') ∧ _
      rw [a1, ob_def]
      obtain ⟨σ2, c1, c2, c3, c4, c5⟩ := m_aw (n := n) (x := tkd s nx) (y := nI (gM (tkd s nx))) rfl a2 (by omega)
      rw [c1, ob_def]
      have hP2 : MP s nx σ2 := (hP.fr a3 (a5 7 (by decide))).fr c3 (c5 7 (by decide))
      rcases m_pass_eq (n := n) hT hP2 (by omega) with ⟨w, p1, p2⟩ | ⟨w, σ3, p1, p2, p3, p4⟩
      · rw [p2, ob_def, if_neg one_ne, m_expr_b134, if_pos z, if_pos w]
        have hE2 : ES s m (nx + 1) (setl (wgt (tkd s nx)) C S).1 (tkd s nx :: (setl (wgt (tkd s nx)) C S).2) o (uI σ2 0 7 (nI (nx + 1))) := by
          refine ⟨p1, c2.of rfl rfl, ?_, Or.inr ⟨z.1, z.2, s2, s1⟩, ho, ?_⟩
          · rw [uI_1, if_neg (by decide), c5 38 (by decide), a5 38 (by decide)]
            exact h38
          · rw [pnd, if_neg (wgt_op z).2]
            omega
        obtain ⟨v, σ4, d1, d2, d3, d4⟩ := m_expr_l (m := m) hn hT k fuel (nx + 1) true _ _ o _ (by omega) hE2 (by omega)
        exact ⟨v, σ4, d1, ((a3.trans c3).trans (frE.uI (by decide))).trans d2, ((a4.trans c4).trans (frB.of2 rfl)).trans d3, d4⟩
      · rw [p1, ob_def, if_pos rfl, if_pos z, if_neg w]
        exact ⟨0, σ3, rfl, (a3.trans c3).trans p3, (a4.trans c4).trans (frB.of2 p4), rfl, p2⟩
    · rw [if_neg z, if_neg z, if_pos (show (nI 0 : Int32) ≤ 0 from Int32.le_refl _)]
      show ∃ v σ', (if (sI σ 0 38) ≤ 0 then _ else _) = some (v, σ') ∧ _
      rw [show sI σ 0 38 = nI o from h38]
      by_cases y : o = 0
      · subst y
        obtain ⟨fuel', rfl⟩ : ∃ f', fuel = f' + 1 := ⟨fuel - 1, by omega⟩
        obtain ⟨σ1, a1, a2, a3, a4, a5⟩ := m_red (n := n) (w := 1) (x := ci_1) hn (by decide) (by omega) (by omega) hO (by omega) hK (by omega)
        obtain ⟨s1, s2, s3, s4⟩ := setl_ok (w := 1) (by omega) C hO
        rw [if_pos (show (nI 0 : Int32) ≤ 0 from Int32.le_refl _), m_expr_b134, m_expr_b14, if_pos (show (ci_0 : Int32) = 0 by decide)]
        show ∃ v σ', (ob (m_reduce n ci_1 σ) fun q1 => bz ci_1 q1) = some (v, σ') ∧ _
        rw [a1, ob_def, if_pos rfl]
        exact ⟨1, σ1, rfl, a3, a4, rfl, hP.fr a3 (a5 7 (by decide)), a2.1, a2.2.1, by omega⟩
      · rw [if_neg (show ¬ nI o ≤ 0 from nI_ge (a := 0) (by omega) (by omega)), if_neg y]
        unfold m_takesSign
        rw [show cb_41 = nI (sB 12) by decide, m_isSg 12 hP (by omega) (by omega), ob_def]
        by_cases x : tkd s nx = 12
        · rw [if_pos x]
          simp only [if_neg one_ne]
          rw [if_pos x]
          rcases m_pass_eq (n := n) hT hP (by omega) with ⟨w, p1, p2⟩ | ⟨w, σ3, p1, p2, p3, p4⟩
          · obtain ⟨σ1, a1, a2, a3, a4, a5⟩ := m_red (n := n) (w := 1) (x := ci_1) (m := m) (C := C) (σ := uI σ 0 7 (nI (nx + 1))) hn (by decide) (by omega) (by omega) hO ho (hK.of rfl rfl) (by omega)
            obtain ⟨s1, s2, s3, s4⟩ := setl_ok (w := 1) (by omega) C hO
            obtain ⟨S', t1, t2⟩ := s1.top (by omega) s2
            rw [t1] at a2 s3 s4
            have e36 : sI σ1 0 36 = nI (S'.length + 1) := a2.2.2.1
            have e38 : ∀ v, sI (uI σ1 0 36 v) 0 38 = nI o := fun v => by
              show (uI σ1 0 36 v).1 0 38 = _
              rw [uI_1, if_neg (by decide), a5 38 (by decide), uI_1, if_neg (by decide)]
              exact h38
            rw [p2, ob_def, m_takesSign_b20, show bz 1 (uI σ 0 7 (nI (nx + 1))) = some (1, uI σ 0 7 (nI (nx + 1))) from rfl, ob_def, if_neg one_ne]
            show ∃ v σ', (ob (m_reduce n ci_1 (uI σ 0 7 (nI (nx + 1)))) fun q4 => m_expr_b116 n (m_expr_b14 n fuel) ci_0 ci_1 ((sI q4 0 36) - ci_1) q4) = some (v, σ') ∧ _
            rw [a1, ob_def, m_expr_b116, e38, e36, ci1_nI, nI_sub (by omega), nI_sub (by omega), Nat.add_sub_cancel, ← ci1_nI, m_expr_b126, m_expr_b134, if_pos w, t1, List.tail_cons]
            rw [pnd, if_pos rfl] at s3
            have hE2 : ES s m (nx + 1) (setl 1 C S).1 S' (o - 1) (uI (uI σ1 0 36 (nI S'.length)) 0 38 (nI (o - 1))) := by
              refine ⟨((p1.fr a3 (a5 7 (by decide))).fr (frE.uI (by decide)) rfl).fr (frE.uI (by decide)) rfl, ⟨a2.1, a2.2.1.of rfl rfl, ?_, a2.2.2.2.2⟩, ?_, t2, by omega, by omega⟩
              · rw [uI_1, if_neg (by decide), uI_1, if_pos ⟨rfl, rfl⟩]
              · rw [uI_1, if_pos ⟨rfl, rfl⟩]
            obtain ⟨v, σ4, d1, d2, d3, d4⟩ := m_expr_l (m := m) hn hT k fuel (nx + 1) false _ _ (o - 1) _ (by omega) hE2 (by omega)
            have f1 : frE σ1 (uI (uI σ1 0 36 (nI S'.length)) 0 38 (nI (o - 1))) := (frE.uI (by decide)).trans (frE.uI (by decide))
            exact ⟨v, σ4, d1, (((frE.uI (by decide)).trans a3).trans f1).trans d2, (((frB.of2 rfl).trans a4).trans (frB.of2 rfl)).trans d3, d4⟩
          · rw [p1, ob_def, m_takesSign_b20, show bz 0 σ3 = some (0, σ3) from rfl, ob_def, if_pos rfl, if_neg w]
            exact ⟨0, σ3, rfl, p3, frB.of2 p4, rfl, p2⟩
        · obtain ⟨σ', a1, a2, a3, a4⟩ := m_wrong_eq (n := n) (x := ci_1) (f := 1) (by decide) hP
          rw [if_neg x]
          simp only [if_true]
          rw [a1, ob_def, m_takesSign_b20, show bz 0 σ' = some (0, σ') from rfl, ob_def, if_pos rfl, if_neg x]
          exact ⟨0, σ', rfl, a3, frB.of2 a4, rfl, a2⟩
theorem m_expr_eq {s : tS} {n m nx : Nat} {σ : bS} (hn : 500 ≤ n) (hT : okT s) (hP : MP s nx σ) (h6 : σ.2.1 6 1 = nI m) (hm : m ≤ nx) : ∃ v σ', m_expr n σ = some (v, σ') ∧ frE σ σ' ∧ frB m σ σ' ∧ EOut s m (sumA s (401 - nx) true nx [] [] 0) v σ' := by
  have nx4 := hP.2.2.1
  have f1 : frE σ (uI (uI σ 0 36 ci_0) 0 38 ci_0) := (frE.uI (by decide)).trans (frE.uI (by decide))
  have hE : ES s m nx [] [] 0 (uI (uI σ 0 36 ci_0) 0 38 ci_0) := by
    refine ⟨hP.fr f1 rfl, ⟨h6, (fun i hi => by cases hi), ?_, trivial⟩, ?_, rfl, by omega, hm⟩
    · rw [uI_1, if_neg (by decide), uI_1, if_pos ⟨rfl, rfl⟩]
      rfl
    · rw [uI_1, if_pos ⟨rfl, rfl⟩]
      rfl
  obtain ⟨v, σ', d1, d2, d3, d4⟩ := m_expr_l (n := n) (m := m) (by omega) hT (401 - nx) n nx true [] [] 0 _ (by omega) hE (by omega)
  unfold m_expr
  exact ⟨v, σ', d1, f1.trans d2, (frB.of2 rfl).trans d3, d4⟩
