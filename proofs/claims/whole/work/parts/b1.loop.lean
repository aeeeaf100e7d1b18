/-! a text, statement by statement -/
def LpO (s : tS) (r v : Int32) (σC σM : bS) : Prop := (v = 0 ∧ ∃ f p, (f = 1 ∨ f = 2) ∧ r = nI f ∧ σC.1 44 0 = nI p ∧ MF f p σM) ∨ (v = 1 ∧ ∃ f j, 3 ≤ f ∧ f ≤ 5 ∧ r = nI f ∧ σC.1 44 0 = nI (tpl s j) ∧ σM.1 0 10 = nI f ∧ σM.1 0 11 = nI (tpl s j)) ∨ (v = 1 ∧ r = 0 ∧ σM.1 0 10 = 0 ∧ ∃ N B P G M a m, Cnt N B P G M σC σM ∧ PC B P G M a m σC σM ∧ a ≤ 400 ∧ m ≤ 400 ∧ σC.1 23 3 = nI a)
theorem m_parse1 {s : tS} {n k nx : Nat} {σ : bS} (hT : okT s) (h : MP s nx σ) (h0 : ¬ tkd s nx = 0) : m_parses_b4 n (k + 1) σ = ob (mSt n (m_tellOne n σ)) fun q => if q.1 = 0 then some (0, q.2) else m_parses_b4 n k q.2 := by
  have kin := mkK_in (tkd s nx)
  rw [m_parses_b4, h.bin, h.kind, if_neg (show ¬ nI (mkK (tkd s nx)) = ci_4 from fun u => h0 (mkK_4.mp (nI_inj (by omega) (by decide) (u.trans ci_4_n)))), mSt]
  cases m_tellOne n σ with
  | none => rfl
  | some q1 =>
    rw [ob_def, ob_def]
    by_cases z : q1.1 = 0
    · rw [if_pos z, if_pos z, m_parses_b33, bz_0, ob_def, if_pos rfl]
    · rw [if_neg z, if_neg z]
      cases m_takesSign n cb_59 q1.2 with
      | none => rfl
      | some q2 =>
        rw [ob_def, ob_def, ob_def]
        by_cases y : q2.1 = 0
        · rw [if_pos y, if_pos y, m_parses_b33, bz_0]
        · rw [if_neg y, if_neg y]
theorem c_end {s : tS} {n f p : Nat} {σ : bS} (h : CD s f p σ) : cReader_readInto_14_43_b300 n σ = some (nI f, σ) := by
  unfold cReader_readInto_14_43_b300
  rw [if_neg h.ne, cReader_readInto_14_43_b323, show sI σ 44 5 = nI f from h.1]
theorem st_loop {s : tS} {n : Nat} (hn : 500 ≤ n) (hT : okT s) : ∀ (k nx j fC fM : Nat) (U : Option (Nat × Nat)) (N : nmS) (B P G M a m : Nat) (σC σM : bS), 401 ≤ nx + k → j ≤ nx → k + 2 ≤ fC → k + 1 ≤ fM → PR s nx U N B P G M a m σC σM → ∃ r v σC' σM', cReader_readInto_14_43_b10 n fC (nI j) σC = some (r, σC') ∧ m_parses_b4 n fM σM = some (v, σM') ∧ frQq σC σC' ∧ frJ σM σM' ∧ LpO s r v σC' σM' := by
  intro k
  induction k with
  | zero =>
    intro nx j fC fM U N B P G M a m σC σM h1 h2 h3 h4 h
    have := h.1.1.1.1.2.2.1
    omega
  | succ k ih =>
    intro nx j fC fM U N B P G M a m σC σM h1 h2 h3 h4 h
    obtain ⟨fC, rfl⟩ : ∃ f', fC = f' + 1 + 1 := ⟨fC - 2, by omega⟩
    obtain ⟨fM, rfl⟩ : ∃ f', fM = f' + 1 := ⟨fM - 1, by omega⟩
    have hC := h.1.1.1
    have hM := h.1.1.2
    have nx4 := hC.1.2.2.1
    have k36 := hT.1 nx
    by_cases z : tkd s nx = 0
    · obtain ⟨⟨-, -⟩, ⟨ha1, ha2, hm1, hm2⟩, ⟨hU, hUC, hUM⟩, -⟩ := h.1
      rw [cReader_readInto_14_43_b10, cs_400_n, if_neg (fun u => by have := (nI_ltI (by omega) (by omega)).mp u; omega), if_pos (show sI σC 44 5 = 0 from hC.2), c_kindE hC.1, ob_def, z, if_pos (show nI 0 = 0 from rfl), m_parses_b4, hM.bin, hM.kind, z, if_pos (show nI (mkK 0) = ci_4 by decide), bz_1]
      show ∃ r v σC' σM', cReader_readInto_14_43_b300 n σC = some (r, σC') ∧ _
      unfold cReader_readInto_14_43_b300
      rw [if_pos (show sI σC 44 5 = 0 from hC.2), cReader_readInto_14_43_b323]
      have r5 : sI (uI (uI σC 44 5 (sI σC 44 6)) 44 0 (sI (uI σC 44 5 (sI σC 44 6)) 44 7)) 44 5 = σC.1 44 6 := by
        show (uI (uI σC 44 5 (sI σC 44 6)) 44 0 (sI (uI σC 44 5 (sI σC 44 6)) 44 7)).1 44 5 = _
        rw [uI_1, if_neg (by decide), uI_1, if_pos ⟨rfl, rfl⟩]
      have r0 : (uI (uI σC 44 5 (sI σC 44 6)) 44 0 (sI (uI σC 44 5 (sI σC 44 6)) 44 7)).1 44 0 = σC.1 44 7 := by
        rw [uI_1, if_pos ⟨rfl, rfl⟩]
        show (uI σC 44 5 (sI σC 44 6)).1 44 7 = _
        rw [uI_1, if_neg (by decide)]
      refine ⟨_, _, _, _, rfl, rfl, frQq.u44.trans frQq.u44, frJ.rf, Or.inr ?_⟩
      rw [r5]
      cases U with
      | some q =>
        obtain ⟨f, j0⟩ := q
        have hUC : σC.1 44 6 = nI f ∧ σC.1 44 7 = nI (tpl s j0) := hUC
        have hUM : σM.1 0 10 = nI f ∧ σM.1 0 11 = nI (tpl s j0) := hUM
        have hf := hU f j0 rfl
        exact Or.inl ⟨rfl, f, j0, hf.1, hf.2.1, hUC.1, r0.trans hUC.2, hUM.1, hUM.2⟩
      | none =>
        have hUC : σC.1 44 6 = nI 0 := hUC
        have hUM : σM.1 0 10 = nI 0 := hUM
        have e14 : (uI (uI σC 44 5 (sI σC 44 6)) 44 0 (sI (uI σC 44 5 (sI σC 44 6)) 44 7)).1 14 = σC.1 14 := by
          funext i
          rw [uI_1, if_neg (by omega), uI_1, if_neg (by omega)]
        refine Or.inr ⟨rfl, hUC, hUM, N, B, P, G, M, a, m, h.2.1.of (fun i _ => by rw [e14]) (fun _ _ => rfl), ?_, by omega, by omega, ?_⟩
        · obtain ⟨q1, q2, q3, q4, q5⟩ := h.2.2 rfl
          exact ⟨q1.of (Nat.le_refl _) rfl (fun _ _ _ _ _ => rfl), q2.of (Nat.le_refl _) (fun _ _ _ _ _ => rfl) (fun _ _ _ _ _ => rfl), q3.of (Nat.le_refl _) (fun _ _ _ _ _ => rfl) (fun _ _ _ _ _ => rfl), q4.of (fun i _ => by rw [e14]) rfl, PCl.of q5 (fun i _ _ => by rw [e14]) (fun _ _ => rfl) (fun _ _ _ => rfl)⟩
        · rw [uI_1, if_neg (by decide), uI_1, if_neg (by decide)]
          exact ha1
    · rw [c_stepO hT hC (by omega) z, m_parse1 hT hM z]
      obtain ⟨σ1, σ2, t1, t2⟩ := st_any (n := n) hn hT h
      rw [t1, ob_def]
      rcases t2 with ⟨t3, dd⟩ | ⟨t3, t4, t5, nx', U', N', B', P', G', M', a', m', t6, t7⟩
      · obtain ⟨f, p, g1, g2, g3, g4⟩ := dd
        rw [t3, ob_def, if_pos rfl, cReader_readInto_14_43_b10, c_end g1]
        rw [if_neg g1.ne]
        refine ⟨nI f, 0, σ1, σ2, ?_, rfl, g3, g4, Or.inl ⟨rfl, f, p, g1.2.1, rfl, g1.2.2.1, g2⟩⟩
        split <;> rfl
      · rw [t3, ob_def, if_neg one_ne]
        obtain ⟨r, v, σ3, σ4, x1, x2, x3, x4, x5⟩ := ih nx' (j + 1) (fC + 1) fM U' N' B' P' G' M' a' m' σ1 σ2 (by omega) (by omega) (by omega) (by omega) t7
        exact ⟨r, v, σ3, σ4, x1, x2, t4.trans x3, t5.trans x4, x5⟩
