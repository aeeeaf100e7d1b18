theorem cmpF_eq {a : Nat} {P A B D : codes} : cmpF a P (A, B, D) = P ++ cmpI (a + P.length) A B D := rfl
theorem c_law_l {s : tS} {n a : Nat} (hn : 500 ≤ n) (hT : okT s) : ∀ (k fuel j nx : Nat) (acc : List (codes × codes × codes)) (σ : bS), j + k = 5 → j ≤ 4 → j = acc.length → CP s nx σ → σ.1 23 3 = nI (a + (cmpP a acc).length) → AtC a (cmpP a acc) σ → a + (cmpP a acc).length ≤ nx → k + 1 < fuel → ∃ σ', cReader_takeLaw_b15 n fuel (nI a) (nI j) σ = some (nI a, σ') ∧ frZ σ σ' ∧ LCOut s a (lawA s k j nx acc) σ σ' := by
  intro k
  induction k with
  | zero =>
    intro fuel j nx acc σ hk hj4 hj hP h3 hA ha hf
    omega
  | succ k ih =>
    intro fuel j nx acc σ hk hj4 hj hP h3 hA ha hf
    obtain ⟨fuel, rfl⟩ : ∃ f', fuel = f' + 1 + 1 := ⟨fuel - 2, by omega⟩
    have k36 := hT.1 nx
    have nx4 := hP.1.2.2.1
    rw [cReader_takeLaw_b15, ci_4_n, if_neg (Int32.not_lt.mpr ((nI_leI (by omega) (by omega)).mpr hj4)), if_pos (show sI σ 44 5 = 0 from hP.2), c_kindE hP.1, ob_def, show cb_26 = nI 26 by decide, lawA]
    by_cases z : tkd s nx = 26
    · rw [if_pos (by rw [z]), if_pos z]
      by_cases y : j = 4
      · rw [if_pos (by rw [y]), if_pos y]
        show ∃ σ', (ob (cReader_fail n ci_2 σ) fun q15 => cReader_takeLaw_b46 n (cReader_takeLaw_b15 n (fuel + 1)) (nI a) (nI j) q15) = _ ∧ _
        have hD := hP.dead (f := 2) (Or.inr rfl) h3 (by omega)
        rw [c_failE (show ci_2 = nI 2 by decide) hP, ob_def, b46_is, c_takeD hD, ob_def]
        obtain ⟨σ1, a1, a2, a3⟩ := kAsD (n := n) (k := fuel) (x := nI a) (y := nI j) (by omega) hD
        exact ⟨σ1, a1, frZ_fail.trans a2, a3⟩
      · rw [if_neg (fun u => y ((nI_eqI (by omega) (by decide)).mp u)), if_neg y]
        show ∃ σ', cReader_takeLaw_b46 n (cReader_takeLaw_b15 n (fuel + 1)) (nI a) (nI j) σ = _ ∧ _
        rw [b46_is]
        rcases c_tkF (n := n) (x := cb_26) (k := 26) hT (by decide) (by omega) (by omega) hP h3 (by omega) with ⟨t0, t1, t2⟩ | ⟨t0, σ', t1, t2, t3⟩
        · have w : nx < 400 := by
            unfold tkF at t0
            rw [if_pos z] at t0
            by_cases w : nx < 400
            · exact w
            · rw [if_neg w] at t0
              omega
          rw [t1, ob_def, if_pos w, kAs]
          obtain ⟨σ1, a1, a2, a3⟩ := c_sumF (n := n) (a := a + (cmpP a acc).length) (nx := nx + 1) (σ := uI σ 44 4 (nI (nx + 1))) hn hT t2 (by rw [uI_1, if_neg (by decide)]; exact h3) (by omega)
          rw [a1, ob_def]
          have fz1 : frZ σ σ1 := (frZ.u44 (by decide)).trans a2
          rcases a3 with ⟨f, p, b1, b2⟩ | ⟨n1, A, b1, b2, b3, b4, b5, b6⟩
          · rw [b1]
            obtain ⟨σ2, c1, c2, c3⟩ := kLsD (n := n) (k := fuel) (x := nI a) (y := nI j) (by omega) b2
            exact ⟨σ2, c1, fz1.trans c2, c3⟩
          · rw [b1, kLs]
            have n14 := b2.1.2.2.1
            have fa1 : frA (a + (cmpP a acc).length) σ σ1 := (frA.of rfl).trans b6
            rcases c_tkF (n := n) (x := cb_10) (k := 10) hT (by decide) (by omega) (by omega) b2 b3 (by omega) with ⟨u0, u1, u2⟩ | ⟨u0, σ', u1, u2, u3⟩
            · rw [u1, ob_def, kBs]
              obtain ⟨σ2, c1, c2, c3⟩ := c_sumF (n := n) (a := a + (cmpP a acc).length + A.length) (nx := n1 + 1) (σ := uI σ1 44 4 (nI (n1 + 1))) hn hT u2 (by rw [uI_1, if_neg (by decide)]; exact b3) (by omega)
              rw [c1, ob_def]
              have fz2 : frZ σ σ2 := (fz1.trans (frZ.u44 (by decide))).trans c2
              show ∃ σ', _ ∧ _ ∧ LCOut s a (if ¬ tkF s 10 n1 = 0 then .inl (tkF s 10 n1, n1) else _) σ σ'
              rw [if_neg (fun u => u u0)]
              rcases c3 with ⟨f, p, g1, g2⟩ | ⟨n2, B, g1, g2, g3, g4, g5, g6⟩
              · rw [g1]
                obtain ⟨σ3, d1, d2, d3⟩ := kThD (n := n) (k := fuel) (x := nI a) (y := nI j) (by omega) g2
                exact ⟨σ3, d1, fz2.trans d2, d3⟩
              · rw [g1, kTh]
                have n24 := g2.1.2.2.1
                have fa2 : frA (a + (cmpP a acc).length + A.length) σ1 σ2 := (frA.of rfl).trans g6
                show ∃ σ', _ ∧ _ ∧ LCOut s a (if ¬ tkF s 27 n2 = 0 then .inl (tkF s 27 n2, n2) else _) σ σ'
                rcases c_tkF (n := n) (x := cb_27) (k := 27) hT (by decide) (by omega) (by omega) g2 g3 (by omega) with ⟨v0, v1, v2⟩ | ⟨v0, σ', v1, v2, v3⟩
                · rw [v1, ob_def, if_neg (fun u => u v0)]
                  have e3 : (uI σ2 44 4 (nI (n2 + 1))).1 23 3 = nI (a + (cmpP a acc).length + A.length + B.length) := by
                    rw [uI_1, if_neg (by decide)]
                    exact g3
                  rw [c_addE (op := 6) (arg := 0) (show cb_6 = nI 6 by decide) (show ci_0 = nI 0 by decide) e3 (by omega), ob_def]
                  obtain ⟨q1, q2, q3, q4, q5⟩ := aS_is (σ := uI σ2 44 4 (nI (n2 + 1))) (l := a + (cmpP a acc).length + A.length + B.length) (v := nI (0 * 8 + 6)) (by omega)
                  have hP3 := v2.aS (l := a + (cmpP a acc).length + A.length + B.length) (v := nI (0 * 8 + 6)) (by omega)
                  have fa3 : frA (a + (cmpP a acc).length + A.length + B.length) σ2 (aS (uI σ2 44 4 (nI (n2 + 1))) (a + (cmpP a acc).length + A.length + B.length) (nI (0 * 8 + 6))) := fun i hi => by
                    rw [q2, if_neg (by omega)]
                    rfl
                  show ∃ σ', kDo n (fuel + 1) (nI a) (nI j) (nI (a + (cmpP a acc).length + A.length + B.length)) (aS (uI σ2 44 4 (nI (n2 + 1))) (a + (cmpP a acc).length + A.length + B.length) (nI (0 * 8 + 6))) = _ ∧ _
                  rw [kDo]
                  obtain ⟨σ3, d1, d2, d3⟩ := c_sumF (n := n) (a := a + (cmpP a acc).length + A.length + B.length + 1) (nx := n2 + 1) hn hT hP3 q1 (by omega)
                  rw [d1, ob_def]
                  have fz3 : frZ σ σ3 := (fz2.trans ((frZ.u44 (by decide)).trans q3)).trans d2
                  rcases d3 with ⟨f, p, h1, h2⟩ | ⟨n3, D, h1, h2, h4, h5, h6, h7⟩
                  · rw [h1]
                    obtain ⟨σ4, i1, i2, i3⟩ := kElD (n := n) (k := fuel) (x := nI a) (y := nI j) (r := nI (a + (cmpP a acc).length + A.length + B.length)) (by omega) h2 (Or.inr ⟨_, by omega, rfl⟩)
                    exact ⟨σ4, i1, fz3.trans i2, i3⟩
                  · rw [h1, kEl]
                    have n34 := h2.1.2.2.1
                    show ∃ σ', _ ∧ _ ∧ LCOut s a (if ¬ tkF s 28 n3 = 0 then .inl (tkF s 28 n3, n3) else _) σ σ'
                    rcases c_tkF (n := n) (x := cb_28) (k := 28) hT (by decide) (by omega) (by omega) h2 h4 (by omega) with ⟨w0, w1, w2⟩ | ⟨w0, σ', w1, w2, w3⟩
                    · rw [w1, ob_def, if_neg (fun u => u w0)]
                      have e4 : (uI σ3 44 4 (nI (n3 + 1))).1 23 3 = nI (a + (cmpP a acc).length + A.length + B.length + 1 + D.length) := by
                        rw [uI_1, if_neg (by decide)]
                        exact h4
                      rw [c_addE (op := 7) (arg := 0) (show cb_7 = nI 7 by decide) (show ci_0 = nI 0 by decide) e4 (by omega), ob_def]
                      obtain ⟨r1, r2, r3, r4, r5⟩ := aS_is (σ := uI σ3 44 4 (nI (n3 + 1))) (l := a + (cmpP a acc).length + A.length + B.length + 1 + D.length) (v := nI (0 * 8 + 7)) (by omega)
                      have hP4 := w2.aS (l := a + (cmpP a acc).length + A.length + B.length + 1 + D.length) (v := nI (0 * 8 + 7)) (by omega)
                      show ∃ σ', (ob (cLaws_aim_s n (nI (a + (cmpP a acc).length + A.length + B.length)) (aS (uI σ3 44 4 (nI (n3 + 1))) (a + (cmpP a acc).length + A.length + B.length + 1 + D.length) (nI (0 * 8 + 7)))) fun q13 => _) = _ ∧ _
                      have em : cLaws_aim_s n (nI (a + (cmpP a acc).length + A.length + B.length)) (aS (uI σ3 44 4 (nI (n3 + 1))) (a + (cmpP a acc).length + A.length + B.length + 1 + D.length) (nI (0 * 8 + 7))) = some (uA (aS (uI σ3 44 4 (nI (n3 + 1))) (a + (cmpP a acc).length + A.length + B.length + 1 + D.length) (nI (0 * 8 + 7))) 24 (nI (a + (cmpP a acc).length + A.length + B.length)) (nI ((a + (cmpP a acc).length + A.length + B.length + D.length + 2) * 8 + 6))) := by
                        unfold cLaws_aim_s
                        rw [if_neg (nI_pos (by omega)), show sI (aS (uI σ3 44 4 (nI (n3 + 1))) (a + (cmpP a acc).length + A.length + B.length + 1 + D.length) (nI (0 * 8 + 7))) 23 3 = nI (a + (cmpP a acc).length + A.length + B.length + 1 + D.length + 1) from r1, if_neg (nI_ge (by omega) (by omega)), bin_nI (by omega) (by decide), cLaws_aim_s_b28, cb_8_n, nI_mul, show cb_6 = nI 6 by decide, nI_add, show a + (cmpP a acc).length + A.length + B.length + 1 + D.length + 1 = a + (cmpP a acc).length + A.length + B.length + D.length + 2 by omega]
                      rw [em, ob_def, nI_s]
                      have len : (cmpP a (acc ++ [(A, B, D)])).length = (cmpP a acc).length + A.length + B.length + D.length + 2 := by
                        rw [cmpP_app, cmpF_eq, List.length_append, cmpI_len]
                        omega
                      have rd : ∀ i, (uA (aS (uI σ3 44 4 (nI (n3 + 1))) (a + (cmpP a acc).length + A.length + B.length + 1 + D.length) (nI (0 * 8 + 7))) 24 (nI (a + (cmpP a acc).length + A.length + B.length)) (nI ((a + (cmpP a acc).length + A.length + B.length + D.length + 2) * 8 + 6))).2.1 24 i = if i = a + (cmpP a acc).length + A.length + B.length then nI ((a + (cmpP a acc).length + A.length + B.length + D.length + 2) * 8 + 6) else if i = a + (cmpP a acc).length + A.length + B.length + 1 + D.length then nI (0 * 8 + 7) else σ3.2.1 24 i := fun i => by
                        rw [uA_2, nI_clamp (by omega), r2]
                        simp only [true_and]
                        rfl
                      have fz5 : frZ σ3 (uA (aS (uI σ3 44 4 (nI (n3 + 1))) (a + (cmpP a acc).length + A.length + B.length + 1 + D.length) (nI (0 * 8 + 7))) 24 (nI (a + (cmpP a acc).length + A.length + B.length)) (nI ((a + (cmpP a acc).length + A.length + B.length + D.length + 2) * 8 + 6))) := ((frZ.u44 (by decide)).trans r3).trans ⟨frC.uA (Or.inr (Or.inl rfl)), fun _ _ => rfl⟩
                      have fa5 : frA (a + (cmpP a acc).length + A.length + B.length) σ3 (uA (aS (uI σ3 44 4 (nI (n3 + 1))) (a + (cmpP a acc).length + A.length + B.length + 1 + D.length) (nI (0 * 8 + 7))) 24 (nI (a + (cmpP a acc).length + A.length + B.length)) (nI ((a + (cmpP a acc).length + A.length + B.length + D.length + 2) * 8 + 6))) := fun i hi => by
                        rw [rd, if_neg (by omega), if_neg (by omega)]
                      have fa4 : frA (a + (cmpP a acc).length + A.length + B.length) σ2 σ3 := fa3.trans (h7.le (by omega))
                      have fa25 := fa4.trans fa5
                      have hA5 : AtC a (cmpP a (acc ++ [(A, B, D)])) (uA (aS (uI σ3 44 4 (nI (n3 + 1))) (a + (cmpP a acc).length + A.length + B.length + 1 + D.length) (nI (0 * 8 + 7))) 24 (nI (a + (cmpP a acc).length + A.length + B.length)) (nI ((a + (cmpP a acc).length + A.length + B.length + D.length + 2) * 8 + 6))) := by
                        rw [cmpP_app, cmpF_eq]
                        unfold cmpI
                        refine AtC_app.mpr ⟨((hA.keep fa1 (by omega)).keep fa2 (by omega)).keep fa25 (by omega), AtC_app.mpr ⟨(b4.keep fa2 (by omega)).keep fa25 (by omega), AtC_app.mpr ⟨g4.keep fa25 (by omega), ?_⟩⟩⟩
                        refine (AtC_app (X := [(6, a + (cmpP a acc).length + A.length + B.length + D.length + 2)])).mpr ⟨AtC_one (by rw [rd, if_pos rfl]), AtC_app.mpr ⟨fun i hi => ?_, AtC_one ?_⟩⟩
                        · have := h5 i hi
                          rw [List.length_singleton, rd, if_neg (by omega), if_neg (by omega)]
                          exact this
                        · rw [List.length_singleton, rd, if_neg (by omega), if_pos rfl]
                      obtain ⟨σ6, i1, i2, i3⟩ := ih (fuel + 1) (j + 1) (n3 + 1) (acc ++ [(A, B, D)]) _ (by omega) (by omega) (by rw [List.length_append, List.length_singleton]; omega) (show CP s (n3 + 1) (uA (aS (uI σ3 44 4 (nI (n3 + 1))) (a + (cmpP a acc).length + A.length + B.length + 1 + D.length) (nI (0 * 8 + 7))) 24 (nI (a + (cmpP a acc).length + A.length + B.length)) (nI ((a + (cmpP a acc).length + A.length + B.length + D.length + 2) * 8 + 6))) from ⟨⟨h2.1.1.fr fz5, hP4.1.2.1, hP4.1.2.2.1, hP4.1.2.2.2⟩, hP4.2⟩) (by
                        rw [len]
                        refine r1.trans ?_
                        congr 1
                        omega) hA5 (by omega) (by omega)
                      refine ⟨σ6, i1, (fz3.trans fz5).trans i2, i3.tr ?_⟩
                      exact ((fa1.le (by omega)).trans (fa2.le (by omega))).trans (fa25.le (by omega))
                    · rw [w1, ob_def, if_pos w0]
                      obtain ⟨r2', σ5, m1, m2, m3, -⟩ := c_addDD (n := n) (x := cb_7) (y := ci_0) w2
                      rw [m1, ob_def]
                      obtain ⟨σ6, o1, o2, o3⟩ := c_aimD (n := n) (r := nI (a + (cmpP a acc).length + A.length + B.length)) m3 (Or.inr ⟨_, by omega, rfl⟩)
                      show ∃ σ', (ob (cLaws_aim_s n (nI (a + (cmpP a acc).length + A.length + B.length)) σ5) fun q13 => _) = _ ∧ _
                      rw [o1, ob_def]
                      obtain ⟨σ7, p1, p2, p3⟩ := c_15D (n := n) (k := fuel) (x := nI a) (y := nI j + ci_1) (by omega) o3
                      exact ⟨σ7, p1, (((fz3.trans w3).trans m2).trans o2).trans p2, p3⟩
                · rw [v1, ob_def, if_pos v0]
                  obtain ⟨r2, σ3, m1, m2, m3, m4⟩ := c_addDD (n := n) (x := cb_6) (y := ci_0) v2
                  rw [m1, ob_def]
                  obtain ⟨σ4, o1, o2, o3⟩ := kDoD (n := n) (k := fuel) (x := nI a) (y := nI j) (by omega) m3 m4
                  exact ⟨σ4, o1, ((fz2.trans v3).trans m2).trans o2, o3⟩
            · rw [u1, ob_def]
              show ∃ σ', _ ∧ _ ∧ LCOut s a (if ¬ tkF s 10 n1 = 0 then .inl (tkF s 10 n1, n1) else _) σ σ'
              rw [if_pos u0]
              obtain ⟨σ2, d1, d2, d3⟩ := kBsD (n := n) (k := fuel) (x := nI a) (y := nI j) (by omega) u2
              exact ⟨σ2, d1, (fz1.trans u3).trans d2, d3⟩
        · have w : ¬ nx < 400 ∧ tkF s 26 nx = 2 := by
            unfold tkF at t0 ⊢
            rw [if_pos z] at t0 ⊢
            by_cases w : nx < 400
            · rw [if_pos w] at t0
              omega
            · rw [if_neg w]
              exact ⟨w, rfl⟩
          rw [t1, ob_def, if_neg w.1]
          rw [w.2] at t2
          obtain ⟨σ1, a1, a2, a3⟩ := kAsD (n := n) (k := fuel) (x := nI a) (y := nI j) (by omega) t2
          exact ⟨σ1, a1, t3.trans a2, a3⟩
    · rw [if_neg (fun u => z ((nI_eqI (by omega) (by decide)).mp u)), if_neg z]
      exact c_118E hn hT hP h3 hA ha
