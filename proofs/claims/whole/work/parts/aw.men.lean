/-! MEN and BRIDGES -/
theorem c_addMan {n M : Nat} {x1 x2 x3 : Int32} {σ : bS} (h : σ.1 14 3 = nI M) (hM : M < 7) : cTold_addMan_s n x1 x2 x3 σ = some (uI (uA (uA (uA σ 18 (nI M) x1) 19 (nI M) x2) 20 (nI M) x3) 14 3 (nI (M + 1))) := by
  have e1 : ∀ i w, sI (uA σ 18 i w) 14 3 = nI M := fun _ _ => h
  have e2 : ∀ i w i2 w2, sI (uA (uA σ 18 i w) 19 i2 w2) 14 3 = nI M := fun _ _ _ _ => h
  have e3 : ∀ i w i2 w2 i3 w3, sI (uA (uA (uA σ 18 i w) 19 i2 w2) 20 i3 w3) 14 3 = nI M := fun _ _ _ _ _ _ => h
  unfold cTold_addMan_s
  rw [e3, e2, e1, show sI σ 14 3 = nI M from h, show cb_7 = nI 7 by decide, if_neg (nI_ge hM (by omega)), bin_nI hM (by decide), bin_nI hM (by decide), bin_nI hM (by decide), cTold_addMan_s_b49, nI_s]
theorem c_addBridge {n G : Nat} {x1 x2 : Int32} {σ : bS} (h : σ.1 14 2 = nI G) (hG : G < 4) : cTold_addBridge_s n x1 x2 σ = some (uI (uA (uA σ 16 (nI G) x1) 17 (nI G) x2) 14 2 (nI (G + 1))) := by
  have e1 : ∀ i w, sI (uA σ 16 i w) 14 2 = nI G := fun _ _ => h
  have e2 : ∀ i w i2 w2, sI (uA (uA σ 16 i w) 17 i2 w2) 14 2 = nI G := fun _ _ _ _ => h
  unfold cTold_addBridge_s
  rw [e2, e1, show sI σ 14 2 = nI G from h, ci_4_n, if_neg (nI_ge hG (by omega)), bin_nI hG (by decide), bin_nI hG (by decide), cTold_addBridge_s_b38, nI_s]
theorem md_oI {x : Nat} (h : x < 2 ^ 31) : md (nI x) = nI x := by
  unfold md
  rw [if_neg (nI_pos h)]
theorem st_man {s : tS} {n nx B P G M a m : Nat} {U : Option (Nat × Nat)} {N : nmS} {σC σM : bS} (hn : 500 ≤ n) (hT : okT s) (h : PR s nx U N B P G M a m σC σM) (hk : tkd s nx = 16) : StO n s nx (cReader_readMan n σC) (m_tellMan n σM) σC σM := by
  obtain ⟨hK, hQ, hc⟩ := h
  obtain ⟨⟨hl, hin⟩, ⟨b6, p10, g4, m7⟩, ⟨c0, c1, c2, c3⟩, ⟨d0, d1, d2, d3⟩⟩ := id hQ
  unfold cReader_readMan m_tellMan
  rw [bin_1 _ (by decide) (by decide), bin_1 _ (by decide) (by decide), sA_1, d3, show cb_7 = nI 7 by decide, nI_add]
  rcases k_first (n := n) (x := cb_16) (k := 16) (y := sI σC 14 3) (c := M) (z := nI 7) (mo := 7) hT hK (by decide) hk (by omega) c3 rfl m7 (by omega) with ⟨lt, t1, u1, h1⟩ | ⟨lt, σ1, σ2, t1, u1, dd⟩ | ⟨eq, σ1, σ2, t1, u1, dd⟩
  · rw [t1, ob_def, if_neg (show ¬ nI M = nI 7 from fun u => by have := nI_inj (by omega) (by omega) u; omega), u1, ob_def, if_neg one_ne, bin_1 _ (by decide) (by decide)]
    have e0 : sI (uI σC 44 4 (nI (nx + 1))) 14 3 = nI M := by
      show (uI σC 44 4 (nI (nx + 1))).1 14 3 = _
      rw [uI_1, if_neg (by decide)]
      exact c3
    rcases k_new (n := n) (k := 2) (nu := M) (x := cb_16) (y := sI (uI σC 44 4 (nI (nx + 1))) 14 3) (x2 := ci_2) (y2 := sA (uI σM 0 7 (nI (nx + 1))) 20 ci_1) (by omega) hT h1 (by omega) (by omega) (by omega) (by decide) e0 (by decide) (by rw [sA_1]; exact d3) with ⟨v0, σ1, σ2, v1, v2, v3, v4, v5⟩ | ⟨σ1, σ2, v1, v2, dd⟩
    · rw [v1, ob_def, v2, ob_def, if_neg one_ne]
      have n17 : (N ++ [(twd s (nx + 1), 2, M)]).length ≤ 17 := by rw [List.length_append, List.length_singleton]; omega
      have hin2 : nmIn (N ++ [(twd s (nx + 1), 2, M)]) B G (M + 1) := hin.snoc (by omega) (by omega) (by omega) (by omega) (by omega) (by omega)
      have fC1 : frQq σC σ1 := frQq.u44.trans (frQq.ofN v4)
      have fM1 : frJ σM σ2 := frJ.u7.trans (frJ.ofW v5)
      rcases k_name (n := n) (k := 0) (x := cb_13) (y := ci_0) (by omega) hT v3 n17 (by omega) (by decide) rfl with ⟨w0, σ3, σ4, w1, w2, w3, w4, w5, w6⟩ | ⟨σ3, σ4, w1, w2, dd⟩
      · generalize ho1 : fndN (N ++ [(twd s (nx + 1), 2, M)]) (twd s (nx + 1 + 1)) 0 = o1 at *
        have e35 : sI σ4 0 35 = oI o1 := w4
        rw [w1, ob_def, w2, ob_def, if_neg one_ne, bin_nI (by omega) (by decide)]
        show StO n s nx (ob (cReader_takeName n cb_13 σ3) fun q4 => _) (ob (m_takesName n ci_0 (uA σ4 21 (nI (7 + M)) (sI σ4 0 35))) fun q5 => _) σC σM
        rw [e35]
        have K4 := PK.uAM (b := 21) (i := nI (7 + M)) (v := oI o1) (by omega) w3
        have fC3 : frQq σC σ3 := fC1.trans (frQq.ofN w5)
        have fM4 : frJ σM (uA σ4 21 (nI (7 + M)) (oI o1)) := (fM1.trans (frJ.ofV w6)).trans (frJ.uA (a := 21) (by omega) (by show 7 ≤ 7 + M; omega) (by omega))
        rcases k_name (n := n) (k := 0) (x := cb_13) (y := ci_0) (by omega) hT K4 n17 (by omega) (by decide) rfl with ⟨x0, σ5, σ6, x1, x2, x3, x4, x5, x6⟩ | ⟨σ5, σ6, x1, x2, dd⟩
        · generalize ho2 : fndN (N ++ [(twd s (nx + 1), 2, M)]) (twd s (nx + 1 + 1 + 1)) 0 = o2 at *
          have e35' : sI σ6 0 35 = oI o2 := x4
          rw [x1, ob_def, x2, ob_def, if_neg one_ne, bin_nI (by omega) (by decide)]
          show StO n s nx (ob (cReader_takeInt n ci_0 cs_999 σ5) fun q5 => _) (ob (m_takesInt n ci_0 cs_999 (uA σ6 22 (nI (7 + M)) (sI σ6 0 35))) fun q6 => _) σC σM
          rw [e35']
          have K6 := PK.uAM (b := 22) (i := nI (7 + M)) (v := oI o2) (by omega) x3
          have fC5 : frQq σC σ5 := fC3.trans (frQq.ofN x5)
          have fM6 : frJ σM (uA σ6 22 (nI (7 + M)) (oI o2)) := (fM4.trans (frJ.ofV x6)).trans (frJ.uA (a := 22) (by omega) (by show 7 ≤ 7 + M; omega) (by omega))
          rcases k_int (n := n) (x := ci_0) (y := cs_999) (lo := 0) (hi := 999) hT K6 rfl cs_999_n (by omega) (by omega) with ⟨y0, σ7, σ8, y1, y2, y3, y4, y5, y6⟩ | ⟨σ7, σ8, y1, y2, dd⟩
          · have e35'' : sI σ8 0 35 = nI (tvl s (nx + 1 + 1 + 1 + 1)) := y4
            rw [y1, ob_def, y2, ob_def, if_neg one_ne, bin_nI (by omega) (by decide), bin_1 _ (by decide) (by decide), bin_1 _ (by decide) (by decide), bz_1]
            show StO n s nx (ob (cReader_take n ci_4 σ7) fun q6 => _) (some (1, uA (uA σ8 23 (nI (7 + M)) (sI σ8 0 35)) 20 ci_1 (sA (uA σ8 23 (nI (7 + M)) (sI σ8 0 35)) 20 ci_1 + ci_1))) σC σM
            have e20 : sA (uA σ8 23 (nI (7 + M)) (nI (tvl s (nx + 1 + 1 + 1 + 1)))) 20 ci_1 = nI M := by
              rw [sA_1, uA_o _ _ _ _ (by decide), y6.1, uA_o _ _ _ _ (by decide), x6.1, uA_o _ _ _ _ (by decide), w6.1, v5.1 20 (by decide)]
              exact d3
            rw [e35'', e20, nI_s]
            have K8 := PK.uAM (b := 20) (i := ci_1) (v := nI (M + 1)) (by omega) (PK.uAM (b := 23) (i := nI (7 + M)) (v := nI (tvl s (nx + 1 + 1 + 1 + 1))) (by omega) y3)
            have fC7 : frQq σC σ7 := fC5.trans (frQq.ofN y5)
            have fM8 : frJ σM (uA (uA σ8 23 (nI (7 + M)) (nI (tvl s (nx + 1 + 1 + 1 + 1)))) 20 ci_1 (nI (M + 1))) := ((fM6.trans (frJ.ofV y6)).trans (frJ.uA (a := 23) (by omega) (by show 7 ≤ 7 + M; omega) (by omega))).trans (frJ_uA1 (Or.inr (Or.inr (Or.inr rfl))))
            unfold StO mSt
            rw [ob_def, if_neg one_ne]
            rcases k_semi (n := n) hT K8 with ⟨z0, z1, z2, z3⟩ | ⟨σ9, σ10, z1, z2, dd⟩
            · have q14 : σ7.1 14 = σC.1 14 := (frN_k y5 14 (by omega)).1.trans ((frN_k x5 14 (by omega)).1.trans ((frN_k w5 14 (by omega)).1.trans (e_14 v4)))
              have p14 : (uI σ7 44 4 (nI (nx + 1 + 1 + 1 + 1 + 1 + 1))).1 14 3 = nI M := by
                rw [uI_1, if_neg (by decide), q14]
                exact c3
              rw [z1, ob_def, z2, ob_def, if_pos (show sI (uI σ7 44 4 (nI (nx + 1 + 1 + 1 + 1 + 1 + 1))) 44 5 = 0 from z3.1.1.2), c_addMan p14 lt, ob_def, cReader_readMan_b73]
              have r14 : ∀ j, (uI (uA (uA (uA (uI σ7 44 4 (nI (nx + 1 + 1 + 1 + 1 + 1 + 1))) 18 (nI M) (oI o1)) 19 (nI M) (oI o2)) 20 (nI M) (nI (tvl s (nx + 1 + 1 + 1 + 1)))) 14 3 (nI (M + 1))).1 14 j = if j = 3 then nI (M + 1) else σC.1 14 j := fun j => rd14 q14 (nI (nx + 1 + 1 + 1 + 1 + 1 + 1)) (nI (M + 1)) 3 j
              have r7 : ∀ b, 15 ≤ b → b ≤ 24 → σ7.2.1 b = σC.2.1 b := fun b h1 h2 => by
                rw [(frN_k y5 b (by omega)).2, (frN_k x5 b (by omega)).2, (frN_k w5 b (by omega)).2, (frN_k v4 b (by omega)).2]
                rfl
              have rA : ∀ b j, 15 ≤ b → b ≤ 24 → ¬ ((b = 18 ∨ b = 19 ∨ b = 20) ∧ j = M) → (uI (uA (uA (uA (uI σ7 44 4 (nI (nx + 1 + 1 + 1 + 1 + 1 + 1))) 18 (nI M) (oI o1)) 19 (nI M) (oI o2)) 20 (nI M) (nI (tvl s (nx + 1 + 1 + 1 + 1)))) 14 3 (nI (M + 1))).2.1 b j = σC.2.1 b j := fun b j h1 h2 h3 => by
                rw [uI_2, uA_2, nI_clamp (by omega), if_neg (by omega), uA_2, nI_clamp (by omega), if_neg (by omega), uA_2, nI_clamp (by omega), if_neg (by omega), uI_2, r7 b h1 h2]
              have rM : ∀ b j, 7 ≤ b → b ≤ 24 → ¬ ((b = 21 ∨ b = 22 ∨ b = 23) ∧ j = 7 + M) → ¬ (b = 20 ∧ j = 1) → (uI (uA (uA σ8 23 (nI (7 + M)) (nI (tvl s (nx + 1 + 1 + 1 + 1)))) 20 ci_1 (nI (M + 1))) 0 7 (nI (nx + 1 + 1 + 1 + 1 + 1 + 1))).2.1 b j = σM.2.1 b j := fun b j h1 h2 h3 h4 => by
                rw [uI_2, rdA1, if_neg h4, uA_2, nI_clamp (by omega), if_neg (by omega), y6.1, uA_2, nI_clamp (by omega), if_neg (by omega), x6.1, uA_2, nI_clamp (by omega), if_neg (by omega), w6.1, v5.1 b (by omega)]
                rfl
              refine ⟨_, _, rfl, Or.inr ⟨rfl, (((((fC7.trans frQq.u44).trans (frQq.uA (b := 18) (by omega))).trans (frQq.uA (b := 19) (by omega))).trans (frQq.uA (b := 20) (by omega))).trans frQq.u14), fM8.trans frJ.u7, nx + 1 + 1 + 1 + 1 + 1 + 1, _, _, B, P, G, M + 1, a, m, by omega, (PK.uAC (b := 20) (by omega) (PK.uAC (b := 19) (by omega) (PK.uAC (b := 18) (by omega) z3))).uI14, ?_, fun hu => ?_⟩⟩
              · refine ⟨⟨by rw [List.length_append, List.length_singleton]; omega, hin2⟩, ⟨b6, p10, g4, by omega⟩, ⟨?_, ?_, ?_, ?_⟩, ⟨?_, ?_, ?_, ?_⟩⟩
                · rw [r14, if_neg (by omega)]; exact c0
                · rw [r14, if_neg (by omega)]; exact c1
                · rw [r14, if_neg (by omega)]; exact c2
                · rw [r14, if_pos rfl]
                · rw [rM 12 1 (by omega) (by omega) (by omega) (by omega)]; exact d0
                · rw [rM 13 1 (by omega) (by omega) (by omega) (by omega)]; exact d1
                · rw [rM 17 1 (by omega) (by omega) (by omega) (by omega)]; exact d2
                · rw [uI_2, rdA1, if_pos ⟨rfl, rfl⟩]
              · obtain ⟨hu1, v1', v9⟩ := wrgU_n hu
                obtain ⟨hu2, y, ey⟩ := unkU_n hu1
                obtain ⟨hu3, x, ex⟩ := unkU_n hu2
                obtain ⟨q1, q2, q3, q4, q5⟩ := hc (twcU_n hu3)
                have xb := hin2.bank (ho1.trans ex)
                have yb := hin2.bank (ho2.trans ey)
                refine ⟨q1.of (by omega) (funext (fun j => rA 15 j (by omega) (by omega) (by omega))) (fun b j h1 h2 _ => rM b j (by omega) (by omega) (by omega) (by omega)), q2.of (by omega) (fun b j h1 h2 _ => rA b j (by omega) (by omega) (by omega)) (fun b j h1 h2 _ => rM b j (by omega) (by omega) (by omega) (by omega)), fun m' hm' => ?_, q4.of (fun j hj => by rw [r14, if_neg (by omega)]) (funext (fun j => rM 24 j (by omega) (by omega) (by omega) (by omega))), PCl.of q5 (fun j h1 h2 => by rw [r14, if_neg (by omega)]) (fun b hb => funext (fun j => rA b j (by omega) (by omega) (by omega))) (fun b h1 h2 => funext (fun j => rM b j (by omega) (by omega) (by omega) (by omega)))⟩
                by_cases mM : m' < M
                · have := q3 m' mM
                  rw [rA 18 m' (by omega) (by omega) (by omega), rA 19 m' (by omega) (by omega) (by omega), rA 20 m' (by omega) (by omega) (by omega), rM 21 _ (by omega) (by omega) (by omega) (by omega), rM 22 _ (by omega) (by omega) (by omega) (by omega), rM 23 _ (by omega) (by omega) (by omega) (by omega)]
                  exact this
                · have mM : m' = M := by omega
                  subst mM
                  refine ⟨⟨x, xb, ?_, ?_⟩, ⟨y, yb, ?_, ?_⟩, ?_⟩
                  · rw [uI_2, uA_2, if_neg (by omega), uA_2, if_neg (by omega), uA_2, nI_clamp (by omega), if_pos ⟨rfl, rfl⟩, ex]
                    rfl
                  · rw [uI_2, rdA1, if_neg (by omega), uA_2, if_neg (by omega), y6.1, uA_2, if_neg (by omega), x6.1, uA_2, nI_clamp (by omega), if_pos ⟨rfl, rfl⟩, ex]
                    rfl
                  · rw [uI_2, uA_2, if_neg (by omega), uA_2, nI_clamp (by omega), if_pos ⟨rfl, rfl⟩, ey]
                    rfl
                  · rw [uI_2, rdA1, if_neg (by omega), uA_2, if_neg (by omega), y6.1, uA_2, nI_clamp (by omega), if_pos ⟨rfl, rfl⟩, ey]
                    rfl
                  · rw [uI_2, rdA1, if_neg (by omega), uA_2, nI_clamp (by omega), if_pos ⟨rfl, rfl⟩, uI_2, uA_2, nI_clamp (by omega), if_pos ⟨rfl, rfl⟩]
            · obtain ⟨f, p, g1, g2, g3, g4⟩ := id dd
              rw [z1, ob_def, z2, ob_def, if_neg g1.ne, cReader_readMan_b73]
              exact ⟨_, _, rfl, Or.inl ⟨rfl, dd.tr fC7 fM8⟩⟩
          · obtain ⟨f, p, g1, g2, g3, g4⟩ := id dd
            rw [y1, ob_def, y2, ob_def, if_pos rfl, c_takeD g1, ob_def, if_neg g1.ne, bz_0]
            exact st_fail rfl rfl (dd.tr fC5 fM6)
        · obtain ⟨f, p, g1, g2, g3, g4⟩ := id dd
          rw [x1, ob_def, x2, ob_def, if_pos rfl, c_intD g1, ob_def, c_takeD g1, ob_def, if_neg g1.ne, bz_0]
          exact st_fail rfl rfl (dd.tr fC3 fM4)
      · obtain ⟨f, p, g1, g2, g3, g4⟩ := id dd
        rw [w1, ob_def, w2, ob_def, if_pos rfl, c_nameD g1, ob_def, c_intD g1, ob_def, c_takeD g1, ob_def, if_neg g1.ne, m_tellMan_b56, bz_0]
        exact st_fail rfl rfl (dd.tr fC1 fM1)
    · obtain ⟨f, p, g1, g2, g3, g4⟩ := id dd
      rw [v1, ob_def, v2, ob_def, if_pos rfl, c_nameD g1, ob_def, c_nameD g1, ob_def, c_intD g1, ob_def, c_takeD g1, ob_def, if_neg g1.ne, m_tellMan_b56, bz_0]
      exact st_fail rfl rfl (dd.tr frQq.u44 frJ.u7)
  · obtain ⟨f, p, g1, g2, g3, g4⟩ := id dd
    rw [t1, ob_def, if_neg (show ¬ nI M = nI 7 from fun u => by have := nI_inj (by omega) (by omega) u; omega), u1, ob_def, if_pos rfl, c_newD g1, ob_def, c_nameD g1, ob_def, c_nameD g1, ob_def, c_intD g1, ob_def, c_takeD g1, ob_def, if_neg g1.ne, m_tellMan_b56, bz_0]
    exact st_fail rfl rfl dd
  · obtain ⟨f, p, g1, g2, g3, g4⟩ := id dd
    rw [t1, ob_def, if_pos (show nI M = nI 7 by rw [eq]), u1, ob_def, c_newD g1, ob_def, c_nameD g1, ob_def, c_nameD g1, ob_def, c_intD g1, ob_def, c_takeD g1, ob_def, if_neg g1.ne]
    exact st_fail rfl rfl dd
