/-! BRIDGES -/
theorem bridge_dead {s : tS} {n f p : Nat} {x y : Int32} {σ : bS} (h : CD s f p σ) : cReader_readBridge_b52 n x y σ = some σ := by
  unfold cReader_readBridge_b52
  rw [c_takeD h, ob_def, if_neg h.ne, cReader_readBridge_b74]
theorem bridge_kd {s : tS} {n f p : Nat} {x : Int32} {σ : bS} (hT : okT s) (h : CD s f p σ) : (ob (cReader_kind n σ) fun q6 => if q6.1 = ci_2 then ob (cReader_takeName n cb_13 q6.2) fun q7 => cReader_readBridge_b52 n x q7.1 q7.2 else cReader_readBridge_b52 n x ci_m1 q6.2) = some σ := by
  obtain ⟨nx0, hcp⟩ := h.2.2.2.1
  rw [c_kindE hcp, ob_def]
  show (if nI (tkd s nx0) = ci_2 then ob (cReader_takeName n cb_13 σ) fun q7 => cReader_readBridge_b52 n x q7.1 q7.2 else cReader_readBridge_b52 n x ci_m1 σ) = some σ
  rw [c_nameD h, ob_def, bridge_dead h, bridge_dead h]
  split <;> rfl
theorem st_bridge2 {s : tS} {n nx nx0 B P G M a m : Nat} {U U0 : Option (Nat × Nat)} {N : nmS} {o1 : Option Nat} {lv lm : Int32} {σC σM σC0 σM0 : bS} (hT : okT s) (hK : PK s nx U N a m σC σM) (hN1 : N.length = B + (G + 1) + M) (hN2 : nmIn N B (G + 1) M) (hb : B ≤ 6 ∧ P ≤ 10 ∧ G < 4 ∧ M ≤ 7) (hC : σC0.1 14 0 = nI B ∧ σC0.1 14 1 = nI P ∧ σC0.1 14 2 = nI G ∧ σC0.1 14 3 = nI M) (hM : σM0.2.1 12 1 = nI B ∧ σM0.2.1 13 1 = nI P ∧ σM0.2.1 17 1 = nI G ∧ σM0.2.1 20 1 = nI M) (hc : U0 = none → PC B P G M a m σC0 σM0) (lt : nx0 < nx) (hU : U = none → U0 = none ∧ (∃ x, x < B ∧ o1 = some x) ∧ orN B lv ∧ lm = md lv) (e14 : σC.1 14 = σC0.1 14) (eA : ∀ b, 15 ≤ b → b ≤ 24 → σC.2.1 b = σC0.2.1 b) (m18 : σM.2.1 18 (4 + G) = oI o1) (m19 : σM.2.1 19 (4 + G) = lm) (eM : ∀ b j, 7 ≤ b → b ≤ 24 → ¬ ((b = 18 ∨ b = 19) ∧ j = 4 + G) → σM.2.1 b j = σM0.2.1 b j) (fC : frQq σC0 σC) (fM : frJ σM0 σM) : StO n s nx0 (cReader_readBridge_b52 n (oI o1) lv σC) (m_tellBridge_b106 n σM) σC0 σM0 := by
  obtain ⟨b6, p10, g4, m7⟩ := hb
  obtain ⟨c0, c1, c2, c3⟩ := hC
  obtain ⟨d0, d1, d2, d3⟩ := hM
  have e17 : sA σM 17 ci_1 = nI G := by
    rw [sA_1, eM 17 1 (by omega) (by omega) (by omega)]
    exact d2
  unfold StO cReader_readBridge_b52 m_tellBridge_b106
  rw [bin_1 _ (by decide) (by decide), bin_1 _ (by decide) (by decide), bz_1, e17, nI_s]
  unfold mSt
  rw [ob_def, if_neg one_ne]
  have fM2 : frJ σM0 (uA σM 17 ci_1 (nI (G + 1))) := fM.trans (frJ_uA1 (Or.inr (Or.inr (Or.inl rfl))))
  rcases k_semi (n := n) hT (PK.uAM (b := 17) (i := ci_1) (v := nI (G + 1)) (by omega) hK) with ⟨w0, w1, w2, w3⟩ | ⟨σ3, σ4, w1, w2, dd⟩
  · have p14 : (uI σC 44 4 (nI (nx + 1))).1 14 2 = nI G := by
      rw [uI_1, if_neg (by decide), e14]
      exact c2
    rw [w1, ob_def, w2, ob_def, if_pos (show sI (uI σC 44 4 (nI (nx + 1))) 44 5 = 0 from w3.1.1.2), c_addBridge p14 g4, ob_def, cReader_readBridge_b74]
    have r14 : ∀ j, (uI (uA (uA (uI σC 44 4 (nI (nx + 1))) 16 (nI G) (oI o1)) 17 (nI G) lv) 14 2 (nI (G + 1))).1 14 j = if j = 2 then nI (G + 1) else σC0.1 14 j := fun j => rd14 e14 (nI (nx + 1)) (nI (G + 1)) 2 j
    have rA : ∀ b j, 15 ≤ b → b ≤ 24 → ¬ ((b = 16 ∨ b = 17) ∧ j = G) → (uI (uA (uA (uI σC 44 4 (nI (nx + 1))) 16 (nI G) (oI o1)) 17 (nI G) lv) 14 2 (nI (G + 1))).2.1 b j = σC0.2.1 b j := fun b j h1 h2 h3 => by
      rw [uI_2, uA_2, nI_clamp (by omega), if_neg (by omega), uA_2, nI_clamp (by omega), if_neg (by omega), uI_2, eA b h1 h2]
    have rM : ∀ b j, 7 ≤ b → b ≤ 24 → ¬ ((b = 18 ∨ b = 19) ∧ j = 4 + G) → ¬ (b = 17 ∧ j = 1) → (uI (uA σM 17 ci_1 (nI (G + 1))) 0 7 (nI (nx + 1))).2.1 b j = σM0.2.1 b j := fun b j h1 h2 h3 h4 => by
      rw [uI_2, rdA1, if_neg h4, eM b j h1 h2 h3]
    refine ⟨_, _, rfl, Or.inr ⟨rfl, (((fC.trans frQq.u44).trans (frQq.uA (b := 16) (by omega))).trans (frQq.uA (b := 17) (by omega))).trans frQq.u14, fM2.trans frJ.u7, nx + 1, _, _, B, P, G + 1, M, a, m, by omega, (PK.uAC (b := 17) (by omega) (PK.uAC (b := 16) (by omega) w3)).uI14, ?_, fun hu => ?_⟩⟩
    · refine ⟨⟨hN1, hN2⟩, ⟨b6, p10, by omega, m7⟩, ⟨?_, ?_, ?_, ?_⟩, ⟨?_, ?_, ?_, ?_⟩⟩
      · rw [r14, if_neg (by omega)]; exact c0
      · rw [r14, if_neg (by omega)]; exact c1
      · rw [r14, if_pos rfl]
      · rw [r14, if_neg (by omega)]; exact c3
      · rw [rM 12 1 (by omega) (by omega) (by omega) (by omega)]; exact d0
      · rw [rM 13 1 (by omega) (by omega) (by omega) (by omega)]; exact d1
      · rw [uI_2, rdA1, if_pos ⟨rfl, rfl⟩]
      · rw [rM 20 1 (by omega) (by omega) (by omega) (by omega)]; exact d3
    · obtain ⟨hu0, ⟨x, xb, ex⟩, hlv, hlm⟩ := hU hu
      obtain ⟨q1, q2, q3, q4, q5⟩ := hc hu0
      refine ⟨q1.of (by omega) (funext (fun j => rA 15 j (by omega) (by omega) (by omega))) (fun b j h1 h2 _ => rM b j (by omega) (by omega) (by omega) (by omega)), fun b hb => ?_, q3.of (by omega) (fun b j h1 h2 _ => rA b j (by omega) (by omega) (by omega)) (fun b j h1 h2 _ => rM b j (by omega) (by omega) (by omega) (by omega)), q4.of (fun j hj => by rw [r14, if_neg (by omega)]) (funext (fun j => rM 24 j (by omega) (by omega) (by omega) (by omega))), PCl.of q5 (fun j h1 h2 => by rw [r14, if_neg (by omega)]) (fun b hb => funext (fun j => rA b j (by omega) (by omega) (by omega))) (fun b h1 h2 => funext (fun j => rM b j (by omega) (by omega) (by omega) (by omega)))⟩
      by_cases bG : b < G
      · have := q2 b bG
        rw [rA 16 b (by omega) (by omega) (by omega), rA 17 b (by omega) (by omega) (by omega), rM 18 _ (by omega) (by omega) (by omega) (by omega), rM 19 _ (by omega) (by omega) (by omega) (by omega)]
        exact this
      · have bG : b = G := by omega
        subst bG
        have l17 : (uI (uA (uA (uI σC 44 4 (nI (nx + 1))) 16 (nI b) (oI o1)) 17 (nI b) lv) 14 2 (nI (b + 1))).2.1 17 b = lv := by rw [uI_2, uA_2, nI_clamp (by omega), if_pos ⟨rfl, rfl⟩]
        refine ⟨⟨x, xb, ?_, ?_⟩, by rw [l17]; exact hlv, ?_⟩
        · rw [uI_2, uA_2, if_neg (by omega), uA_2, nI_clamp (by omega), if_pos ⟨rfl, rfl⟩, ex]
          rfl
        · rw [uI_2, rdA1, if_neg (by omega), m18, ex]
          rfl
        · rw [l17, uI_2, rdA1, if_neg (by omega), m19, hlm]
  · rw [w1, ob_def, w2, ob_def]
    obtain ⟨f, p, g1, g2, g3, g4⟩ := id dd
    rw [if_neg g1.ne, cReader_readBridge_b74]
    exact ⟨_, _, rfl, Or.inl ⟨rfl, dd.tr fC fM2⟩⟩
theorem st_bridge {s : tS} {n nx B P G M a m : Nat} {U : Option (Nat × Nat)} {N : nmS} {σC σM : bS} (hn : 500 ≤ n) (hT : okT s) (h : PR s nx U N B P G M a m σC σM) (hk : tkd s nx = 15) : StO n s nx (cReader_readBridge n σC) (m_tellBridge n σM) σC σM := by
  obtain ⟨hK, hQ, hc⟩ := h
  obtain ⟨⟨hl, hin⟩, ⟨b6, p10, g4, m7⟩, ⟨c0, c1, c2, c3⟩, ⟨d0, d1, d2, d3⟩⟩ := id hQ
  unfold cReader_readBridge m_tellBridge
  rw [bin_1 _ (by decide) (by decide), bin_1 _ (by decide) (by decide), sA_1, d2, ci_4_n, nI_add]
  rcases k_first (n := n) (x := cb_15) (k := 15) (y := sI σC 14 2) (c := G) (z := nI 4) (mo := 4) hT hK (by decide) hk (by omega) c2 rfl g4 (by omega) with ⟨lt, t1, u1, h1⟩ | ⟨lt, σ1, σ2, t1, u1, dd⟩ | ⟨eq, σ1, σ2, t1, u1, dd⟩
  · rw [t1, ob_def, if_neg (show ¬ nI G = nI 4 from fun u => by have := nI_inj (by omega) (by omega) u; omega), u1, ob_def, if_neg one_ne, bin_1 _ (by decide) (by decide)]
    have e0 : sI (uI σC 44 4 (nI (nx + 1))) 14 2 = nI G := by
      show (uI σC 44 4 (nI (nx + 1))).1 14 2 = _
      rw [uI_1, if_neg (by decide)]
      exact c2
    rcases k_new (n := n) (k := 1) (nu := G) (x := cb_15) (y := sI (uI σC 44 4 (nI (nx + 1))) 14 2) (x2 := ci_1) (y2 := sA (uI σM 0 7 (nI (nx + 1))) 17 ci_1) (by omega) hT h1 (by omega) (by omega) (by omega) (by decide) e0 ci1_nI (by rw [sA_1]; exact d2) with ⟨v0, σ1, σ2, v1, v2, v3, v4, v5⟩ | ⟨σ1, σ2, v1, v2, dd⟩
    · rw [v1, ob_def, v2, ob_def, if_neg one_ne]
      have n17 : (N ++ [(twd s (nx + 1), 1, G)]).length ≤ 17 := by rw [List.length_append, List.length_singleton]; omega
      have nl : (N ++ [(twd s (nx + 1), 1, G)]).length = B + (G + 1) + M := by rw [List.length_append, List.length_singleton]; omega
      have hin2 : nmIn (N ++ [(twd s (nx + 1), 1, G)]) B (G + 1) M := hin.snoc (by omega) (by omega) (by omega) (by omega) (by omega) (by omega)
      have fC1 : frQq σC σ1 := frQq.u44.trans (frQq.ofN v4)
      have fM1 : frJ σM σ2 := frJ.u7.trans (frJ.ofW v5)
      rcases k_name (n := n) (k := 0) (x := cb_13) (y := ci_0) (by omega) hT v3 n17 (by omega) (by decide) rfl with ⟨w0, σ3, σ4, w1, w2, w3, w4, w5, w6⟩ | ⟨σ3, σ4, w1, w2, dd⟩
      · generalize ho1 : fndN (N ++ [(twd s (nx + 1), 1, G)]) (twd s (nx + 1 + 1)) 0 = o1 at *
        have e35 : sI σ4 0 35 = oI o1 := w4
        rw [w1, ob_def, w2, ob_def, if_neg one_ne, bin_nI (by omega) (by decide), bin_nI (by omega) (by decide)]
        show StO n s nx (ob (cReader_kind n σ3) fun q6 => if q6.1 = ci_2 then ob (cReader_takeName n cb_13 q6.2) fun q7 => cReader_readBridge_b52 n (oI o1) q7.1 q7.2 else cReader_readBridge_b52 n (oI o1) ci_m1 q6.2) (bin_ (sI (uA (uA σ4 18 (nI (4 + G)) (sI σ4 0 35)) 19 (nI (4 + G)) cb_m2) 0 7) 2001 (if sA (uA (uA σ4 18 (nI (4 + G)) (sI σ4 0 35)) 19 (nI (4 + G)) cb_m2) 2 (sI (uA (uA σ4 18 (nI (4 + G)) (sI σ4 0 35)) 19 (nI (4 + G)) cb_m2) 0 7) = 0 then ob (m_takesName n ci_0 (uA (uA σ4 18 (nI (4 + G)) (sI σ4 0 35)) 19 (nI (4 + G)) cb_m2)) fun q5 => if q5.1 = 0 then bz ci_0 q5.2 else bin_ (nI (4 + G)) 8 (m_tellBridge_b106 n (uA q5.2 19 (nI (4 + G)) (sI q5.2 0 35))) else m_tellBridge_b106 n (uA (uA σ4 18 (nI (4 + G)) (sI σ4 0 35)) 19 (nI (4 + G)) cb_m2))) σC σM
        rw [e35]
        have K4 := PK.uAM (b := 19) (i := nI (4 + G)) (v := cb_m2) (by omega) (PK.uAM (b := 18) (i := nI (4 + G)) (v := oI o1) (by omega) w3)
        have fC3 : frQq σC σ3 := fC1.trans (frQq.ofN w5)
        have fM4 : frJ σM (uA (uA σ4 18 (nI (4 + G)) (oI o1)) 19 (nI (4 + G)) cb_m2) := ((fM1.trans (frJ.ofV w6)).trans (frJ.uA (a := 18) (by omega) (by show 4 ≤ 4 + G; omega) (by omega))).trans (frJ.uA (a := 19) (by omega) (by show 4 ≤ 4 + G; omega) (by omega))
        have k36 := hT.1 (nx + 1 + 1 + 1)
        have kin := mkK_in (tkd s (nx + 1 + 1 + 1))
        have e14 : σ3.1 14 = σC.1 14 := (frN_k w5 14 (by omega)).1.trans (e_14 v4)
        have eA : ∀ b, 15 ≤ b → b ≤ 24 → σ3.2.1 b = σC.2.1 b := fun b h1 h2 => by rw [(frN_k w5 b (by omega)).2, (frN_k v4 b (by omega)).2]; rfl
        have eM : ∀ b j, 7 ≤ b → b ≤ 24 → ¬ ((b = 18 ∨ b = 19) ∧ j = 4 + G) → (uA (uA σ4 18 (nI (4 + G)) (oI o1)) 19 (nI (4 + G)) cb_m2).2.1 b j = σM.2.1 b j := fun b j h1 h2 h3 => by
          rw [uA_2, nI_clamp (by omega), if_neg (by omega), uA_2, nI_clamp (by omega), if_neg (by omega), w6.1, v5.1 b (by omega)]
          rfl
        have m18 : (uA (uA σ4 18 (nI (4 + G)) (oI o1)) 19 (nI (4 + G)) cb_m2).2.1 18 (4 + G) = oI o1 := by rw [uA_o _ _ _ _ (by decide), uA_2, nI_clamp (by omega), if_pos ⟨rfl, rfl⟩]
        have m19 : (uA (uA σ4 18 (nI (4 + G)) (oI o1)) 19 (nI (4 + G)) cb_m2).2.1 19 (4 + G) = cb_m2 := by rw [uA_2, nI_clamp (by omega), if_pos ⟨rfl, rfl⟩]
        rw [c_kindE w3.1.1.1, ob_def, K4.1.2.bin, K4.1.2.kind]
        by_cases z : tkd s (nx + 1 + 1 + 1) = 2
        · rw [if_pos (show nI (tkd s (nx + 1 + 1 + 1)) = ci_2 by rw [z]; decide), if_pos (show nI (mkK (tkd s (nx + 1 + 1 + 1))) = 0 by rw [z]; decide)]
          rcases k_name (n := n) (k := 0) (x := cb_13) (y := ci_0) (by omega) hT K4 n17 (by omega) (by decide) rfl with ⟨x0, σ5, σ6, x1, x2, x3, x4, x5, x6⟩ | ⟨σ5, σ6, x1, x2, dd⟩
          · generalize ho2 : fndN (N ++ [(twd s (nx + 1), 1, G)]) (twd s (nx + 1 + 1 + 1)) 0 = o2 at *
            have e35' : sI σ6 0 35 = oI o2 := x4
            rw [x1, ob_def, x2, ob_def, if_neg one_ne, bin_nI (by omega) (by decide)]
            show StO n s nx (cReader_readBridge_b52 n (oI o1) (oI o2) σ5) (m_tellBridge_b106 n (uA σ6 19 (nI (4 + G)) (sI σ6 0 35))) σC σM
            rw [e35']
            refine st_bridge2 (U0 := U) (lm := oI o2) hT (PK.uAM (b := 19) (by omega) x3) nl hin2 ⟨b6, p10, lt, m7⟩ ⟨c0, c1, c2, c3⟩ ⟨d0, d1, d2, d3⟩ hc (by omega) (fun u => ?_) ((frN_k x5 14 (by omega)).1.trans e14) (fun b h1 h2 => by rw [(frN_k x5 b (by omega)).2]; exact eA b h1 h2) ?_ ?_ (fun b j h1 h2 h3 => ?_) (fC3.trans (frQq.ofN x5)) ((fM4.trans (frJ.ofV x6)).trans (frJ.uA (a := 19) (by omega) (by show 4 ≤ 4 + G; omega) (by omega)))
            · obtain ⟨hu1, y, ey⟩ := unkU_n u
              obtain ⟨hu2, x, ex⟩ := unkU_n hu1
              have yb := hin2.bank (ho2.trans ey)
              refine ⟨twcU_n hu2, ⟨x, hin2.bank (ho1.trans ex), ex⟩, ?_, ?_⟩
              · rw [ey]
                exact Or.inr ⟨y, yb, rfl⟩
              · rw [ey]
                exact (md_oI (x := y) (by omega)).symm
            · rw [uA_o _ _ _ _ (by decide), x6.1]; exact m18
            · rw [uA_2, nI_clamp (by omega), if_pos ⟨rfl, rfl⟩]
            · rw [uA_2, nI_clamp (by omega), if_neg (by omega), x6.1]; exact eM b j h1 h2 h3
          · obtain ⟨f, p, g1, g2, g3, g4⟩ := id dd
            rw [x1, ob_def, x2, ob_def, if_pos rfl, bz_0]
            exact st_fail (bridge_dead g1) rfl (dd.tr fC3 fM4)
        · rw [if_neg (show ¬ nI (tkd s (nx + 1 + 1 + 1)) = ci_2 from fun u => z (nI_inj (by omega) (by decide) (u.trans ci_2_n))), if_neg (show ¬ nI (mkK (tkd s (nx + 1 + 1 + 1))) = 0 from fun u => z (mkK_0.mp (nI_inj (by omega) (by decide) (u.trans (show (0 : Int32) = nI 0 from rfl)))))]
          refine st_bridge2 (U0 := U) (lm := cb_m2) hT K4 nl hin2 ⟨b6, p10, lt, m7⟩ ⟨c0, c1, c2, c3⟩ ⟨d0, d1, d2, d3⟩ hc (by omega) (fun u => ?_) e14 eA m18 m19 eM fC3 fM4
          obtain ⟨hu2, x, ex⟩ := unkU_n u
          exact ⟨twcU_n hu2, ⟨x, hin2.bank (ho1.trans ex), ex⟩, Or.inl (by decide), by decide⟩
      · obtain ⟨f, p, g1, g2, g3, g4⟩ := id dd
        rw [w1, ob_def, w2, ob_def, if_pos rfl, m_tellBridge_b54, bz_0]
        exact st_fail (bridge_kd hT g1) rfl (dd.tr fC1 fM1)
    · obtain ⟨f, p, g1, g2, g3, g4⟩ := id dd
      rw [v1, ob_def, v2, ob_def, if_pos rfl, c_nameD g1, ob_def, m_tellBridge_b54, bz_0]
      exact st_fail (bridge_kd hT g1) rfl (dd.tr frQq.u44 frJ.u7)
  · obtain ⟨f, p, g1, g2, g3, g4⟩ := id dd
    rw [t1, ob_def, if_neg (show ¬ nI G = nI 4 from fun u => by have := nI_inj (by omega) (by omega) u; omega), u1, ob_def, if_pos rfl, c_newD g1, ob_def, c_nameD g1, ob_def, m_tellBridge_b54, bz_0]
    exact st_fail (bridge_kd hT g1) rfl dd
  · obtain ⟨f, p, g1, g2, g3, g4⟩ := id dd
    rw [t1, ob_def, if_pos (show nI G = nI 4 by rw [eq]), u1, ob_def, c_newD g1, ob_def, c_nameD g1, ob_def]
    exact st_fail (bridge_kd hT g1) rfl dd
