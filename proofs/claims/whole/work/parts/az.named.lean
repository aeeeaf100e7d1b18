/-! LAWS of MEN and BRIDGES; one statement -/
theorem st_named21 {s : tS} {n nx B P G M a m : Nat} {U : Option (Nat × Nat)} {N : nmS} {x1 : Int32} {σC σM : bS} (hn : 500 ≤ n) (hT : okT s) (h : PR s nx U N B P G M a m σC σM) (hk : tkd s nx = 17) (hx1 : x1 = nI 17) : StO n s nx (cReader_readNamedLaw_21 n x1 cb_16 σC) (m_tellLawOf n ci_2 ci_0 σM) σC σM := by
  obtain ⟨hK, hQ, hc⟩ := h
  obtain ⟨⟨hl, hin⟩, ⟨b6, p10, g4, m7⟩, -⟩ := id hQ
  unfold cReader_readNamedLaw_21 m_tellLawOf
  rcases k_word (n := n) (x := x1) (k := 17) hT hK hx1 hk (by omega) with ⟨n4, t1, u1, h1⟩ | ⟨σ1, σ2, t1, u1, dd⟩
  · rw [t1, ob_def, u1, ob_def, if_neg one_ne]
    rcases k_name (n := n) (k := 2) (x := cb_16) (y := ci_2) (by omega) hT h1 (by omega) (by omega) (by decide) (by decide) with ⟨v0, σ1, σ2, v1, v2, v3, v4, v5, v6⟩ | ⟨σ1, σ2, v1, v2, dd⟩
    · generalize ho1 : fndN N (twd s (nx + 1)) 2 = o1 at *
      have e35 : sI σ2 0 35 = oI o1 := v4
      rw [v1, ob_def, v2, ob_def, if_neg one_ne]
      show StO n s nx (ob (cReader_takeLaw n σ1) fun q3 => if oI o1 < 0 then cReader_readNamedLaw_21_b36 n q3.2 else if cn_7 ≤ oI o1 then cReader_readNamedLaw_21_b36 n q3.2 else bin_ (oI o1) 7 (cReader_readNamedLaw_21_b36 n (uA q3.2 21 (oI o1) q3.1))) (if 0 ≤ sI σ2 0 35 then m_tellLawOf_b35 n (ci_0 + sI σ2 0 35) σ2 else m_tellLawOf_b35 n ci_m1 σ2) σC σM
      rw [e35]
      have fC1 : frQq σC σ1 := frQq.u44.trans (frQq.ofN v5)
      have fM1 : frJ σM σ2 := frJ.u7.trans (frJ.ofV v6)
      have e14 : σ1.1 14 = σC.1 14 := e_14 v5
      have eM : ∀ b, ¬ (b = 26 ∨ b = 27) → σ2.2.1 b = σM.2.1 b := fun b _ => by rw [v6.1]; rfl
      cases o1 with
      | none =>
        obtain ⟨r, σ3, v, σ4, w1, w2, w3, σ5, w4⟩ := k_law (n := n) (o := none) (x := ci_m1) hn hT v3 cim1 (fun l e => by cases e)
        rw [if_neg (show ¬ (0 : Int32) ≤ oI none by decide), m_tellLawOf_b35, w2, ob_def, bz_v w3, w1, ob_def, if_pos (show oI none < 0 by decide), cReader_readNamedLaw_21_b36]
        rcases w4 with ⟨y1, dd⟩ | ⟨y1, nx', a', m', q, z1, z2, z3, z4, z5, z6, z7, z8, z9, z10, z11, z12, z13, z14⟩
        · exact ⟨_, σ5, rfl, Or.inl ⟨y1, dd.tr fC1 fM1⟩⟩
        · refine ⟨_, σ5, rfl, Or.inr ⟨y1, fC1.trans (frQq.ofZ z9), fM1.trans (frJ.ofL z12 z13 z14 (fun l e => by cases e)), nx', _, N, B, P, G, M, a', m', by omega, z3, ?_, fun hu => ?_⟩⟩
          · exact hQ.of (fun j2 hj2 => by rw [(frZ_14 z9 14 (by omega)).1, e14]) (fun b hb => by rw [z12.2.1 b (by omega), eM b (by omega)])
          · obtain ⟨x, e⟩ := (unkU_n hu).2
            cases e
      | some x =>
        have xb := hin.man ho1
        have ex : ci_0 + oI (some x) = nI (0 + x) := by
          show ci_0 + nI x = _
          rw [show ci_0 = nI 0 by decide, nI_add]
        have ex2 : oI (some x) = nI x := rfl
        obtain ⟨r, σ3, v, σ4, w1, w2, w3, σ5, w4⟩ := k_law (n := n) (o := some (0 + x)) (x := nI (0 + x)) hn hT v3 rfl (fun l e => by have e := Option.some.inj e; omega)
        rw [if_pos (show (0 : Int32) ≤ oI (some x) from Int32.not_lt.mp (nI_pos (by omega))), ex, m_tellLawOf_b35, w2, ob_def, bz_v w3, w1, ob_def, ex2, if_neg (show ¬ nI x < 0 from nI_pos (by omega)), show cn_7 = nI 7 by decide, if_neg (nI_ge (by omega) (by omega)), bin_nI (by omega) (by decide), cReader_readNamedLaw_21_b36]
        rcases w4 with ⟨y1, dd⟩ | ⟨y1, nx', a', m', q, z1, z2, z3, z4, z5, z6, z7, z8, z9, z10, z11, z12, z13, z14⟩
        · exact ⟨_, σ5, rfl, Or.inl ⟨y1, Dd.uA (by omega) (dd.tr fC1 fM1)⟩⟩
        · have q14 : σ3.1 14 = σC.1 14 := (frZ_14 z9 14 (by omega)).1.trans e14
          have r21 : ∀ b, 15 ≤ b → b ≤ 22 → σ3.2.1 b = σC.2.1 b := fun b h1 h2 => by rw [(frZ_14 z9 b (by omega)).2, (frN_k v5 b (by omega)).2]; rfl
          refine ⟨_, σ5, rfl, Or.inr ⟨y1, (fC1.trans (frQq.ofZ z9)).trans (frQq.uA (by omega)), fM1.trans (frJ.ofL z12 z13 z14 (fun l e => by have e := Option.some.inj e; omega)), nx', _, N, B, P, G, M, a', m', by omega, PK.uAC (by omega) z3, ?_, fun hu => ?_⟩⟩
          · exact hQ.of (fun j2 hj2 => by show σ3.1 14 j2 = _; rw [q14]) (fun b hb => by rw [z12.2.1 b (by omega), eM b (by omega)])
          · have hu0 := (unkU_n hu).1
            refine PC_law (hc hu0) (l := 0 + x) (by omega) z4 z5 z6 (z7.of (uA_o _ _ _ _ (by decide))) z10 (z11 _ rfl) (fun i hi => ?_) (fun i hi => ?_) ⟨fun i hi => ?_, fun i hi => ?_⟩ (fun b h1 h2 => ?_) ?_ (fun k hk hne => ?_) (fun j2 hj2 => ?_) (fun b h1 h2 => ?_)
            · rw [uA_o _ _ _ _ (by decide), z8 i hi, (frN_k v5 24 (by omega)).2]; rfl
            · rw [(z13 i hi).1, (z13 i hi).2, eM 7 (by decide), eM 8 (by decide)]; exact ⟨rfl, rfl⟩
            · rw [(z14.1 i hi).1, (z14.1 i hi).2, eM 10 (by decide), eM 11 (by decide)]; exact ⟨rfl, rfl⟩
            · rw [z14.2 i hi, eM 9 (by decide)]
            · rw [z12.2.1 b (by omega), eM b (by omega)]
            · unfold cellL
              rw [if_pos (show 0 + x < 7 by omega), show 0 + x = x by omega, uA_2, nI_clamp (by omega), if_pos ⟨rfl, rfl⟩, z2]
            · unfold cellL
              by_cases w : k < 7
              · rw [if_pos w, if_pos w, uA_2, nI_clamp (by omega), if_neg (by omega), r21 21 (by omega) (by omega)]
              · rw [if_neg w, if_neg w, uA_o _ _ _ _ (by decide), r21 22 (by omega) (by omega)]
                split
                · rfl
                · exact congrFun q14 _
            · show σ3.1 14 j2 = _
              rw [q14]
            · rw [uA_o _ _ _ _ (by omega), r21 b (by omega) (by omega)]
    · obtain ⟨f, p, g1, g2, g3, g4⟩ := id dd
      obtain ⟨r, σ3, w1, w2, w3⟩ := c_lawD (n := n) (by omega) g1
      rw [v1, ob_def, v2, ob_def, if_pos rfl, w1, ob_def, if_pos (show (-1 : Int32) < 0 by decide), cReader_readNamedLaw_21_b36, m_tellLawOf_b15, bz_0]
      exact st_fail rfl rfl (show Dd s σC σM σ3 σ2 from Dd.tr ⟨f, p, w3, g2, g3.trans (frQq.ofZ w2), g4⟩ frQq.u44 frJ.u7)
  · obtain ⟨f, p, g1, g2, g3, g4⟩ := id dd
    obtain ⟨r, σ3, w1, w2, w3⟩ := c_lawD (n := n) (by omega) g1
    rw [t1, ob_def, u1, ob_def, if_pos rfl, c_nameD g1, ob_def, w1, ob_def, if_pos (show (-1 : Int32) < 0 by decide), cReader_readNamedLaw_21_b36, m_tellLawOf_b15, bz_0]
    exact st_fail rfl rfl (show Dd s σC σM σ3 σ2 from ⟨f, p, w3, g2, g3.trans (frQq.ofZ w2), g4⟩)
theorem st_named22 {s : tS} {n nx B P G M a m : Nat} {U : Option (Nat × Nat)} {N : nmS} {x1 : Int32} {σC σM : bS} (hn : 500 ≤ n) (hT : okT s) (h : PR s nx U N B P G M a m σC σM) (hk : tkd s nx = 18) (hx1 : x1 = nI 18) : StO n s nx (cReader_readNamedLaw_22 n x1 cb_15 σC) (m_tellLawOf n ci_1 cb_7 σM) σC σM := by
  obtain ⟨hK, hQ, hc⟩ := h
  obtain ⟨⟨hl, hin⟩, ⟨b6, p10, g4, m7⟩, -⟩ := id hQ
  unfold cReader_readNamedLaw_22 m_tellLawOf
  rcases k_word (n := n) (x := x1) (k := 18) hT hK hx1 hk (by omega) with ⟨n4, t1, u1, h1⟩ | ⟨σ1, σ2, t1, u1, dd⟩
  · rw [t1, ob_def, u1, ob_def, if_neg one_ne]
    rcases k_name (n := n) (k := 1) (x := cb_15) (y := ci_1) (by omega) hT h1 (by omega) (by omega) (by decide) (by decide) with ⟨v0, σ1, σ2, v1, v2, v3, v4, v5, v6⟩ | ⟨σ1, σ2, v1, v2, dd⟩
    · generalize ho1 : fndN N (twd s (nx + 1)) 1 = o1 at *
      have e35 : sI σ2 0 35 = oI o1 := v4
      rw [v1, ob_def, v2, ob_def, if_neg one_ne]
      show StO n s nx (ob (cReader_takeLaw n σ1) fun q3 => if oI o1 < 0 then cReader_readNamedLaw_22_b36 n q3.2 else if cn_4 ≤ oI o1 then cReader_readNamedLaw_22_b36 n q3.2 else bin_ (oI o1) 4 (cReader_readNamedLaw_22_b36 n (uA q3.2 22 (oI o1) q3.1))) (if 0 ≤ sI σ2 0 35 then m_tellLawOf_b35 n (cb_7 + sI σ2 0 35) σ2 else m_tellLawOf_b35 n ci_m1 σ2) σC σM
      rw [e35]
      have fC1 : frQq σC σ1 := frQq.u44.trans (frQq.ofN v5)
      have fM1 : frJ σM σ2 := frJ.u7.trans (frJ.ofV v6)
      have e14 : σ1.1 14 = σC.1 14 := e_14 v5
      have eM : ∀ b, ¬ (b = 26 ∨ b = 27) → σ2.2.1 b = σM.2.1 b := fun b _ => by rw [v6.1]; rfl
      cases o1 with
      | none =>
        obtain ⟨r, σ3, v, σ4, w1, w2, w3, σ5, w4⟩ := k_law (n := n) (o := none) (x := ci_m1) hn hT v3 cim1 (fun l e => by cases e)
        rw [if_neg (show ¬ (0 : Int32) ≤ oI none by decide), m_tellLawOf_b35, w2, ob_def, bz_v w3, w1, ob_def, if_pos (show oI none < 0 by decide), cReader_readNamedLaw_22_b36]
        rcases w4 with ⟨y1, dd⟩ | ⟨y1, nx', a', m', q, z1, z2, z3, z4, z5, z6, z7, z8, z9, z10, z11, z12, z13, z14⟩
        · exact ⟨_, σ5, rfl, Or.inl ⟨y1, dd.tr fC1 fM1⟩⟩
        · refine ⟨_, σ5, rfl, Or.inr ⟨y1, fC1.trans (frQq.ofZ z9), fM1.trans (frJ.ofL z12 z13 z14 (fun l e => by cases e)), nx', _, N, B, P, G, M, a', m', by omega, z3, ?_, fun hu => ?_⟩⟩
          · exact hQ.of (fun j2 hj2 => by rw [(frZ_14 z9 14 (by omega)).1, e14]) (fun b hb => by rw [z12.2.1 b (by omega), eM b (by omega)])
          · obtain ⟨x, e⟩ := (unkU_n hu).2
            cases e
      | some x =>
        have xb := hin.bridge ho1
        have ex : cb_7 + oI (some x) = nI (7 + x) := by
          show cb_7 + nI x = _
          rw [show cb_7 = nI 7 by decide, nI_add]
        have ex2 : oI (some x) = nI x := rfl
        obtain ⟨r, σ3, v, σ4, w1, w2, w3, σ5, w4⟩ := k_law (n := n) (o := some (7 + x)) (x := nI (7 + x)) hn hT v3 rfl (fun l e => by have e := Option.some.inj e; omega)
        rw [if_pos (show (0 : Int32) ≤ oI (some x) from Int32.not_lt.mp (nI_pos (by omega))), ex, m_tellLawOf_b35, w2, ob_def, bz_v w3, w1, ob_def, ex2, if_neg (show ¬ nI x < 0 from nI_pos (by omega)), show cn_4 = nI 4 by decide, if_neg (nI_ge (by omega) (by omega)), bin_nI (by omega) (by decide), cReader_readNamedLaw_22_b36]
        rcases w4 with ⟨y1, dd⟩ | ⟨y1, nx', a', m', q, z1, z2, z3, z4, z5, z6, z7, z8, z9, z10, z11, z12, z13, z14⟩
        · exact ⟨_, σ5, rfl, Or.inl ⟨y1, Dd.uA (by omega) (dd.tr fC1 fM1)⟩⟩
        · have q14 : σ3.1 14 = σC.1 14 := (frZ_14 z9 14 (by omega)).1.trans e14
          have r21 : ∀ b, 15 ≤ b → b ≤ 22 → σ3.2.1 b = σC.2.1 b := fun b h1 h2 => by rw [(frZ_14 z9 b (by omega)).2, (frN_k v5 b (by omega)).2]; rfl
          refine ⟨_, σ5, rfl, Or.inr ⟨y1, (fC1.trans (frQq.ofZ z9)).trans (frQq.uA (by omega)), fM1.trans (frJ.ofL z12 z13 z14 (fun l e => by have e := Option.some.inj e; omega)), nx', _, N, B, P, G, M, a', m', by omega, PK.uAC (by omega) z3, ?_, fun hu => ?_⟩⟩
          · exact hQ.of (fun j2 hj2 => by show σ3.1 14 j2 = _; rw [q14]) (fun b hb => by rw [z12.2.1 b (by omega), eM b (by omega)])
          · have hu0 := (unkU_n hu).1
            refine PC_law (hc hu0) (l := 7 + x) (by omega) z4 z5 z6 (z7.of (uA_o _ _ _ _ (by decide))) z10 (z11 _ rfl) (fun i hi => ?_) (fun i hi => ?_) ⟨fun i hi => ?_, fun i hi => ?_⟩ (fun b h1 h2 => ?_) ?_ (fun k hk hne => ?_) (fun j2 hj2 => ?_) (fun b h1 h2 => ?_)
            · rw [uA_o _ _ _ _ (by decide), z8 i hi, (frN_k v5 24 (by omega)).2]; rfl
            · rw [(z13 i hi).1, (z13 i hi).2, eM 7 (by decide), eM 8 (by decide)]; exact ⟨rfl, rfl⟩
            · rw [(z14.1 i hi).1, (z14.1 i hi).2, eM 10 (by decide), eM 11 (by decide)]; exact ⟨rfl, rfl⟩
            · rw [z14.2 i hi, eM 9 (by decide)]
            · rw [z12.2.1 b (by omega), eM b (by omega)]
            · unfold cellL
              rw [if_neg (show ¬ 7 + x < 7 by omega), if_pos (show 7 + x < 11 by omega), show 7 + x - 7 = x by omega, uA_2, nI_clamp (by omega), if_pos ⟨rfl, rfl⟩, z2]
            · unfold cellL
              by_cases w : k < 7
              · rw [if_pos w, if_pos w, uA_o _ _ _ _ (by decide), r21 21 (by omega) (by omega)]
              · rw [if_neg w, if_neg w]
                by_cases w2 : k < 11
                · rw [if_pos w2, if_pos w2, uA_2, nI_clamp (by omega), if_neg (by omega), r21 22 (by omega) (by omega)]
                · rw [if_neg w2, if_neg w2]
                  exact congrFun q14 _
            · show σ3.1 14 j2 = _
              rw [q14]
            · rw [uA_o _ _ _ _ (by omega), r21 b (by omega) (by omega)]
    · obtain ⟨f, p, g1, g2, g3, g4⟩ := id dd
      obtain ⟨r, σ3, w1, w2, w3⟩ := c_lawD (n := n) (by omega) g1
      rw [v1, ob_def, v2, ob_def, if_pos rfl, w1, ob_def, if_pos (show (-1 : Int32) < 0 by decide), cReader_readNamedLaw_22_b36, m_tellLawOf_b15, bz_0]
      exact st_fail rfl rfl (show Dd s σC σM σ3 σ2 from Dd.tr ⟨f, p, w3, g2, g3.trans (frQq.ofZ w2), g4⟩ frQq.u44 frJ.u7)
  · obtain ⟨f, p, g1, g2, g3, g4⟩ := id dd
    obtain ⟨r, σ3, w1, w2, w3⟩ := c_lawD (n := n) (by omega) g1
    rw [t1, ob_def, u1, ob_def, if_pos rfl, c_nameD g1, ob_def, w1, ob_def, if_pos (show (-1 : Int32) < 0 by decide), cReader_readNamedLaw_22_b36, m_tellLawOf_b15, bz_0]
    exact st_fail rfl rfl (show Dd s σC σM σ3 σ2 from ⟨f, p, w3, g2, g3.trans (frQq.ofZ w2), g4⟩)
