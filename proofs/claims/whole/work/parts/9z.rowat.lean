theorem bit14v {s j : Nat} (hs : s < 2 ^ 31) (hj : j < 14) : ((nI s >>> (nI j &&& 31)) &&& ci_1) = if s.testBit j = true then 1 else 0 := by
  rw [nI_shr14 hs hj, ci1_nI, nI_and, Nat.and_one_is_mod, Nat.shiftRight_eq_div_pow, Nat.testBit_eq_decide_div_mod_eq]
  rcases Nat.mod_two_eq_zero_or_one (s / 2 ^ j) with z | z
  · rw [z]
    rfl
  · rw [z]
    rfl
theorem pc_00 : ∀ p : Fin 128, pc p.val = 0 → p.val = 0 := by decide +kernel
theorem pc_z {p : Nat} (hp : p < 128) (h : pc p = 0) : p = 0 := pc_00 ⟨p, hp⟩ h
theorem hdP_0 (c : Nat) : hdP c 0 = fun _ => false := funext (fun q => Nat.zero_testBit _)
/-- with none hired -/
theorem gp_0 {T : aT} {L : aL} {G : aG} {h s l0 : Nat} {x : List Nat} {p : Nat} (hp : p < 2 ^ cS s) : gp T L G h s l0 0 x p = true ↔ p = 0 ∧ gdR T L G h s l0 (fun _ => false) x = true := by
  have := pow_128 (cS_7 (s := s))
  unfold gp
  rw [Bool.and_eq_true, decide_eq_true_iff]
  constructor
  · rintro ⟨a, b⟩
    have e := pc_z (by omega) a
    subst e
    rw [hdP_0] at b
    exact ⟨rfl, b⟩
  · rintro ⟨rfl, b⟩
    rw [hdP_0]
    exact ⟨by decide, b⟩
theorem FstP_0 {T : aT} {L : aL} {G : aG} {h s l0 : Nat} {y : List Nat} (H : (pL (cS s) (List.range (cS s))).find? (gdR T L G h s l0 (fun _ => false)) = some y) : FstP T L G h s l0 0 (pL (cS s) (List.range (cS s))) y 0 := by
  obtain ⟨a, pre, post, e, b⟩ := List.find?_eq_some_iff_append.mp H
  have pos : 0 < 2 ^ cS s := Nat.pow_pos (by decide)
  refine ⟨pre, post, e, fun x hx p' hp' => ?_, pos, (gp_0 pos).mpr ⟨rfl, a⟩, fun p' hp' => by omega⟩
  cases q : gp T L G h s l0 0 x p'
  · rfl
  · have := b x hx
    rw [((gp_0 hp').mp q).2] at this
    cases this
theorem sim_orderAt {i : Nat} {σC σM : bS} (hi : i ≤ 3072) (h : Rel i σC σM) (x y v : Int32) : Sim_orderAt (Rel (i + 6)) x y v σC σM := by
  have hrel := h
  obtain ⟨T, L, G, H⟩ := h
  have H : RelB i T L G σC σM := H
  have hM := H.1.2.2.2.1
  have h7 : (2 : Nat) ^ tM T ≤ 2 ^ 7 := Nat.pow_le_pow_right (by decide) hM
  obtain ⟨hr, r1, r2, r3⟩ := Rel.hour H.2.2.2.2.2.1 hi
  by_cases hv : 0 ≤ v
  · rcases row_cases (n := 6000) (n1 := 6000) (by omega) (by omega) H x y with ⟨a1, a2⟩ | ⟨b, s, hb, h0, hs, rfl, rfl, a2, ⟨a3, a4⟩ | ⟨a3, a4, a5⟩⟩
    · refine ⟨6000, 6000, -1, σC, σM, ?_, ?_, hrel.mono (by omega)⟩
      · unfold cTop_orderAt cTop_orderAt_b14
        rw [if_pos hv, a1, ob_def, if_neg m1_ne]
      · unfold m_orderAt
        rw [a2, ob_def, if_pos rfl, m_orderAt_b13, cim1]
    · refine ⟨6000, 6000, -2, σC, uI σM 0 40 ci_0, ?_, ?_, hrel.of (by omega) frC.rf frQw⟩
      · unfold cTop_orderAt cTop_orderAt_b14
        rw [if_pos hv, a3, ob_def, if_neg m2_ne]
      · unfold m_orderAt
        rw [a2, ob_def, if_neg one_ne, if_pos hv, a4, ob_def, if_pos rfl, m_orderAt_b33, cbm2]
    · have h3 : MTx T L (uI σM 0 40 ci_0) := H.2.2.1.of (fun _ _ _ => rfl)
      have ec : pc s = cS s := (rowL_pc (z := 0) (by omega)).symm
      have c7 := cS_7 (s := s)
      obtain ⟨l0, σ1, c1, c2, c3, c4, c5⟩ := c_prepE (n := 6000) (x := 1) (by omega) H.1 H.2.1 H.2.2.2.1 (H.2.2.2.2.2.1.2.1 b hb) hb hs (by omega) (by omega) r2
      obtain ⟨N0, σ2, R2, d1, d2, d3, d4⟩ := c_few (n := 6000) (most := 0) (by omega) H.1 h0 hs (by omega) (Or.inl (by omega)) (by omega) c4 c2
      obtain ⟨σ3, g1, g2, g3, g4⟩ := m_goodR (n := 6000) (l0 := l0) (σ := uI σM 0 40 ci_0) (by omega) H.1 (H.2.2.2.2.2.1.up hi) r2 (by omega) hb h0 hs a5 c2.2.2.2.2.1 c2.2.2.2.1 h3 H.2.2.2.2.1
      have f12 : frC scrC σC σ2 := (c3.mono sc_59).trans (d4.mono (fun a z => by unfold scrC; omega))
      have cT := fun (w : Option (Int32 × bS)) (q : (if nI N0 ≤ (0 : Int32) then (if v < (sI σ2 59 11) then ob (cRows_findRow 6000 ci_0 σ2) fun q3 => bin_ v 7 (some ((sA q3 67 v), q3)) else some (ci_m1, σ2)) else some (cb_m2, σ2)) = w) => show cTop_orderAt 6000 (nI b) (nI s) v σC = w by
        unfold cTop_orderAt cTop_orderAt_b14
        rw [if_pos hv, a3, ob_def, if_pos rfl, show cRows_prepare 6000 (nI b) (nI s) ci_1 σC = some σ1 from c1, ob_def, show cRows_fewestWishers 6000 ci_0 σ1 = some (nI N0, σ2) from d1, ob_def]
        exact q
      have cnt5 := Nat.le_trans (List.countP_le_length (p := gdR T L G hr s l0 (fun _ => false)) (l := pL (cS s) (List.range (cS s)))) (pL_count ⟨cS s, by omega⟩)
      have mT := fun (w : Option (Int32 × bS)) (q : (if (nI ((pL (cS s) (List.range (cS s))).countP (gdR T L G hr s l0 (fun _ => false))) : Int32) = 0 then m_orderAt_b33 6000 σ3 else if (sI σ3 0 49) ≤ v then m_orderAt_b54 6000 ci_m1 σ3 else bin_ v 7 (m_orderAt_b54 6000 (sA σ3 37 v) σ3)) = w) => show m_orderAt 6000 (nI b) (nI s) v σM = w by
        unfold m_orderAt
        rw [a2, ob_def, if_neg one_ne, if_pos hv, a4, ob_def, if_neg one_ne, g1, ob_def]
        exact q
      have e49 : sI σ3 0 49 = nI (cS s) := g3
      have e11 : sI σ2 59 11 = nI (cS s) := by
        rw [← ec]
        exact (congrFun (d4 59 (by decide)).1 11).trans c2.2.1
      have pos : 0 < 2 ^ cS s := Nat.pow_pos (by decide)
      by_cases ex : eW (tHome T) (wN T L G hr) s 0 0 0 (2 * l0)
      · have e0 : N0 = 0 := by
          rcases Nat.eq_zero_or_pos N0 with z | z
          · exact z
          · exact absurd ex (d3.1 0 z (by omega))
        subst e0
        obtain ⟨x, hx, p, hp, g⟩ := (exN_eW (T := T) (L := L) (G := G) (h := hr) (l0 := l0) (N := 0) (by omega)).mpr ex
        have gx := ((gp_0 hp).mp g).2
        have cpos : 0 < (pL (cS s) (List.range (cS s))).countP (gdR T L G hr s l0 (fun _ => false)) := List.countP_pos_iff.mpr ⟨x, hx, gx⟩
        have nz : ¬ (nI ((pL (cS s) (List.range (cS s))).countP (gdR T L G hr s l0 (fun _ => false))) : Int32) = 0 := fun u => by
          have := nI_inj (by have : (pL (cS s) (List.range (cS s))).countP (gdR T L G hr s l0 (fun _ => false)) ≤ 5040 := cnt5; omega) (by decide) (u.trans (show (0 : Int32) = nI 0 from rfl))
          omega
        cases ef : (pL (cS s) (List.range (cS s))).find? (gdR T L G hr s l0 (fun _ => false)) with
        | none => exact absurd gx (by simpa using List.find?_eq_none.mp ef x hx)
        | some yy =>
          rcases ncases (cS s) (by omega) v with ⟨q, hq, rfl⟩ | z
          · obtain ⟨σ4, k1, k2, k3, -⟩ := c_findRow (n := 6000) (by omega) H.1 h0 hs (Or.inl (Nat.le_refl 0)) (Nat.le_refl 1) (c4.fr d4 (fun a x y => by omega)) (c2.fr d4 (by decide) (by decide)) d2 ((d3.2.1 (Nat.le_refl 0)).2.clo (by omega) (by omega)) (FstP_0 ef)
            refine ⟨6000, 6000, nI (eS s (yy.getD q 0)), σ4, σ3, cT _ ?_, mT _ ?_, hrel.of (by omega) (f12.trans (k2.mono (fun a z => by unfold scrC; omega))) (frQw.trans g4)⟩
            · rw [if_pos (show nI 0 ≤ 0 from Int32.le_refl _), e11, if_pos ((nI_ltI (by omega) (by omega)).mpr hq), show cRows_findRow 6000 ci_0 σ2 = _ from k1, ob_def, bin_nI (by omega) (by decide), sA_n _ _ (by omega), k3 q hq]
            · rw [if_neg nz, e49, if_neg (nI_ge hq (by omega)), bin_nI (by omega) (by decide), m_orderAt_b54, sA_n _ _ (by omega), g2 yy ef q hq]
          · have z : nI (cS s) ≤ v := z.elim (fun u => absurd hv (Int32.not_le.mpr u)) id
            refine ⟨6000, 6000, -1, σ2, σ3, cT _ ?_, mT _ ?_, hrel.of (by omega) f12 (frQw.trans g4)⟩
            · rw [if_pos (show nI 0 ≤ 0 from Int32.le_refl _), e11, if_neg (Int32.not_lt.mpr z), cim1]
            · rw [if_neg nz, e49, if_pos z, m_orderAt_b54, cim1]
      · have e1 : N0 = 1 := by
          rcases Nat.eq_zero_or_pos N0 with z | z
          · subst z
            exact absurd (d3.2.1 (Nat.le_refl 0)).1 ex
          · have := d3.2.2
            omega
        subst e1
        have c0 : (pL (cS s) (List.range (cS s))).countP (gdR T L G hr s l0 (fun _ => false)) = 0 := by
          rcases Nat.eq_zero_or_pos ((pL (cS s) (List.range (cS s))).countP (gdR T L G hr s l0 (fun _ => false))) with z | z
          · exact z
          · obtain ⟨x, hx, gx⟩ := List.countP_pos_iff.mp z
            exact absurd ((exN_eW (T := T) (L := L) (G := G) (h := hr) (l0 := l0) (N := 0) (by omega)).mp ⟨x, hx, 0, pos, (gp_0 pos).mpr ⟨rfl, gx⟩⟩) ex
        refine ⟨6000, 6000, -2, σ2, σ3, cT _ ?_, mT _ ?_, hrel.of (by omega) f12 (frQw.trans g4)⟩
        · rw [if_neg (show ¬ nI 1 ≤ 0 by decide), cbm2]
        · rw [c0, if_pos (show (nI 0 : Int32) = 0 from rfl), m_orderAt_b33, cbm2]
  · refine ⟨6000, 6000, -1, σC, σM, ?_, ?_, hrel.mono (by omega)⟩
    · unfold cTop_orderAt cTop_orderAt_b14
      rw [if_neg hv, cim1, if_neg m1_ne]
    · unfold m_orderAt
      rcases row_cases (n := 6000) (n1 := 6000) (by omega) (by omega) H x y with ⟨a1, a2⟩ | ⟨b, s, hb, h0, hs, rfl, rfl, a2, -⟩
      · rw [a2, ob_def, if_pos rfl, m_orderAt_b13, cim1]
      · rw [a2, ob_def, if_neg one_ne, if_neg hv, m_orderAt_b13, cim1]
theorem sim_wisherAt {i : Nat} {σC σM : bS} (hi : i ≤ 3072) (h : Rel i σC σM) (x y v : Int32) : Sim_wisherAt (Rel (i + 6)) x y v σC σM := by
  have hrel := h
  obtain ⟨T, L, G, H⟩ := h
  have H : RelB i T L G σC σM := H
  have hM := H.1.2.2.2.1
  have h7 : (2 : Nat) ^ tM T ≤ 2 ^ 7 := Nat.pow_le_pow_right (by decide) hM
  obtain ⟨hr, r1, r2, r3⟩ := Rel.hour H.2.2.2.2.2.1 hi
  by_cases hv : 0 ≤ v
  · rcases row_cases (n := 6000) (n1 := 6000) (by omega) (by omega) H x y with ⟨a1, a2⟩ | ⟨b, s, hb, h0, hs, rfl, rfl, a2, ⟨a3, a4⟩ | ⟨a3, a4, a5⟩⟩
    · refine ⟨6000, 6000, -1, σC, σM, ?_, ?_, hrel.mono (by omega)⟩
      · unfold cTop_wisherAt cTop_wisherAt_b14
        rw [if_pos hv, a1, ob_def, if_neg m1_ne]
      · unfold m_wisherAt
        rw [a2, ob_def, if_pos rfl, m_wisherAt_b13, cim1]
    · refine ⟨6000, 6000, -2, σC, uI σM 0 40 ci_0, ?_, ?_, hrel.of (by omega) frC.rf frQw⟩
      · unfold cTop_wisherAt cTop_wisherAt_b14
        rw [if_pos hv, a3, ob_def, if_neg m2_ne]
      · unfold m_wisherAt
        rw [a2, ob_def, if_neg one_ne, if_pos hv, a4, ob_def, if_pos rfl, cbm2]
    · have h3 : MTx T L (uI σM 0 40 ci_0) := H.2.2.1.of (fun _ _ _ => rfl)
      have ec : pc s = cS s := (rowL_pc (z := 0) (by omega)).symm
      have c7 := cS_7 (s := s)
      have pw := pow_128 c7
      obtain ⟨l0, σ1, c1, c2, c3, c4, c5⟩ := c_prepE (n := 6000) (x := 2) (by omega) H.1 H.2.1 H.2.2.2.1 (H.2.2.2.2.2.1.2.1 b hb) hb hs (by omega) (by omega) r2
      obtain ⟨N0, σ2, R2, d1, d2, d3, d4⟩ := c_few (n := 6000) (most := pc s) (by omega) H.1 h0 hs (by omega) (Or.inr rfl) (by omega) c4 c2
      obtain ⟨N1, yy, p, σ3, g1, g2, g3, g4, g5, g6, g7⟩ := m_few (n := 6000) (l0 := l0) (σ := uI σM 0 40 ci_0) (by omega) H.1 (H.2.2.2.2.2.1.up hi) r2 (by omega) hb h0 hs a5 c2.2.2.2.2.1 c2.2.2.2.1 h3 H.2.2.2.2.1
      obtain ⟨e1, e2⟩ := few_alike (h := hr) h0 (by omega) (Nat.le_of_eq (rowL_pc (z := 0) (by omega))) d3 g1 g3.ex.1
      subst e1
      have e11 : sI σ1 59 11 = nI (cS s) := by
        rw [← ec]
        exact c2.2.1
      have cT := fun (w : Option (Int32 × bS)) (q : (if v < (nI (cS s) : Int32) then ob (cRows_fewestWishers 6000 (sI σ1 59 11) σ1) fun q2 => ob (cRows_findRow 6000 q2.1 q2.2) fun q3 => bin_ v 7 (if (((sI q3 59 9) >>> (v &&& 31)) &&& ci_1) = ci_1 then cTop_wisherAt_b98 6000 (sA q3 67 v) cb_100 q3 else cTop_wisherAt_b98 6000 (sA q3 67 v) ci_0 q3) else some (ci_m1, σ1)) = w) => show cTop_wisherAt 6000 (nI b) (nI s) v σC = w by
        unfold cTop_wisherAt cTop_wisherAt_b14
        rw [if_pos hv, a3, ob_def, if_pos rfl, show cRows_prepare 6000 (nI b) (nI s) ci_2 σC = some σ1 from c1, ob_def, ← e11] at *
        exact q
      have e49 : sI σ3 0 49 = nI (cS s) := g5.2.2.1.1
      have mT := fun (w : Option (Int32 × bS)) (q : (if v < (nI (cS s) : Int32) then bin_ v 7 (m_wisherAt_b63 6000 v (sA σ3 34 v) (sI σ3 0 55) ((sI σ3 0 49) - ci_1) σ3) else m_wisherAt_b72 6000 ci_m1 σ3) = w) => show m_wisherAt 6000 (nI b) (nI s) v σM = w by
        unfold m_wisherAt
        rw [a2, ob_def, if_neg one_ne, if_pos hv, a4, ob_def, if_neg one_ne, g4, ob_def]
        show (if v < (sI σ3 0 49) then _ else _) = _
        rw [← e49] at q
        exact q
      rcases ncases (cS s) (by omega) v with ⟨q, hq, rfl⟩ | z
      · have F := g3
        obtain ⟨-, -, -, -, p1, -⟩ := g3
        obtain ⟨σ4, k1, k2, k3, k4⟩ := c_findRow (n := 6000) (by omega) H.1 h0 hs (Or.inr rfl) (by omega) (c4.fr d4 (fun a x y => by omega)) (c2.fr d4 (by decide) (by decide)) d2 ((d3.2.1 e2).2.clo e2 (by omega)) F
        have b1 := hbN_lt (hdP (cS s) p) (cS s)
        have bb := hbN_bit (hdP (cS s) p) q (cS s)
        refine ⟨6000, 6000, nI (eS s (yy.getD q 0)) + (if hdP (cS s) p q = true then cb_100 else ci_0), σ4, σ3, cT _ ?_, mT _ ?_, hrel.of (by omega) (((c3.mono sc_59).trans (d4.mono (fun a z => by unfold scrC; omega))).trans (k2.mono (fun a z => by unfold scrC; omega))) (frQw.trans g7)⟩
        · rw [if_pos ((nI_ltI (by omega) (by omega)).mpr hq), e11, show cRows_fewestWishers 6000 (nI (cS s)) σ1 = some (nI N0, σ2) by rw [← ec]; exact d1, ob_def, k1, ob_def, bin_nI (by omega) (by decide), show sI σ4 59 9 = _ from k4, sA_n _ _ (by omega), k3 q hq]
          by_cases w : hdP (cS s) p q = true
          · rw [if_pos ((bit14 (by omega) (by omega)).mpr (bb.mpr ⟨hq, w⟩)), if_pos w, cTop_wisherAt_b98]
          · rw [if_neg (fun u => w (bb.mp ((bit14 (by omega) (by omega)).mp u)).2), if_neg w, cTop_wisherAt_b98]
        · rw [if_pos ((nI_ltI (by omega) (by omega)).mpr hq), bin_nI (by omega) (by decide), sA_n _ _ (by omega), g5.2.2.1.2 q hq, show sI σ3 0 55 = nI p from g6, e49, m_wisherAt_b63, m_wisherAt_b65, m_wisherAt_b72, ci1_nI, nI_sub (by omega), nI_sub (by omega), ← ci1_nI, bit14v (by omega) (by omega)]
          by_cases w : hdP (cS s) p q = true
          · have w' : p.testBit (cS s - 1 - q) = true := w
            rw [if_pos w, if_pos w', show (1 : Int32) * cb_100 = cb_100 by decide]
          · have w' : ¬ p.testBit (cS s - 1 - q) = true := w
            rw [if_neg w, if_neg w', show (0 : Int32) * cb_100 = ci_0 by decide]
      · have z : nI (cS s) ≤ v := z.elim (fun u => absurd hv (Int32.not_le.mpr u)) id
        refine ⟨6000, 6000, -1, σ1, σ3, cT _ ?_, mT _ ?_, hrel.of (by omega) (c3.mono sc_59) (frQw.trans g7)⟩
        · rw [if_neg (Int32.not_lt.mpr z), cim1]
        · rw [if_neg (Int32.not_lt.mpr z), m_wisherAt_b72, cim1]
  · refine ⟨6000, 6000, -1, σC, σM, ?_, ?_, hrel.mono (by omega)⟩
    · unfold cTop_wisherAt cTop_wisherAt_b14
      rw [if_neg hv, cim1, if_neg m1_ne]
    · unfold m_wisherAt
      rcases row_cases (n := 6000) (n1 := 6000) (by omega) (by omega) H x y with ⟨a1, a2⟩ | ⟨b, s, hb, h0, hs, rfl, rfl, a2, -⟩
      · rw [a2, ob_def, if_pos rfl, m_wisherAt_b13, cim1]
      · rw [a2, ob_def, if_neg one_ne, if_neg hv, m_wisherAt_b13, cim1]
