theorem maxD {n sc : Nat} {σ : bS} (h : sc ≤ 20) : ∃ m, m ≤ 20 ∧ cj_max n ci_0 (nI sc - ci_1) σ = some (nI m, σ) := by
  by_cases z : sc = 0
  · subst z
    refine ⟨0, by omega, ?_⟩
    unfold cj_max
    rw [if_neg (show ¬ ci_0 < nI 0 - ci_1 by decide)]
    rfl
  · refine ⟨sc - 1, by omega, ?_⟩
    rw [ci1_nI, nI_sub (by omega), maxE (by omega)]
theorem c_sum_l {s : tS} {n a : Nat} (hn : 500 ≤ n) (hT : okT s) : ∀ (k nx : Nat), nx + k = 401 →
    (∀ (fuel x2 : Nat) (C : codes) (S : List Nat) (o : Nat) (σ : bS), CES s a nx C S o σ → k + 2 ≤ fuel → x2 ≤ nx → ∃ σ', cReader_takeSum_b9 n fuel (nI o) (nI x2) σ = some σ' ∧ frZ σ σ' ∧ COut s a (sumA s k true nx C S o) σ σ') ∧
    (∀ (fuel fc x2 : Nat) (C : codes) (S : List Nat) (o : Nat) (σ : bS), CES s a nx C S o σ → k + 2 ≤ fuel → k + 2 ≤ fc → x2 ≤ nx → ∃ σ', cAft n fuel fc (nI o) (nI x2) σ = some σ' ∧ frZ σ σ' ∧ COut s a (sumA s k false nx C S o) σ σ')
  | 0, nx, e => ⟨fun fuel x2 C S o σ h => by
    have := h.1.1.2.2.1
    omega, fun fuel fc x2 C S o σ h => by
    have := h.1.1.2.2.1
    omega⟩
  | k + 1, nx, e => by
    obtain ⟨ihA, ihB⟩ := c_sum_l (a := a) hn hT k (nx + 1) (by omega)
    refine ⟨fun fuel x2 C S o σ h hf hx => ?_, fun fuel fc x2 C S o σ h hf hfc hx => ?_⟩
    · obtain ⟨fuel, rfl⟩ : ∃ f', fuel = f' + 1 := ⟨fuel - 1, by omega⟩
      obtain ⟨fuel', rfl⟩ : ∃ f', fuel = f' + 1 := ⟨fuel - 1, by omega⟩
      have hE := h
      obtain ⟨hP, hK, hO, ho, hb⟩ := h
      have nx4 := hP.1.2.2.1
      have k36 := hT.1 nx
      have ol := hO.len
      have w2 := wgt_le (S.headD 11)
      rw [cReader_takeSum_b9, cs_400_n, if_neg (Int32.not_lt.mpr ((nI_leI (by omega) (by omega)).mpr (show x2 ≤ 400 by omega))), if_pos (show sI σ 44 5 = 0 from hP.2), c_kindE hP.1, ob_def, show cb_11 = nI 11 by decide, sumA]
      by_cases z : tkd s nx = 11
      · rw [if_pos (by rw [z]), show cb_6 = nI 6 by decide, if_pos z]
        by_cases y : o = 6
        · rw [if_pos (by rw [y]), if_pos y]
          show ∃ σ', (ob (cReader_fail n ci_2 σ) fun q5 => cReader_takeSum_b43 n (cReader_takeSum_b9 n (fuel' + 1)) (nI o) (nI x2) q5) = some σ' ∧ _
          rw [c_failE (show ci_2 = nI 2 by decide) hP, ob_def, cReader_takeSum_b43]
          obtain ⟨σ1, a1, a2, a3⟩ := c_signD (n := n) (hP.deadS (f := 2) (Or.inr rfl) hK (by omega) (by omega))
          rw [a1, ob_def, cReader_takeSum_b99]
          obtain ⟨σ2, b1, b2, b3⟩ := c_9D (n := n) (k := fuel') (x := nI o + ci_1) (y := nI x2 + ci_1) (by omega) a2
          exact ⟨σ2, b1, (frZ_fail.trans a3).trans b3, b2⟩
        · rw [if_neg (fun u => y ((nI_eqI (by omega) (by decide)).mp u)), if_neg y]
          show ∃ σ', cReader_takeSum_b43 n (cReader_takeSum_b9 n (fuel' + 1)) (nI o) (nI x2) σ = some σ' ∧ _
          rw [cReader_takeSum_b43]
          rcases c_signE (n := n) hT hP hK (by omega) (by omega) (by omega) with ⟨w, σ1, a1, a2, a3, a4, a5⟩ | ⟨w, σ1, a1, a2, a3⟩
          · rw [a1, ob_def, cReader_takeSum_b99, nI_s, nI_s, if_pos w]
            rw [z] at a3
            obtain ⟨σ2, b1, b2, b3⟩ := ihA (fuel' + 1) (x2 + 1) C (11 :: S) (o + 1) σ1 ⟨a2, a3, Or.inl ⟨rfl, o, rfl, hO⟩, by omega, by rw [pnd, if_pos rfl]; omega⟩ (by omega) (by omega)
            exact ⟨σ2, b1, a4.trans b2, b3.tr a5⟩
          · rw [a1, ob_def, cReader_takeSum_b99, if_neg w]
            obtain ⟨σ2, b1, b2, b3⟩ := c_9D (n := n) (k := fuel') (x := nI o + ci_1) (y := nI x2 + ci_1) (by omega) a2
            exact ⟨σ2, b1, a3.trans b3, b2⟩
      · rw [if_neg (fun u => z ((nI_eqI (by omega) (by decide)).mp u)), if_neg z]
        obtain ⟨n', rfl⟩ : ∃ n', n = n' + 1 := ⟨n - 1, by omega⟩
        obtain ⟨σ1, a1, a2, a3⟩ := c_unitE (n := n' + 1) hT hE
        show ∃ σ', (ob (cReader_takeUnit (n' + 1) σ) fun q6 => cAft (n' + 1) (fuel' + 1) (n' + 1) (nI o) (nI x2) q6) = some σ' ∧ _
        rw [a1, ob_def]
        have dead : ∀ f, CDs s f (tpl s nx) σ1 → ∃ σ', cAft (n' + 1) (fuel' + 1) (n' + 1) (nI o) (nI x2) σ1 = some σ' ∧ frZ σ σ' ∧ COut s a (.inl (f, nx)) σ σ' := fun f hd => by
          obtain ⟨σ2, b1, b2, b3⟩ := c_rstD (n := n' + 1) (fuel := fuel') (x := nI o) (y := nI x2) hT (by omega) hd
          unfold cAft
          rw [c_clsD hd.1, ob_def]
          exact ⟨σ2, b1, a2.trans b3, b2⟩
        rcases a3 with ⟨y, w, b, c⟩ | ⟨y, w, b, c⟩ | ⟨y, w, b⟩ | ⟨y, w, b⟩
        · rw [if_pos y, if_pos w]
          obtain ⟨σ2, d1, d2, d3⟩ := ihB (fuel' + 1) (n' + 1) x2 _ S o σ1 b (by omega) (by omega) (by omega)
          exact ⟨σ2, d1, a2.trans d2, d3.tr c⟩
        · rw [if_neg (by omega), if_pos y, if_pos w]
          obtain ⟨σ2, d1, d2, d3⟩ := ihB (fuel' + 1) (n' + 1) x2 _ S o σ1 b (by omega) (by omega) (by omega)
          exact ⟨σ2, d1, a2.trans d2, d3.tr c⟩
        · by_cases x : tkd s nx = 3
          · rw [if_pos x, if_neg w]
            exact dead 2 b
          · rw [if_neg x, if_pos (y.resolve_left x), if_neg w]
            exact dead 2 b
        · rw [if_neg y, if_neg w]
          exact dead 1 b
    · obtain ⟨fc, rfl⟩ : ∃ f', fc = f' + 1 := ⟨fc - 1, by omega⟩
      obtain ⟨fc', rfl⟩ : ∃ f', fc = f' + 1 := ⟨fc - 1, by omega⟩
      obtain ⟨fuel', rfl⟩ : ∃ f', fuel = f' + 1 := ⟨fuel - 1, by omega⟩
      have hE := h
      obtain ⟨hP, hK, hO, ho, hb⟩ := h
      have nx4 := hP.1.2.2.1
      have k36 := hT.1 nx
      have ol := hO.len
      have w2 := wgt_le (S.headD 11)
      by_cases z : ¬ o = 0 ∧ tkd s nx = 12
      · unfold cAft
        rw [cReader_takeCloses_b2, if_neg (show ¬ nI o ≤ 0 from nI_ge (a := 0) (by omega) (by omega)), if_pos (show sI σ 44 5 = 0 from hP.2), c_kindE hP.1, ob_def, if_pos (show nI (tkd s nx) = cb_12 by rw [z.2]; decide), sumA, if_neg (by omega), if_neg z.1, if_pos z.2]
        show ∃ σ', ob (ob (cReader_take n cb_12 σ) fun q3 => ob (cReader_settleSigns n ci_1 q3) fun q4 => cReader_takeCloses_b41 n (cReader_takeCloses_b2 n (fc' + 1)) (nI o) ci_0 ((sI q4 44 13) - ci_1) q4) (cRst n (fuel' + 1) (nI x2)) = some σ' ∧ _
        rcases c_takeE (n := n) (x := cb_12) (k := 12) hT (by decide) (by omega) (by omega) hP with ⟨-, y, t1, t2⟩ | ⟨f, hf, t1, t2⟩
        · rw [t1, ob_def, if_pos y]
          obtain ⟨σ1, a1, a2, a3, a4⟩ := c_set (s := s) (n := n) (w := 1) (x := ci_1) (a := a) (nx := nx + 1) (C := C) (S := S) (o := o) (σ := uI σ 44 4 (nI (nx + 1))) (by omega) (by decide) (by omega) (by omega) ⟨t2, hK.of rfl (by rw [uI_1, if_neg (by decide)]) (by rw [uI_1, if_neg (by decide)]), hO, ho, by omega⟩
          obtain ⟨s1, s2, s3, s4⟩ := setl_ok (w := 1) (by omega) C hO
          obtain ⟨S', u1, u2⟩ := s1.top (by omega) s2
          rw [u1] at a2 s3 s4
          rw [List.length_cons] at s4
          rw [pnd, if_pos rfl] at s3
          have e13 : sI σ1 44 13 = nI (S'.length + 1) := a2.2.1.2.2.1
          rw [a1, ob_def, e13, ci1_nI, nI_sub (by omega), Nat.add_sub_cancel, cReader_takeCloses_b41, maxE (by omega), ob_def, cReader_takeCloses_b50]
          have eo : nI o + ci_m1 = nI (o - 1) := by
            obtain ⟨o', rfl⟩ : ∃ o', o = o' + 1 := ⟨o - 1, by omega⟩
            rw [dec_n, Nat.add_sub_cancel]
          rw [eo, u1, List.tail_cons]
          have hE2 : CES s a (nx + 1) (setl 1 C S).1 S' (o - 1) (uI σ1 44 13 (nI S'.length)) := by
            obtain ⟨g1, g2, g3, g4, g5⟩ := a2
            refine ⟨⟨⟨g1.1.1.fr (frZ.u44 (by decide)), ?_, g1.1.2.2.1, g1.1.2.2.2⟩, ?_⟩, ⟨?_, g2.2.1.of rfl, ?_, g2.2.2.2.2⟩, u2, by omega, by omega⟩
            · rw [uI_1, if_neg (by decide)]
              exact g1.1.2.1
            · rw [uI_1, if_neg (by decide)]
              exact g1.2
            · rw [uI_1, if_neg (by decide)]
              exact g2.1
            · rw [uI_1, if_pos ⟨rfl, rfl⟩]
          obtain ⟨σ2, d1, d2, d3⟩ := ihB (fuel' + 1) (fc' + 1) x2 _ S' (o - 1) _ hE2 (by omega) (by omega) (by omega)
          exact ⟨σ2, d1, (((frZ.u44 (by decide)).trans a3).trans (frZ.u44 (by decide))).trans d2, d3.tr (((frA.of rfl).trans a4).trans (frA.of rfl))⟩
        · rcases t1 with ⟨-, y, rfl⟩ | ⟨y, -⟩
          · rw [t2, ob_def, if_neg y]
            obtain ⟨σ1, a1, a2, a3⟩ := c_setD (n := n) (x := ci_1) (by omega) (hP.deadS (f := 2) hf hK (by omega) (by omega))
            have a2' := a2
            obtain ⟨hD, sc, c1, c2⟩ := a2'
            obtain ⟨m, m1, m2⟩ := maxD (n := n) (σ := σ1) c1
            obtain ⟨ll, l1, l2⟩ := hD.2.2.2.2
            have hD2 : CDs s 2 (tpl s nx) (uI σ1 44 13 (nI m)) := ⟨hD.mv (frZ.u44 (by decide)) (fun j hj => by rw [uI_1, if_neg (fun u => hj u.2)]) (by rw [uI_1, if_neg (by decide)]; exact l2) l1, m, m1, by rw [uI_1, if_pos ⟨rfl, rfl⟩]⟩
            rw [a1, ob_def, show sI σ1 44 13 = nI sc from c2, cReader_takeCloses_b41, m2, ob_def, cReader_takeCloses_b50]
            show ∃ σ', ob (cReader_takeCloses_b2 n (fc' + 1) (nI o + ci_m1) (uI σ1 44 13 (nI m))) (cRst n (fuel' + 1) (nI x2)) = some σ' ∧ _
            rw [c_clsD hD2.1, ob_def]
            obtain ⟨σ2, b1, b2, b3⟩ := c_rstD (n := n) (fuel := fuel') (x := nI o + ci_m1) (y := nI x2) hT (by omega) hD2
            exact ⟨σ2, b1, ((frZ_fail.trans a3).trans (frZ.u44 (by decide))).trans b3, b2⟩
          · exact absurd z.2 y
      · have ec : cReader_takeCloses_b2 n (fc' + 1 + 1) (nI o) σ = some (nI o, σ) := by
          rw [cReader_takeCloses_b2]
          by_cases y : o = 0
          · rw [if_pos (by rw [y]; exact Int32.le_refl _), cReader_takeCloses_b53]
          · rw [if_neg (show ¬ nI o ≤ 0 from nI_ge (a := 0) (by omega) (by omega)), if_pos (show sI σ 44 5 = 0 from hP.2), c_kindE hP.1, ob_def, if_neg (show ¬ nI (tkd s nx) = cb_12 from fun u => z ⟨y, (nI_eqI (by omega) (by decide)).mp (u.trans (show cb_12 = nI 12 by decide))⟩), cReader_takeCloses_b53]
        unfold cAft
        rw [ec, ob_def, cRst]
        show ∃ σ', (ob (cReader_kind n σ) fun q8 => _) = some σ' ∧ _
        rw [c_kindE hP.1, ob_def, show cb_6 = nI 6 by decide, show cb_9 = nI 9 by decide, sumA]
        by_cases y : 6 ≤ tkd s nx ∧ tkd s nx ≤ 9
        · have wi := wgt_in y
          rw [if_neg (fun u => by have := (nI_ltI (by omega) (by omega)).mp u; omega), if_pos y]
          show ∃ σ', (ob (cReader_kind n σ) fun q8 => _) = some σ' ∧ _
          rw [c_kindE hP.1, ob_def, if_pos ((nI_leI (by omega) (by omega)).mpr y.2)]
          show ∃ σ', (ob (cReader_kind n σ) fun q8 => _) = some σ' ∧ _
          rw [c_kindE hP.1, ob_def]
          show ∃ σ', (ob (cReader_weightOf n (nI (tkd s nx)) σ) fun q8 => _) = some σ' ∧ _
          rw [c_weight k36, ob_def]
          obtain ⟨σ1, a1, a2, a3, a4⟩ := c_set (n := n) (w := wgt (tkd s nx)) (x := nI (wgt (tkd s nx))) (by omega) rfl wi.1 wi.2 hE
          obtain ⟨s1, s2, s3, s4⟩ := setl_ok wi.1 C hO
          have l1 := s1.len
          show ∃ σ', (ob (cReader_settleSigns n (nI (wgt (tkd s nx))) σ) fun q8 => _) = some σ' ∧ _
          rw [a1, ob_def]
          rcases c_signE (n := n) hT a2.1 a2.2.1 (by omega) (by omega) (by omega) with ⟨w, σ2, b1, b2, b3, b4, b5⟩ | ⟨w, σ2, b1, b2, b3⟩
          · rw [b1, ob_def, cReader_takeSum_b99, nI_s, if_pos w]
            obtain ⟨σ3, d1, d2, d3⟩ := ihA (fuel' + 1) (x2 + 1) _ _ o σ2 ⟨b2, b3, Or.inr ⟨y.1, y.2, s2, s1⟩, ho, by rw [pnd, if_neg (wgt_op y).2]; omega⟩ (by omega) (by omega)
            exact ⟨σ3, d1, (a3.trans b4).trans d2, d3.tr (a4.trans b5)⟩
          · rw [b1, ob_def, cReader_takeSum_b99, if_neg w]
            obtain ⟨σ3, d1, d2, d3⟩ := c_9D (n := n) (k := fuel') (x := nI o) (y := nI x2 + ci_1) (by omega) b2
            exact ⟨σ3, d1, (a3.trans b3).trans d3, d2⟩
        · have en : ∃ σ', cReader_takeSum_b105 n (nI o) σ = some σ' ∧ frZ σ σ' ∧ COut s a (if o = 0 then .inr (nx, (setl 1 C S).1) else .inl (1, nx)) σ σ' := c_105E hT (by omega) hE (by
            by_cases w : o = 0
            · exact Or.inl w
            · exact Or.inr (fun u => z ⟨w, u⟩))
          have er : (if o = 0 then (.inr (nx, (setl 1 C S).1) : sR) else if tkd s nx = 12 then (if nx < 400 then sumA s k false (nx + 1) (setl 1 C S).1 (setl 1 C S).2.tail (o - 1) else .inl (2, nx)) else .inl (1, nx)) = if o = 0 then .inr (nx, (setl 1 C S).1) else .inl (1, nx) := by
            by_cases w : o = 0
            · rw [if_pos w, if_pos w]
            · rw [if_neg w, if_neg w, if_neg (fun u => z ⟨w, u⟩)]
          rw [if_neg y, er]
          by_cases x : tkd s nx < 6
          · rw [if_pos ((nI_ltI (by omega) (by omega)).mpr x)]
            exact en
          · rw [if_neg (fun u => x ((nI_ltI (by omega) (by omega)).mp u))]
            show ∃ σ', (ob (cReader_kind n σ) fun q8 => _) = some σ' ∧ _
            rw [c_kindE hP.1, ob_def, if_neg (fun u => by have := (nI_leI (by omega) (by omega)).mp u; omega)]
            exact en
theorem c_sumE {s : tS} {n a nx : Nat} {σ : bS} (hn : 500 ≤ n) (hT : okT s) (hP : CP s nx σ) (h3 : σ.1 23 3 = nI a) (ha : a ≤ nx) : ∃ σ', cReader_takeSum n σ = some σ' ∧ frZ σ σ' ∧ COut s a (sumA s (401 - nx) true nx [] [] 0) σ σ' := by
  have nx4 := hP.1.2.2.1
  have hE : CES s a nx [] [] 0 (uI σ 44 13 ci_0) := by
    refine ⟨⟨⟨hP.1.1.fr (frZ.u44 (by decide)), ?_, nx4, hP.1.2.2.2⟩, ?_⟩, ⟨?_, (fun i hi => by cases hi), ?_, trivial⟩, rfl, by omega, ha⟩
    · rw [uI_1, if_neg (by decide)]
      exact hP.1.2.1
    · rw [uI_1, if_neg (by decide)]
      exact hP.2
    · rw [uI_1, if_neg (by decide)]
      exact h3
    · rw [uI_1, if_pos ⟨rfl, rfl⟩]
      rfl
  obtain ⟨σ', d1, d2, d3⟩ := (c_sum_l (n := n) (a := a) (by omega) hT (401 - nx) nx (by omega)).1 n 0 [] [] 0 _ hE (by omega) (by omega)
  unfold cReader_takeSum
  exact ⟨σ', d1, (frZ.u44 (by decide)).trans d2, d3.tr (frA.of rfl)⟩
/-- an E after a FAULT -/
theorem c_sumD {s : tS} {n f p : Nat} {σ : bS} (hn : 100 ≤ n) (h : CD s f p σ) : ∃ σ', cReader_takeSum n σ = some σ' ∧ frZ σ σ' ∧ CD s f p σ' := by
  obtain ⟨ll, l1, l2⟩ := h.2.2.2.2
  have hD : CDs s f p (uI σ 44 13 ci_0) := ⟨h.mv (frZ.u44 (by decide)) (fun j hj => by rw [uI_1, if_neg (fun u => hj u.2)]) (by rw [uI_1, if_neg (by decide)]; exact l2) l1, 0, by omega, by rw [uI_1, if_pos ⟨rfl, rfl⟩]; rfl⟩
  obtain ⟨n', rfl⟩ : ∃ n', n = n' + 1 := ⟨n - 1, by omega⟩
  obtain ⟨σ', d1, d2, d3⟩ := c_9D (n := n' + 1) (k := n') (x := ci_0) (y := ci_0) (by omega) hD
  unfold cReader_takeSum
  exact ⟨σ', d1, (frZ.u44 (by decide)).trans d3, d2⟩
