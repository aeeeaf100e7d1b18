/-! READ -/
theorem c_read1 {n : Nat} {r pl : Int32} {σC σ4 : bS} (hr : ¬ r = 0) (e : cReader_readInto_14_43 n (sI σC 0 1) σC = some (r, σ4)) (hp : σ4.1 44 0 = pl) : cTop_read n σC = some (r, uI (uI σ4 0 1 ci_0) 0 2 pl) := by
  have es : sI (uI σ4 0 1 ci_0) 44 0 = pl := by
    show (uI σ4 0 1 ci_0).1 44 0 = pl
    rw [uI_1, if_neg (by decide)]
    exact hp
  unfold cTop_read
  rw [e, ob_def]
  show (if r = 0 then _ else cTop_read_b41 n r (sI (uI σ4 0 1 ci_0) 44 0) (uI σ4 0 1 ci_0)) = _
  rw [if_neg hr, es, cTop_read_b41, if_neg hr]
theorem m_b49 {n : Nat} {f : Int32} {σ : bS} (hf : ¬ f = 0) (h8 : σ.1 0 8 = f) : m_read_b49 n σ = some (f, uI σ 0 0 ci_0) := by
  have e : sI (uI σ 0 0 ci_0) 0 8 = f := by
    show (uI σ 0 0 ci_0).1 0 8 = f
    rw [uI_1, if_neg (by decide)]
    exact h8
  unfold m_read_b49
  rw [e, if_neg hf, m_read_b69, e]
theorem m_read1 {n : Nat} {f : Int32} {σM σ2 σ5 : bS} (hf : ¬ f = 0) (e2 : m_scanAll n σM = some σ2) (em : m_parses n (uI (uI (uI σ2 0 8 ci_0) 0 9 ci_m1) 0 10 ci_0) = some (0, σ5)) (h8 : σ5.1 0 8 = f) : m_read n σM = some (f, uI σ5 0 0 ci_0) := by
  unfold m_read
  rw [e2, ob_def, em, ob_def]
  show (if (0 : Int32) = 0 then m_read_b49 n σ5 else _) = _
  rw [if_pos rfl]
  exact m_b49 hf h8
theorem m_read2 {n : Nat} {f p : Int32} {σM σ2 σ5 : bS} (hf : ¬ f = 0) (e2 : m_scanAll n σM = some σ2) (em : m_parses n (uI (uI (uI σ2 0 8 ci_0) 0 9 ci_m1) 0 10 ci_0) = some (1, σ5)) (h10 : σ5.1 0 10 = f) (h11 : σ5.1 0 11 = p) : m_read n σM = some (f, uI (uI (uI σ5 0 8 f) 0 9 p) 0 0 ci_0) := by
  have e10 : sI σ5 0 10 = f := h10
  have e11 : sI (uI σ5 0 8 f) 0 11 = p := by
    show (uI σ5 0 8 f).1 0 11 = p
    rw [uI_1, if_neg (by decide)]
    exact h11
  unfold m_read
  rw [e2, ob_def, em, ob_def]
  show (if (1 : Int32) = 0 then _ else if sI σ5 0 10 = 0 then _ else m_read_b49 n (uI (uI σ5 0 8 (sI σ5 0 10)) 0 9 (sI (uI σ5 0 8 (sI σ5 0 10)) 0 11))) = _
  rw [if_neg one_ne, e10, if_neg hf, e11]
  exact m_b49 hf (by rw [uI_1, if_neg (by decide), uI_1, if_pos ⟨rfl, rfl⟩])
theorem m_read0 {n : Nat} {σM σ2 σ5 σ6 σ7 : bS} (e2 : m_scanAll n σM = some σ2) (em : m_parses n (uI (uI (uI σ2 0 8 ci_0) 0 9 ci_m1) 0 10 ci_0) = some (1, σ5)) (h10 : σ5.1 0 10 = 0) (h8 : σ5.1 0 8 = 0) (e6 : m_lays n (uI σ5 0 0 ci_0) = some σ6) (e7 : m_begins n σ6 = some σ7) (e8 : σ7.1 0 8 = 0) : m_read n σM = some (0, σ7) := by
  have e10 : sI σ5 0 10 = 0 := h10
  have ez : sI (uI σ5 0 0 ci_0) 0 8 = 0 := by
    show (uI σ5 0 0 ci_0).1 0 8 = 0
    rw [uI_1, if_neg (by decide)]
    exact h8
  unfold m_read
  rw [e2, ob_def, em, ob_def]
  show (if (1 : Int32) = 0 then _ else if sI σ5 0 10 = 0 then m_read_b49 n σ5 else _) = _
  rw [if_neg one_ne, if_pos e10, m_read_b49, if_pos ez, e6, ob_def, e7, ob_def, m_read_b69, show sI σ7 0 8 = 0 from e8]
theorem c_read0 {n : Nat} (hn : 100 ≤ n) {σC σ4 : bS} (e : cReader_readInto_14_43 n (sI σC 0 1) σC = some (0, σ4)) : ∃ σ', cTop_read n σC = some (0, σ') ∧ frC (fun a => a = 0 ∨ (27 ≤ a ∧ a ≤ 34) ∨ a = 54 ∨ a = 77 ∨ a = 81) σ4 σ' ∧ (σ'.1 0 1 = 0 ∧ σ'.1 0 2 = -1) ∧ (σ'.1 27 2 = 0 ∧ σ'.1 27 3 = 0 ∧ σ'.1 27 4 = 0 ∧ σ'.1 27 1 = σ4.1 14 18) ∧ (∀ b, b < 4 → σ'.2.1 28 b = σ4.2.1 17 b ∧ σ'.2.1 29 b = 0) ∧ (∀ m, m < 7 → σ'.2.1 30 m = σ4.2.1 18 m ∧ σ'.2.1 31 m = -1 ∧ σ'.2.1 32 m = σ4.2.1 20 m ∧ σ'.2.1 33 m = 0 ∧ σ'.2.1 34 m = 0) ∧ (σ'.1 54 1 = σ4.1 54 1 ∧ σ'.1 54 2 = 0 ∧ σ'.1 54 3 = 0) ∧ σ'.1 77 4 = 0 ∧ ∀ m, m < 7 → σ'.2.1 81 m = -1 := by
  obtain ⟨q1, p1, p2, ⟨p3, p4, p5, p6⟩, p7, p8⟩ := c_begin14 hn (uI (uI σ4 0 1 ci_0) 0 2 ci_m1)
  obtain ⟨q3, s1, s2, s3, s4⟩ := c_sclear hn (uI (uI q1 54 2 ci_0) 54 3 ci_0)
  have r1 : ∀ a, ¬ (a = 54 ∨ a = 77 ∨ a = 81) → q3.1 a = q1.1 a := fun a ha => by
    rw [(s2 a (by omega)).1]
    funext k
    rw [uI_1, if_neg (by omega), uI_1, if_neg (by omega)]
  have r2 : ∀ a, ¬ (a = 77 ∨ a = 81) → q3.2.1 a = q1.2.1 a := fun a ha => (s2 a (by omega)).2.1
  have r54 : ∀ k, q3.1 54 k = (uI (uI q1 54 2 ci_0) 54 3 ci_0).1 54 k := fun k => by rw [(s2 54 (by omega)).1]
  have f0 : frC (fun a => a = 0 ∨ (27 ≤ a ∧ a ≤ 34) ∨ a = 54 ∨ a = 77 ∨ a = 81) σ4 (uI (uI σ4 0 1 ci_0) 0 2 ci_m1) := (frC.uI (Or.inl rfl)).trans (frC.uI (Or.inl rfl))
  have f1 := f0.trans (p2.mono (fun a ha => Or.inr (Or.inl ha)))
  have f2 := (f1.trans (frC.uI (o := 54) (k := 2) (v := ci_0) (by omega))).trans (frC.uI (o := 54) (k := 3) (v := ci_0) (by omega))
  refine ⟨q3, ?_, f2.trans (s2.mono (fun a ha => by omega)), ⟨?_, ?_⟩, ⟨?_, ?_, ?_, ?_⟩, fun b hb => ?_, fun m hm => ?_, ⟨?_, ?_, ?_⟩, s3, s4⟩
  · unfold cTop_read
    rw [e, ob_def]
    show (if (0 : Int32) = 0 then cTop_read_b41 n 0 ci_m1 (uI σ4 0 1 ci_0) else _) = _
    rw [if_pos rfl, cTop_read_b41, if_pos rfl, p1, ob_def]
    show ob (cSeen_clear n (uI (uI q1 54 2 ci_0) 54 3 ci_0)) _ = _
    rw [s1, ob_def]
  · rw [r1 0 (by omega), (p2 0 (by omega)).1]; rfl
  · rw [r1 0 (by omega), (p2 0 (by omega)).1]; rfl
  · rw [r1 27 (by omega)]; exact p3
  · rw [r1 27 (by omega)]; exact p4
  · rw [r1 27 (by omega)]; exact p5
  · rw [r1 27 (by omega), p6, uI_1, if_neg (by omega), uI_1, if_neg (by omega)]
  · rw [r2 28 (by omega), r2 29 (by omega)]; exact p7 b hb
  · rw [r2 30 (by omega), r2 31 (by omega), r2 32 (by omega), r2 33 (by omega), r2 34 (by omega)]; exact p8 m hm
  · rw [r54, uI_1, if_neg (by omega), uI_1, if_neg (by omega), (p2 54 (by omega)).1, uI_1, if_neg (by omega), uI_1, if_neg (by omega)]
  · rw [r54]; rfl
  · rw [r54]; rfl
theorem spi_lo : ∀ b, b < 14 → 1 ≤ b → spi b = b + 13 := by decide
theorem sim_read {i : Nat} {σC σM : bS} (h : Rel i σC σM) : Sim_read (Rel (i + 6)) σC σM := by
  have h0 := h
  obtain ⟨T, L, G, h1, h2, h3, h4, h5, h6, h7, ⟨t, by_, a1, a2, a3, a4, a5⟩, h9, h10, ⟨⟨u, hh, u1, u2, u3, u4, u5, u6, u7⟩, hd, v1, v2⟩, h12⟩ := h
  obtain ⟨n, hn⟩ : ∃ n : Nat, 3000 ≤ n := ⟨3000, Nat.le_refl _⟩
  obtain ⟨s, σ1, σ2, σ3, hT, e1, e2, e3, hP, fC, fM, w8, w9⟩ := pr_start (n := n) (σC := σC) (σM := σM) (by omega) a1 a2 h10 a4 a5
  obtain ⟨r, v, σ4, σ5, x1, x2, x3, x4, x5⟩ := st_loop (n := n) (by omega) hT 401 0 0 n n none [] 0 0 0 0 0 0 σ1 σ3 (by omega) (by omega) (by omega) (by omega) hP
  have fC2 : frCd σC σ4 := fC.trans (frC.mono x3 (fun a ha => by omega))
  have fM2 : frRd σM σ5 := fM.trans (frRd.ofJ x4)
  have hW := w_parses_l (w := (0, -1)) (n := n) n σ3 ⟨w8, w9⟩ v σ5 x2
  have ec : cReader_readInto_14_43 n (sI σC 0 1) σC = some (r, σ4) := by
    unfold cReader_readInto_14_43
    rw [show sI σC 0 1 = nI t from a3, e1, ob_def]
    exact x1
  have em : m_parses n (uI (uI (uI σ2 0 8 ci_0) 0 9 ci_m1) 0 10 ci_0) = some (v, σ5) := by
    unfold m_parses
    rw [e3, ob_def]
    exact x2
  have fne : ∀ f, 1 ≤ f → f ≤ 5 → ¬ nI f = 0 := fun f y1 y2 z => by
    have := nI_inj (by omega) (by decide) (z.trans (show (0 : Int32) = nI 0 from rfl))
    omega
  rcases x5 with ⟨y0, f, p, f12, r0, p0', mf⟩ | ⟨y1, f, j, f3, f5, r0, q0, m10, m11⟩ | ⟨y1, r0, m10, N, B, P, G', M, a, m, hQ, hPC, ha, hm, h23⟩
  · rw [r0] at ec
    rw [y0] at em
    have fn := fne f (by omega) (by omega)
    refine ⟨n, n, nI f, _, _, c_read1 fn ec p0', m_read1 fn e2 em mf.1, ?_⟩
    rw [if_neg fn]
    exact rel_kept h0 fC2 fM2 mf.2
  · rw [r0] at ec
    rw [y1] at em
    have fn := fne f (by omega) (by omega)
    refine ⟨n, n, nI f, _, _, c_read1 fn ec q0, m_read2 fn e2 em m10 m11, ?_⟩
    rw [if_neg fn]
    refine rel_kept h0 fC2 (frRd.trans fM2 ⟨fun k hk => ?_, fun _ _ => rfl, fun _ _ _ => rfl⟩) ?_
    · rw [uI_1, if_neg (by omega), uI_1, if_neg (by omega)]
    · rw [uI_1, if_pos ⟨rfl, rfl⟩]
  · rw [r0] at ec
    rw [y1] at em
    obtain ⟨k8, k9⟩ : K8 (0, -1) σ5 := hW.resolve_right (fun z => one_ne (y1.symm.trans z))
    have hQ' := id hQ
    obtain ⟨-, ⟨b6, p10, g4, m7⟩, -, ⟨d0, d1, d2, d3⟩⟩ := hQ'
    obtain ⟨σ6, σ7, l1, l2, l3, l4, l5, l6, l7, l8, l9⟩ := m_new (n := n) (σ := uI σ5 0 0 ci_0) (by omega) g4 m7 d2 d3
    obtain ⟨σ8, j1, j2, ⟨j3, j4⟩, j5, j6, j7, ⟨j8, j9, j10⟩, j11, j12⟩ := c_read0 (n := n) (by omega) ec
    have r7 : ∀ k, ¬ (k = 40 ∨ k = 41 ∨ k = 62) → ¬ k = 0 → σ7.1 0 k = σ5.1 0 k := fun k z1 z2 => by
      rw [l4, if_neg z1, uI_1, if_neg (fun w => z2 w.2)]
    refine ⟨n, n, 0, _, _, j1, m_read0 e2 em m10 k8 l1 l2 ((r7 8 (by omega) (by omega)).trans k8), ?_⟩
    rw [if_pos rfl]
    refine rel_new hQ hPC ha hm h23 (fun j => ?_) ?_ (fun b hb1 hb2 => ?_) l3 j5 (fun b hb => j6 b (by omega)) (fun m hm => j7 m (by omega)) l5 l6 l7 ⟨j3, ?_⟩ ?_ ?_ ⟨u, u1, ?_, ?_⟩ ⟨j9, ?_, j10⟩ l9 ⟨j11, ?_⟩ j12 l8
    · show σ8.1 14 j = _
      rw [(j2 14 (by omega)).1]
    · show σ8.1 23 3 = _
      rw [(j2 23 (by omega)).1]
    · show σ8.2.1 (spi b) = _
      rw [spi_lo b (by omega) (by omega), (j2 (b + 13) (by omega)).2.1]
    · rw [l4, if_neg (by omega)]; rfl
    · show σ8.1 0 2 = _
      rw [r7 9 (by omega) (by omega), j4]
      exact k9.symm
    · show σ8.2.2 50 = _
      rw [(j2 50 (by omega)).2.2, (fC2 50 (by omega)).2.2]
      exact h10
    · show σ8.1 54 1 = _
      rw [j8, (fC2 54 (by omega)).1]
      exact u3
    · rw [r7 42 (by omega) (by omega), fM2.1 42 (by omega)]
      exact u4
    · rw [l4, if_pos (by omega)]
    · rw [l4, if_pos (by omega)]
