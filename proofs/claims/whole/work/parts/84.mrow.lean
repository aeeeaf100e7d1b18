/-! one of a row goes (the reference): no TOLL; the wish is given -/
def sStep (T : aT) (L : aL) (D : aG) (m b : Nat) (ws : Int32) (h : Nat) : aG := fun t i =>
  if t = 0 then (if i = 0 then nI (h + 1) else D 0 i)
  else if t = 3 then (if i = b then (if ws < 0 then D 3 b else ws) else D 3 i)
  else if t = 5 then sCross T L D m b h 5 i
  else if t = 6 then sCross T L D m b h 6 i
  else if t = 8 then (if i = m then D 8 m + 1 else D 8 i)
  else if t = 9 then (if i = m then 0 else D 9 i)
  else D t i
theorem sStep_inv {T : aT} {L : aL} {i i1 m b h : Nat} {D : aG} {ws : Int32} (hI : InvT T L) (hi : InvG T i D) (hm : m < tM T) (hb : b < tG T) (hws : orN (tB T) ws) (hh : h + 1 ≤ 34 * i1) : InvG T i1 (sStep T L D m b ws h) := by
  have hc := sCross_inv (h := h) hI hi hm hb
  refine ⟨⟨h + 1, hh, rfl⟩, fun b' hb' => ?_, hc.2.2⟩
  show orN _ (if b' = b then (if ws < 0 then D 3 b else ws) else D 3 b')
  split
  · split
    · exact hi.2.1 b hb
    · exact hws
  · exact hi.2.1 b' hb'
theorem m_step {T : aT} {L : aL} {i n w m b h p : Nat} {D : aG} {ws : Int32} {σ : bS} {r6 : Int32 → Int32 → bS → Option bS} (hn : 1000 ≤ n) (hI : InvT T L) (hT : MTx T L σ) (hG : MG T w D σ) (hi : InvG T i D) (hw : σ.1 0 40 = nI w) (hw2 : w ≤ 2000) (hm : m < tM T) (hb : b < tG T) (hh2 : D 0 0 = nI h) (on : D 6 m = -1) (hws : orN (tB T) ws) : ∃ σ', m_rowGoes_b83 n r6 (nI b) (nI p) (nI m) (md ws) σ = r6 (nI b) (nI (p + 1)) σ' ∧ MG T w (sStep T L D m b ws h) σ' ∧ frR w σ σ' := by
  have hM := hI.2.2.2.1
  have hGG := hI.2.2.1
  have hB := hI.1
  obtain ⟨σ3, c1, c2, c3, c4⟩ := m_comes_eq (n := n) (h := h) (L := L) (σ := σ) (by omega) hI hi hT.1.2.2.2 hw hw2 hm hb on (hG.2.1 b hb).1 (fun j hj => ⟨(hG.2.2 j hj).1, (hG.2.2 j hj).2.1⟩)
  have w3 : sI σ3 0 40 = nI w := (c4.1 40 (fun z => z)).trans hw
  have f3 : frR w σ σ3 := ⟨fun k _ => c4.1 k (fun z => z), fun a ha => c4.2.1 a (fun z => ha (Or.inl z)), fun q hq => c3 q (by omega), c4.2.2⟩
  obtain ⟨σ4, e4⟩ : ∃ y, y = (if ws < 0 then σ3 else uA σ3 29 (nI (w + 1 + b)) ws) := ⟨_, rfl⟩
  have p4 : ∀ q, σ4.2.1 29 q = if q = w + 1 + b ∧ ¬ ws < 0 then ws else σ3.2.1 29 q := fun q => by
    rw [e4]
    by_cases z : ws < 0
    · simp [z]
    · rw [if_neg z, uA_2, nI_clamp (by omega)]
      simp [z]
  have w4 : sI σ4 0 40 = nI w := by
    rw [e4]
    split
    · exact w3
    · exact w3
  have f4 : frR w σ σ4 := by
    rw [e4]
    split
    · exact f3
    · exact frRa f3 (by omega) (by omega) (by omega)
  have q1 : sA σ4 29 (nI (w + 26 + m)) = D 8 m := by
    rw [sA_n _ _ (by omega), p4, if_neg (by omega), c3 _ (by omega)]
    exact (hG.2.2 m hm).2.2.2.1
  have q2 : sA (uA (uA σ4 29 (nI (w + 26 + m)) (D 8 m + 1)) 29 (nI (w + 33 + m)) 0) 29 (nI w) = nI h := by
    rw [sA_n _ _ (by omega), uA_2, uA_2, nI_clamp (by omega), nI_clamp (by omega), if_neg (show ¬ (29 = 29 ∧ w = w + 33 + m) by omega), if_neg (show ¬ (29 = 29 ∧ w = w + 26 + m) by omega), p4, if_neg (by omega), c3 _ (by omega)]
    exact hG.1.1.trans hh2
  have rd : ∀ q, (uA (uA (uA σ4 29 (nI (w + 26 + m)) (D 8 m + 1)) 29 (nI (w + 33 + m)) 0) 29 (nI w) (nI (h + 1))).2.1 29 q = if q = w then nI (h + 1) else if q = w + 33 + m then 0 else if q = w + 26 + m then D 8 m + 1 else σ4.2.1 29 q := fun q => by
    rw [uA_2, uA_2, uA_2, nI_clamp (by omega), nI_clamp (by omega), nI_clamp (by omega)]
    simp
  have r2 : ∀ q, (q < w + 5 ∨ w + 19 ≤ q) → ¬ q = w → ¬ q = w + 33 + m → ¬ q = w + 26 + m → ¬ q = w + 1 + b → (uA (uA (uA σ4 29 (nI (w + 26 + m)) (D 8 m + 1)) 29 (nI (w + 33 + m)) 0) 29 (nI w) (nI (h + 1))).2.1 29 q = σ.2.1 29 q := fun q h1 h2 h3 h4 h5 => by
    rw [rd, if_neg h2, if_neg h3, if_neg h4, p4, if_neg (fun z => h5 z.1), c3 q h1]
  refine ⟨uA (uA (uA σ4 29 (nI (w + 26 + m)) (D 8 m + 1)) 29 (nI (w + 33 + m)) 0) 29 (nI w) (nI (h + 1)), ?_, ⟨⟨?_, ?_, ?_, ?_⟩, fun j hj => ⟨?_, ?_⟩, fun j hj => ⟨?_, ?_, ?_, ?_, ?_⟩⟩, frRa (frRa (frRa f4 (by omega) (by omega) (by omega)) (by omega) (by omega) (by omega)) (by omega) (by omega) (by omega)⟩
  · unfold m_rowGoes_b83
    rw [c1, ob_def]
    have key : (if md ws < 0 then m_rowGoes_b113 n r6 (nI b) (nI p) (nI m) σ3 else bin_ ((sI σ3 0 40 + ci_1) + nI b) 2208 (m_rowGoes_b113 n r6 (nI b) (nI p) (nI m) (uA σ3 29 ((sI σ3 0 40 + ci_1) + nI b) (md ws)))) = m_rowGoes_b113 n r6 (nI b) (nI p) (nI m) σ4 := by
      rw [e4]
      by_cases z : ws < 0
      · rw [if_pos z, if_pos (md_lt.mpr z)]
      · rw [if_neg z, if_neg (fun y => z (md_lt.mp y)), w3, ci1_nI, nI_add, nI_add, bin_nI (by omega) (by decide)]
        rcases hws with u | ⟨q, hq, u⟩
        · exact absurd (by rw [u]; decide) z
        · rw [u, md_n (by omega)]
    rw [key]
    unfold m_rowGoes_b113
    simp (disch := omega) only [w4, sI_uA, cb_26_n, cb_33_n, nI_add, bin_nI, q1, ci1_1, ci0_0, q2, show (nI h + 1 : Int32) = nI (h + 1) from nI_add h 1, show (nI p + 1 : Int32) = nI (p + 1) from nI_add p 1]
  · rw [rd, if_pos rfl]; rfl
  · rw [r2 _ (by omega) (by omega) (by omega) (by omega) (by omega)]; exact hG.1.2.1
  · rw [r2 _ (by omega) (by omega) (by omega) (by omega) (by omega)]; exact hG.1.2.2.1
  · rw [r2 _ (by omega) (by omega) (by omega) (by omega) (by omega)]; exact hG.1.2.2.2
  · show _ = md (if j = b then (if ws < 0 then D 3 b else ws) else D 3 j)
    rw [rd, if_neg (by omega), if_neg (by omega), if_neg (by omega), p4]
    by_cases z : j = b
    · subst z
      by_cases y : ws < 0
      · rw [if_neg (fun q => q.2 y), if_pos rfl, if_pos y, c3 _ (by omega)]
        exact (hG.2.1 j hj).1
      · rw [if_pos ⟨rfl, y⟩, if_pos rfl, if_neg y]
        rcases hws with u | ⟨q, hq, u⟩
        · exact absurd (by rw [u]; decide) y
        · rw [u, md_n (by omega)]
    · rw [if_neg (by omega), if_neg z, c3 _ (by omega)]
      exact (hG.2.1 j hj).1
  · rw [r2 _ (by omega) (by omega) (by omega) (by omega) (by omega)]; exact (hG.2.1 j hj).2
  · rw [rd, if_neg (by omega), if_neg (by omega), if_neg (by omega), p4, if_neg (by omega)]
    exact (c2 j hj).1
  · rw [rd, if_neg (by omega), if_neg (by omega), if_neg (by omega), p4, if_neg (by omega)]
    exact (c2 j hj).2
  · rw [r2 _ (by omega) (by omega) (by omega) (by omega) (by omega)]; exact (hG.2.2 j hj).2.2.1
  · show _ = (if j = m then D 8 m + 1 else D 8 j)
    by_cases z : j = m
    · subst z
      rw [rd, if_neg (by omega), if_neg (by omega), if_pos rfl, if_pos rfl]
    · rw [if_neg z, r2 _ (by omega) (by omega) (by omega) (by omega) (by omega)]
      exact (hG.2.2 j hj).2.2.2.1
  · show _ = (if j = m then 0 else D 9 j)
    by_cases z : j = m
    · subst z
      rw [rd, if_neg (by omega), if_pos rfl, if_pos rfl]
    · rw [if_neg z, r2 _ (by omega) (by omega) (by omega) (by omega) (by omega)]
      exact (hG.2.2 j hj).2.2.2.2
