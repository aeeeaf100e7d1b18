/-- one crosses: all as it is then -/
def sCross (T : aT) (L : aL) (G : aG) (m b h : Nat) : aG := fun t i =>
  if t = 3 then (if i = b then (if sWish T L G m (G 3 b) h < 0 then G 3 b else sWish T L G m (G 3 b) h) else G 3 i)
  else if t = 4 then (if i = b then G 4 b + 1 else G 4 i)
  else if t = 5 then (if G 3 b < 0 then (if i = m then -1 else G 5 i) else if i = m ∨ (i < tM T ∧ G 6 i = nI b) then G 3 b else G 5 i)
  else if t = 6 then (if G 3 b < 0 then (if i = m then nI b else G 6 i) else if i = m ∨ (i < tM T ∧ G 6 i = nI b) then -1 else G 6 i)
  else if t = 7 then (if i = m then G 7 m - sToll T L G m b h else G 7 i)
  else if t = 8 then (if i = m then G 8 m + 1 else G 8 i)
  else if t = 9 then (if i = m then 0 else G 9 i)
  else G t i
theorem sCross_inv {T : aT} {L : aL} {i m b h : Nat} {G : aG} (hI : InvT T L) (hG : InvG T i G) (hm : m < tM T) (hb : b < tG T) : InvG T i (sCross T L G m b h) := by
  have hs := sWish_in (L := L) (G := G) (la := G 3 b) (h := h) hI hm
  refine ⟨hG.1, fun b' hb' => ?_, fun m' hm' => ?_⟩
  · show orN _ (if b' = b then _ else _)
    by_cases e : b' = b
    · rw [if_pos e]
      split
      · exact hG.2.1 b hb
      · exact hs
    · rw [if_neg e]
      exact hG.2.1 b' hb'
  · show ((if G 3 b < 0 then (if m' = m then nI b else G 6 m') else if m' = m ∨ (m' < tM T ∧ G 6 m' = nI b) then -1 else G 6 m') = -1 ∧ _) ∨ _
    by_cases hl : G 3 b < 0
    · by_cases e : m' = m
      · refine Or.inr ⟨?_, b, hb, ?_⟩
        · show (if G 3 b < 0 then (if m' = m then -1 else G 5 m') else _) = -1
          rw [if_pos hl, if_pos e]
        · show (if G 3 b < 0 then (if m' = m then nI b else G 6 m') else _) = _
          rw [if_pos hl, if_pos e]
      · rcases hG.2.2 m' hm' with ⟨a1, j, hj, a2⟩ | ⟨a1, j, hj, a2⟩
        · refine Or.inl ⟨by rw [if_pos hl, if_neg e]; exact a1, j, hj, ?_⟩
          show (if G 3 b < 0 then (if m' = m then -1 else G 5 m') else _) = _
          rw [if_pos hl, if_neg e]
          exact a2
        · refine Or.inr ⟨?_, j, hj, ?_⟩
          · show (if G 3 b < 0 then (if m' = m then -1 else G 5 m') else _) = -1
            rw [if_pos hl, if_neg e]
            exact a1
          · show (if G 3 b < 0 then (if m' = m then nI b else G 6 m') else _) = _
            rw [if_pos hl, if_neg e]
            exact a2
    · by_cases e : m' = m ∨ (m' < tM T ∧ G 6 m' = nI b)
      · rcases hG.2.1 b hb with z | ⟨q, hq, z⟩
        · exact absurd (by rw [z]; decide) hl
        · refine Or.inl ⟨by rw [if_neg hl, if_pos e], q, hq, ?_⟩
          show (if G 3 b < 0 then _ else if m' = m ∨ (m' < tM T ∧ G 6 m' = nI b) then G 3 b else G 5 m') = _
          rw [if_neg hl, if_pos e, z]
      · rcases hG.2.2 m' hm' with ⟨a1, j, hj, a2⟩ | ⟨a1, j, hj, a2⟩
        · refine Or.inl ⟨by rw [if_neg hl, if_neg e]; exact a1, j, hj, ?_⟩
          show (if G 3 b < 0 then _ else if m' = m ∨ (m' < tM T ∧ G 6 m' = nI b) then G 3 b else G 5 m') = _
          rw [if_neg hl, if_neg e]
          exact a2
        · refine Or.inr ⟨?_, j, hj, ?_⟩
          · show (if G 3 b < 0 then _ else if m' = m ∨ (m' < tM T ∧ G 6 m' = nI b) then G 3 b else G 5 m') = -1
            rw [if_neg hl, if_neg e]
            exact a1
          · show (if G 3 b < 0 then _ else if m' = m ∨ (m' < tM T ∧ G 6 m' = nI b) then -1 else G 6 m') = _
            rw [if_neg hl, if_neg e]
            exact a2
def scG (g : Nat) : Nat → Prop := fun a => a = 12 ∨ a = 13 ∨ (g ≤ a ∧ a ≤ g + 7)
theorem CT.go {T : aT} {L : aL} {g : Nat} {σ σ' : bS} (hg : 14 ≤ g) (h : CT T L σ) (f : frC (scG g) σ σ') : CT T L σ' := h.of (fun a h1 h2 => ⟨(f a (by unfold scG; omega)).1, (f a (by unfold scG; omega)).2.1⟩)
theorem c_land_l {n c : Nat} {x to : Int32} {σ0 : bS} (h7 : c ≤ 7) (hx : ¬ x = -1) : ∀ (k j : Nat) (σ : bS), σ.1 1 3 = nI c → j ≤ c → c < j + k → (∀ i, σ.2.1 31 i = if i < j ∧ σ0.2.1 31 i = x then -1 else σ0.2.1 31 i) → (∀ i, σ.2.1 30 i = if i < j ∧ σ0.2.1 31 i = x then to else σ0.2.1 30 i) → frC (fun a => a = 30 ∨ a = 31) σ0 σ → ∃ σ', cGoing_landAll_b2 n k x to (nI j) σ = some σ' ∧ (∀ i, σ'.2.1 31 i = if i < c ∧ σ0.2.1 31 i = x then -1 else σ0.2.1 31 i) ∧ (∀ i, σ'.2.1 30 i = if i < c ∧ σ0.2.1 31 i = x then to else σ0.2.1 30 i) ∧ frC (fun a => a = 30 ∨ a = 31) σ0 σ'
  | 0, j, σ, hc, h1, h2, a, b, f => by omega
  | k + 1, j, σ, hc, h1, h2, a, b, f => by
    rw [cGoing_landAll_b2, sI_d, hc]
    by_cases hj : j < c
    · have e : sA σ 31 (nI j) = σ0.2.1 31 j := by rw [sA_n _ _ (by omega), a j, if_neg (fun z => Nat.lt_irrefl _ z.1)]
      rw [if_neg (nI_ge hj (by omega)), bin_nI (by omega) (by decide), e]
      by_cases z : σ0.2.1 31 j = x
      · rw [if_pos z, bin_nI (by omega) (by decide), bin_nI (by omega) (by decide), cGoing_landAll_b37, ci1_nI, nI_add]
        refine c_land_l h7 hx k (j + 1) _ (by exact hc) hj (by omega) (fun i => ?_) (fun i => ?_) (frCaA (frCaA f (Or.inr rfl)) (Or.inl rfl))
        · rw [uA_2, uA_2, nI_clamp (by omega), a i, cim1]
          by_cases q : i = j
          · subst q; simp [z]
          · simp only [q, and_false, if_false, show ¬ (31 : Nat) = 30 by decide, false_and]
            by_cases y : i < j
            · simp [y, show i < j + 1 by omega]
            · simp [y, show ¬ i < j + 1 by omega]
        · rw [uA_2, uA_2, nI_clamp (by omega), b i]
          by_cases q : i = j
          · subst q; simp [z]
          · simp only [q, and_false, if_false]
            by_cases y : i < j
            · simp [y, show i < j + 1 by omega]
            · simp [y, show ¬ i < j + 1 by omega]
      · rw [if_neg z, cGoing_landAll_b37, ci1_nI, nI_add]
        refine c_land_l h7 hx k (j + 1) _ hc hj (by omega) (fun i => ?_) (fun i => ?_) f
        · rw [a i]
          by_cases q : i = j
          · subst q; simp [z]
          · by_cases y : i < j
            · simp [y, show i < j + 1 by omega]
            · simp [y, show ¬ i < j + 1 by omega]
        · rw [b i]
          by_cases q : i = j
          · subst q; simp [z]
          · by_cases y : i < j
            · simp [y, show i < j + 1 by omega]
            · simp [y, show ¬ i < j + 1 by omega]
    · have e : j = c := by omega
      subst e
      rw [if_pos (Int32.le_refl _)]
      exact ⟨σ, rfl, a, b, f⟩
theorem c_cross {T : aT} {L : aL} {i n m b h : Nat} {G : aG} {σ : bS} (hn : 500 ≤ n) (hI : InvT T L) (hT : CT T L σ) (hG : CG 27 G σ) (hi : InvG T i G) (hm : m < tM T) (hb : b < tG T) (hh : h < 2 ^ 31) (hh2 : G 0 0 = nI h) : ∃ σ', cGoing_crossOver n (nI m) (nI b) σ = some (G 3 b, σ') ∧ CG 27 (sCross T L G m b h) σ' ∧ frC (scG 27) σ σ' := by
  have hM := hI.2.2.2.1
  have hGG := hI.2.2.1
  obtain ⟨σ1, a1, a2⟩ := c_wishNow hn hI hT hG hm hb hh hh2
  have hT1 := hT.scr a2
  have hG1 := hG.scr (g := 27) (by omega) a2
  obtain ⟨σ2, b1, b2⟩ := c_tollNow hn hI hT1 hG1 hm hb hh hh2
  have hT2 := hT1.scr b2
  have hG2 := hG1.scr (g := 27) (by omega) b2
  have e1 : sA σ1 28 (nI b) = G 3 b := (sA_n _ _ (by omega)).trans (hG1.2.1 b (by omega)).1
  have e2 : sA σ1 32 (nI m) = G 7 m := (sA_n _ _ (by omega)).trans (hG1.2.2 m (by omega)).2.2.1
  have f2 : frC (scG 27) σ σ2 := (a2.trans b2).mono (fun a h => by unfold scG; omega)
  -- the state ahead of landing
  obtain ⟨σa, ea⟩ : ∃ y, y = uA (uA (uA σ2 32 (nI m) (G 7 m - sToll T L G m b h)) 30 (nI m) ci_m1) 31 (nI m) (nI b) := ⟨_, rfl⟩
  have fa : frC (scG 27) σ σa := by
    rw [ea]
    exact frCaA (frCaA (frCaA f2 (by unfold scG; omega)) (by unfold scG; omega)) (by unfold scG; omega)
  have pa : ∀ j, j < 7 → σa.2.1 32 j = (if j = m then G 7 m - sToll T L G m b h else G 7 j) ∧ σa.2.1 30 j = (if j = m then -1 else G 5 j) ∧ σa.2.1 31 j = (if j = m then nI b else G 6 j) ∧ σa.2.1 33 j = G 8 j ∧ σa.2.1 34 j = G 9 j := fun j hj => by
    have q := hG2.2.2 j hj
    rw [ea]
    simp only [uA_2, nI_clamp (show m < 2 ^ 31 by omega), cim1, q.1, q.2.1, q.2.2.1, q.2.2.2.1, q.2.2.2.2]
    simp
  have qa : ∀ j, j < 4 → σa.2.1 28 j = G 3 j ∧ σa.2.1 29 j = G 4 j := fun j hj => by
    rw [ea]
    exact hG2.2.1 j hj
  have ia : σa.1 27 2 = G 0 0 ∧ σa.1 27 3 = G 1 0 ∧ σa.1 27 4 = G 2 0 ∧ σa.1 27 1 = G 10 0 := by rw [ea]; exact hG2.1
  -- behind it
  have land : ∃ σb, (if G 3 b < 0 then cGoing_crossOver_b56 n (nI m) (nI b) (sWish T L G m (G 3 b) h) (G 3 b) σa else ob (cGoing_landAll n (nI b) (G 3 b) σa) fun q1 => cGoing_crossOver_b56 n (nI m) (nI b) (sWish T L G m (G 3 b) h) (G 3 b) q1) = cGoing_crossOver_b56 n (nI m) (nI b) (sWish T L G m (G 3 b) h) (G 3 b) σb ∧ (∀ j, j < 7 → σb.2.1 30 j = sCross T L G m b h 5 j ∧ σb.2.1 31 j = sCross T L G m b h 6 j) ∧ frC (fun a => a = 30 ∨ a = 31) σa σb := by
    by_cases hl : G 3 b < 0
    · refine ⟨σa, by rw [if_pos hl], fun j hj => ⟨?_, ?_⟩, frC.rf⟩
      · show _ = (if G 3 b < 0 then (if j = m then -1 else G 5 j) else _)
        rw [if_pos hl]
        exact (pa j hj).2.1
      · show _ = (if G 3 b < 0 then (if j = m then nI b else G 6 j) else _)
        rw [if_pos hl]
        exact (pa j hj).2.2.1
    · obtain ⟨σb, d1, d2, d3, d4⟩ := c_land_l (n := n) (c := tM T) (x := nI b) (to := G 3 b) (σ0 := σa) hM (nI_m1 (by omega)) n 0 σa (by rw [(fa 1 (by unfold scG; omega)).1]; exact hT.1.2.2.2) (by omega) (by omega) (fun i => by simp) (fun i => by simp) frC.rf
      refine ⟨σb, ?_, fun j hj => ⟨?_, ?_⟩, d4⟩
      · rw [if_neg hl]
        unfold cGoing_landAll
        rw [show cGoing_landAll_b2 n n (nI b) (G 3 b) ci_0 σa = some σb from d1, ob_def]
      · rw [d3 j, (pa j hj).2.1, (pa j hj).2.2.1]
        show _ = (if G 3 b < 0 then _ else if j = m ∨ (j < tM T ∧ G 6 j = nI b) then G 3 b else G 5 j)
        rw [if_neg hl]
        by_cases e : j = m
        · simp [e, hm]
        · simp [e]
      · rw [d2 j, (pa j hj).2.2.1]
        show _ = (if G 3 b < 0 then _ else if j = m ∨ (j < tM T ∧ G 6 j = nI b) then -1 else G 6 j)
        rw [if_neg hl]
        by_cases e : j = m
        · simp [e, hm]
        · simp [e]
  obtain ⟨σb, l1, l2, l3⟩ := land
  have fb : frC (scG 27) σ σb := fa.trans (l3.mono (fun a h => by unfold scG; omega))
  -- wish
  have wis : ∃ σc, cGoing_crossOver_b56 n (nI m) (nI b) (sWish T L G m (G 3 b) h) (G 3 b) σb = cGoing_crossOver_b67 n (nI m) (nI b) (G 3 b) σc ∧ (∀ j, j < 4 → σc.2.1 28 j = sCross T L G m b h 3 j) ∧ frC (fun a => a = 28) σb σc := by
    unfold cGoing_crossOver_b56
    have p1 : ∀ j, j < 4 → σb.2.1 28 j = G 3 j := fun j hj => by rw [(l3 28 (by decide)).2.1]; exact (qa j hj).1
    by_cases z : sWish T L G m (G 3 b) h < 0
    · refine ⟨σb, by rw [if_pos z], fun j hj => ?_, frC.rf⟩
      show _ = (if j = b then (if sWish T L G m (G 3 b) h < 0 then G 3 b else _) else G 3 j)
      rw [if_pos z, p1 j hj]
      by_cases e : j = b
      · rw [if_pos e, e]
      · rw [if_neg e]
    · refine ⟨uA σb 28 (nI b) (sWish T L G m (G 3 b) h), by rw [if_neg z, bin_nI (by omega) (by decide)], fun j hj => ?_, frCaA frC.rf rfl⟩
      show _ = (if j = b then (if sWish T L G m (G 3 b) h < 0 then G 3 b else sWish T L G m (G 3 b) h) else G 3 j)
      rw [uA_2, nI_clamp (by omega), if_neg z]
      by_cases e : j = b
      · simp [e]
      · simp [e, p1 j hj]
  obtain ⟨σc, w1, w2, w3⟩ := wis
  have e3 : sA σc 33 (nI m) = G 8 m := by rw [sA_n _ _ (by omega), (w3 33 (by decide)).2.1, (l3 33 (by decide)).2.1]; exact (pa m (by omega)).2.2.2.1
  have e4 : sA σc 29 (nI b) = G 4 b := by rw [sA_n _ _ (by omega), (w3 29 (by decide)).2.1, (l3 29 (by decide)).2.1]; exact (qa b (by omega)).2
  refine ⟨uA (uA (uA σc 33 (nI m) (G 8 m + 1)) 34 (nI m) 0) 29 (nI b) (G 4 b + 1), ?_, ?_, frCaA (frCaA (frCaA (fb.trans (w3.mono (fun a h => by unfold scG; omega))) (by unfold scG; omega)) (by unfold scG; omega)) (by unfold scG; omega)⟩
  · unfold cGoing_crossOver cGoing_crossOver_b29
    rw [a1, ob_def, bin_nI (by omega) (by decide), bin_nI (by omega) (by decide), b1, ob_def, e1, e2, bin_nI (by omega) (by decide), bin_nI (by omega) (by decide), bin_nI (by omega) (by decide), ← ea, l1, w1]
    unfold cGoing_crossOver_b67
    simp (disch := first | omega | decide) only [bin_nI, sA_uA, e3, e4, ci1_1, ci0_0]
  · refine ⟨?_, fun j hj => ⟨?_, ?_⟩, fun j hj => ⟨?_, ?_, ?_, ?_, ?_⟩⟩
    · show σc.1 27 2 = G 0 0 ∧ σc.1 27 3 = G 1 0 ∧ σc.1 27 4 = G 2 0 ∧ σc.1 27 1 = G 10 0
      rw [(w3 27 (by decide)).1, (l3 27 (by decide)).1]
      exact ia
    · exact w2 j hj
    · rw [uA_2, nI_clamp (by omega)]
      show _ = (if j = b then G 4 b + 1 else G 4 j)
      by_cases e : j = b
      · simp [e]
      · simp only [e, and_false, if_false]
        show σc.2.1 29 j = _
        rw [(w3 29 (by decide)).2.1, (l3 29 (by decide)).2.1]
        exact (qa j hj).2
    · show σc.2.1 30 j = _
      rw [(w3 30 (by decide)).2.1]
      exact (l2 j hj).1
    · show σc.2.1 31 j = _
      rw [(w3 31 (by decide)).2.1]
      exact (l2 j hj).2
    · show σc.2.1 32 j = (if j = m then G 7 m - sToll T L G m b h else G 7 j)
      rw [(w3 32 (by decide)).2.1, (l3 32 (by decide)).2.1]
      exact (pa j hj).1
    · show (uA σc 33 (nI m) (G 8 m + 1)).2.1 33 j = (if j = m then G 8 m + 1 else G 8 j)
      rw [uA_2, nI_clamp (by omega)]
      by_cases e : j = m
      · simp [e]
      · simp only [e, and_false, if_false]
        rw [(w3 33 (by decide)).2.1, (l3 33 (by decide)).2.1]
        exact (pa j hj).2.2.2.1
    · show (uA (uA σc 33 (nI m) (G 8 m + 1)) 34 (nI m) 0).2.1 34 j = (if j = m then 0 else G 9 j)
      rw [uA_2, nI_clamp (by omega)]
      by_cases e : j = m
      · simp [e]
      · simp only [e, and_false, if_false]
        show σc.2.1 34 j = _
        rw [(w3 34 (by decide)).2.1, (l3 34 (by decide)).2.1]
        exact (pa j hj).2.2.2.2
theorem c_land_d_l {n c : Nat} {x to : Int32} {σ0 : bS} (h7 : c ≤ 7) (hx : ¬ x = -1) : ∀ (k j : Nat) (σ : bS), σ.1 1 3 = nI c → j ≤ c → c < j + k → (∀ i, σ.2.1 39 i = if i < j ∧ σ0.2.1 39 i = x then -1 else σ0.2.1 39 i) → (∀ i, σ.2.1 38 i = if i < j ∧ σ0.2.1 39 i = x then to else σ0.2.1 38 i) → frC (fun a => a = 38 ∨ a = 39) σ0 σ → ∃ σ', cGoing_landAll_d_b2 n k x to (nI j) σ = some σ' ∧ (∀ i, σ'.2.1 39 i = if i < c ∧ σ0.2.1 39 i = x then -1 else σ0.2.1 39 i) ∧ (∀ i, σ'.2.1 38 i = if i < c ∧ σ0.2.1 39 i = x then to else σ0.2.1 38 i) ∧ frC (fun a => a = 38 ∨ a = 39) σ0 σ'
  | 0, j, σ, hc, h1, h2, a, b, f => by omega
  | k + 1, j, σ, hc, h1, h2, a, b, f => by
    rw [cGoing_landAll_d_b2, sI_d, hc]
    by_cases hj : j < c
    · have e : sA σ 39 (nI j) = σ0.2.1 39 j := by rw [sA_n _ _ (by omega), a j, if_neg (fun z => Nat.lt_irrefl _ z.1)]
      rw [if_neg (nI_ge hj (by omega)), bin_nI (by omega) (by decide), e]
      by_cases z : σ0.2.1 39 j = x
      · rw [if_pos z, bin_nI (by omega) (by decide), bin_nI (by omega) (by decide), cGoing_landAll_d_b37, ci1_nI, nI_add]
        refine c_land_d_l h7 hx k (j + 1) _ (by exact hc) hj (by omega) (fun i => ?_) (fun i => ?_) (frCaA (frCaA f (Or.inr rfl)) (Or.inl rfl))
        · rw [uA_2, uA_2, nI_clamp (by omega), a i, cim1]
          by_cases q : i = j
          · subst q; simp [z]
          · simp only [q, and_false, if_false, show ¬ (39 : Nat) = 38 by decide, false_and]
            by_cases y : i < j
            · simp [y, show i < j + 1 by omega]
            · simp [y, show ¬ i < j + 1 by omega]
        · rw [uA_2, uA_2, nI_clamp (by omega), b i]
          by_cases q : i = j
          · subst q; simp [z]
          · simp only [q, and_false, if_false]
            by_cases y : i < j
            · simp [y, show i < j + 1 by omega]
            · simp [y, show ¬ i < j + 1 by omega]
      · rw [if_neg z, cGoing_landAll_d_b37, ci1_nI, nI_add]
        refine c_land_d_l h7 hx k (j + 1) _ hc hj (by omega) (fun i => ?_) (fun i => ?_) f
        · rw [a i]
          by_cases q : i = j
          · subst q; simp [z]
          · by_cases y : i < j
            · simp [y, show i < j + 1 by omega]
            · simp [y, show ¬ i < j + 1 by omega]
        · rw [b i]
          by_cases q : i = j
          · subst q; simp [z]
          · by_cases y : i < j
            · simp [y, show i < j + 1 by omega]
            · simp [y, show ¬ i < j + 1 by omega]
    · have e : j = c := by omega
      subst e
      rw [if_pos (Int32.le_refl _)]
      exact ⟨σ, rfl, a, b, f⟩
theorem c_cross_d {T : aT} {L : aL} {i n m b h : Nat} {G : aG} {σ : bS} (hn : 500 ≤ n) (hI : InvT T L) (hT : CT T L σ) (hG : CG 35 G σ) (hi : InvG T i G) (hm : m < tM T) (hb : b < tG T) (hh : h < 2 ^ 31) (hh2 : G 0 0 = nI h) : ∃ σ', cGoing_crossOver_d n (nI m) (nI b) σ = some (G 3 b, σ') ∧ CG 35 (sCross T L G m b h) σ' ∧ frC (scG 35) σ σ' := by
  have hM := hI.2.2.2.1
  have hGG := hI.2.2.1
  obtain ⟨σ1, a1, a2⟩ := c_wishNow_d hn hI hT hG hm hb hh hh2
  have hT1 := hT.scr a2
  have hG1 := hG.scr (g := 35) (by omega) a2
  obtain ⟨σ2, b1, b2⟩ := c_tollNow_d hn hI hT1 hG1 hm hb hh hh2
  have hT2 := hT1.scr b2
  have hG2 := hG1.scr (g := 35) (by omega) b2
  have e1 : sA σ1 36 (nI b) = G 3 b := (sA_n _ _ (by omega)).trans (hG1.2.1 b (by omega)).1
  have e2 : sA σ1 40 (nI m) = G 7 m := (sA_n _ _ (by omega)).trans (hG1.2.2 m (by omega)).2.2.1
  have f2 : frC (scG 35) σ σ2 := (a2.trans b2).mono (fun a h => by unfold scG; omega)
  -- the state ahead of landing
  obtain ⟨σa, ea⟩ : ∃ y, y = uA (uA (uA σ2 40 (nI m) (G 7 m - sToll T L G m b h)) 38 (nI m) ci_m1) 39 (nI m) (nI b) := ⟨_, rfl⟩
  have fa : frC (scG 35) σ σa := by
    rw [ea]
    exact frCaA (frCaA (frCaA f2 (by unfold scG; omega)) (by unfold scG; omega)) (by unfold scG; omega)
  have pa : ∀ j, j < 7 → σa.2.1 40 j = (if j = m then G 7 m - sToll T L G m b h else G 7 j) ∧ σa.2.1 38 j = (if j = m then -1 else G 5 j) ∧ σa.2.1 39 j = (if j = m then nI b else G 6 j) ∧ σa.2.1 41 j = G 8 j ∧ σa.2.1 42 j = G 9 j := fun j hj => by
    have q := hG2.2.2 j hj
    rw [ea]
    simp only [uA_2, nI_clamp (show m < 2 ^ 31 by omega), cim1, q.1, q.2.1, q.2.2.1, q.2.2.2.1, q.2.2.2.2]
    simp
  have qa : ∀ j, j < 4 → σa.2.1 36 j = G 3 j ∧ σa.2.1 37 j = G 4 j := fun j hj => by
    rw [ea]
    exact hG2.2.1 j hj
  have ia : σa.1 35 2 = G 0 0 ∧ σa.1 35 3 = G 1 0 ∧ σa.1 35 4 = G 2 0 ∧ σa.1 35 1 = G 10 0 := by rw [ea]; exact hG2.1
  -- behind it
  have land : ∃ σb, (if G 3 b < 0 then cGoing_crossOver_d_b56 n (nI m) (nI b) (sWish T L G m (G 3 b) h) (G 3 b) σa else ob (cGoing_landAll_d n (nI b) (G 3 b) σa) fun q1 => cGoing_crossOver_d_b56 n (nI m) (nI b) (sWish T L G m (G 3 b) h) (G 3 b) q1) = cGoing_crossOver_d_b56 n (nI m) (nI b) (sWish T L G m (G 3 b) h) (G 3 b) σb ∧ (∀ j, j < 7 → σb.2.1 38 j = sCross T L G m b h 5 j ∧ σb.2.1 39 j = sCross T L G m b h 6 j) ∧ frC (fun a => a = 38 ∨ a = 39) σa σb := by
    by_cases hl : G 3 b < 0
    · refine ⟨σa, by rw [if_pos hl], fun j hj => ⟨?_, ?_⟩, frC.rf⟩
      · show _ = (if G 3 b < 0 then (if j = m then -1 else G 5 j) else _)
        rw [if_pos hl]
        exact (pa j hj).2.1
      · show _ = (if G 3 b < 0 then (if j = m then nI b else G 6 j) else _)
        rw [if_pos hl]
        exact (pa j hj).2.2.1
    · obtain ⟨σb, d1, d2, d3, d4⟩ := c_land_d_l (n := n) (c := tM T) (x := nI b) (to := G 3 b) (σ0 := σa) hM (nI_m1 (by omega)) n 0 σa (by rw [(fa 1 (by unfold scG; omega)).1]; exact hT.1.2.2.2) (by omega) (by omega) (fun i => by simp) (fun i => by simp) frC.rf
      refine ⟨σb, ?_, fun j hj => ⟨?_, ?_⟩, d4⟩
      · rw [if_neg hl]
        unfold cGoing_landAll_d
        rw [show cGoing_landAll_d_b2 n n (nI b) (G 3 b) ci_0 σa = some σb from d1, ob_def]
      · rw [d3 j, (pa j hj).2.1, (pa j hj).2.2.1]
        show _ = (if G 3 b < 0 then _ else if j = m ∨ (j < tM T ∧ G 6 j = nI b) then G 3 b else G 5 j)
        rw [if_neg hl]
        by_cases e : j = m
        · simp [e, hm]
        · simp [e]
      · rw [d2 j, (pa j hj).2.2.1]
        show _ = (if G 3 b < 0 then _ else if j = m ∨ (j < tM T ∧ G 6 j = nI b) then -1 else G 6 j)
        rw [if_neg hl]
        by_cases e : j = m
        · simp [e, hm]
        · simp [e]
  obtain ⟨σb, l1, l2, l3⟩ := land
  have fb : frC (scG 35) σ σb := fa.trans (l3.mono (fun a h => by unfold scG; omega))
  -- wish
  have wis : ∃ σc, cGoing_crossOver_d_b56 n (nI m) (nI b) (sWish T L G m (G 3 b) h) (G 3 b) σb = cGoing_crossOver_d_b67 n (nI m) (nI b) (G 3 b) σc ∧ (∀ j, j < 4 → σc.2.1 36 j = sCross T L G m b h 3 j) ∧ frC (fun a => a = 36) σb σc := by
    unfold cGoing_crossOver_d_b56
    have p1 : ∀ j, j < 4 → σb.2.1 36 j = G 3 j := fun j hj => by rw [(l3 36 (by decide)).2.1]; exact (qa j hj).1
    by_cases z : sWish T L G m (G 3 b) h < 0
    · refine ⟨σb, by rw [if_pos z], fun j hj => ?_, frC.rf⟩
      show _ = (if j = b then (if sWish T L G m (G 3 b) h < 0 then G 3 b else _) else G 3 j)
      rw [if_pos z, p1 j hj]
      by_cases e : j = b
      · rw [if_pos e, e]
      · rw [if_neg e]
    · refine ⟨uA σb 36 (nI b) (sWish T L G m (G 3 b) h), by rw [if_neg z, bin_nI (by omega) (by decide)], fun j hj => ?_, frCaA frC.rf rfl⟩
      show _ = (if j = b then (if sWish T L G m (G 3 b) h < 0 then G 3 b else sWish T L G m (G 3 b) h) else G 3 j)
      rw [uA_2, nI_clamp (by omega), if_neg z]
      by_cases e : j = b
      · simp [e]
      · simp [e, p1 j hj]
  obtain ⟨σc, w1, w2, w3⟩ := wis
  have e3 : sA σc 41 (nI m) = G 8 m := by rw [sA_n _ _ (by omega), (w3 41 (by decide)).2.1, (l3 41 (by decide)).2.1]; exact (pa m (by omega)).2.2.2.1
  have e4 : sA σc 37 (nI b) = G 4 b := by rw [sA_n _ _ (by omega), (w3 37 (by decide)).2.1, (l3 37 (by decide)).2.1]; exact (qa b (by omega)).2
  refine ⟨uA (uA (uA σc 41 (nI m) (G 8 m + 1)) 42 (nI m) 0) 37 (nI b) (G 4 b + 1), ?_, ?_, frCaA (frCaA (frCaA (fb.trans (w3.mono (fun a h => by unfold scG; omega))) (by unfold scG; omega)) (by unfold scG; omega)) (by unfold scG; omega)⟩
  · unfold cGoing_crossOver_d cGoing_crossOver_d_b29
    rw [a1, ob_def, bin_nI (by omega) (by decide), bin_nI (by omega) (by decide), b1, ob_def, e1, e2, bin_nI (by omega) (by decide), bin_nI (by omega) (by decide), bin_nI (by omega) (by decide), ← ea, l1, w1]
    unfold cGoing_crossOver_d_b67
    simp (disch := first | omega | decide) only [bin_nI, sA_uA, e3, e4, ci1_1, ci0_0]
  · refine ⟨?_, fun j hj => ⟨?_, ?_⟩, fun j hj => ⟨?_, ?_, ?_, ?_, ?_⟩⟩
    · show σc.1 35 2 = G 0 0 ∧ σc.1 35 3 = G 1 0 ∧ σc.1 35 4 = G 2 0 ∧ σc.1 35 1 = G 10 0
      rw [(w3 35 (by decide)).1, (l3 35 (by decide)).1]
      exact ia
    · exact w2 j hj
    · rw [uA_2, nI_clamp (by omega)]
      show _ = (if j = b then G 4 b + 1 else G 4 j)
      by_cases e : j = b
      · simp [e]
      · simp only [e, and_false, if_false]
        show σc.2.1 37 j = _
        rw [(w3 37 (by decide)).2.1, (l3 37 (by decide)).2.1]
        exact (qa j hj).2
    · show σc.2.1 38 j = _
      rw [(w3 38 (by decide)).2.1]
      exact (l2 j hj).1
    · show σc.2.1 39 j = _
      rw [(w3 39 (by decide)).2.1]
      exact (l2 j hj).2
    · show σc.2.1 40 j = (if j = m then G 7 m - sToll T L G m b h else G 7 j)
      rw [(w3 40 (by decide)).2.1, (l3 40 (by decide)).2.1]
      exact (pa j hj).1
    · show (uA σc 41 (nI m) (G 8 m + 1)).2.1 41 j = (if j = m then G 8 m + 1 else G 8 j)
      rw [uA_2, nI_clamp (by omega)]
      by_cases e : j = m
      · simp [e]
      · simp only [e, and_false, if_false]
        rw [(w3 41 (by decide)).2.1, (l3 41 (by decide)).2.1]
        exact (pa j hj).2.2.2.1
    · show (uA (uA σc 41 (nI m) (G 8 m + 1)) 42 (nI m) 0).2.1 42 j = (if j = m then 0 else G 9 j)
      rw [uA_2, nI_clamp (by omega)]
      by_cases e : j = m
      · simp [e]
      · simp only [e, and_false, if_false]
        show σc.2.1 42 j = _
        rw [(w3 42 (by decide)).2.1, (l3 42 (by decide)).2.1]
        exact (pa j hj).2.2.2.2
