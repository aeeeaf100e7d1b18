/-- the reference's row is unchanged but from w on, 48 cells -/
def frR (w : Nat) (σ σ' : bS) : Prop := (∀ k, ¬ k = 46 → σ'.1 0 k = σ.1 0 k) ∧ (∀ a, ¬ (a = 29 ∨ a = 31 ∨ a = 32) → σ'.2.1 a = σ.2.1 a) ∧ (∀ p, (p < w ∨ w + 48 ≤ p) → σ'.2.1 29 p = σ.2.1 29 p) ∧ σ'.2.2 = σ.2.2
theorem frR.rf {w : Nat} {σ : bS} : frR w σ σ := ⟨fun _ _ => rfl, fun _ _ => rfl, fun _ _ => rfl, rfl⟩
theorem frR.trans {w : Nat} {σ σ1 σ2 : bS} (h : frR w σ σ1) (h' : frR w σ1 σ2) : frR w σ σ2 := ⟨fun k hk => (h'.1 k hk).trans (h.1 k hk), fun a ha => (h'.2.1 a ha).trans (h.2.1 a ha), fun p hp => (h'.2.2.1 p hp).trans (h.2.2.1 p hp), h'.2.2.2.trans h.2.2.2⟩
theorem frR.scr {w : Nat} {σ σ' : bS} (f : frM sc46 sc31 σ σ') : frR w σ σ' := ⟨fun k hk => f.1 k hk, fun a ha => f.2.1 a (fun z => ha (by unfold sc31 at z; omega)), fun p _ => congrFun (f.2.1 29 (by decide)) p, f.2.2⟩
theorem frRa {w p : Nat} {v : Int32} {σ σ1 : bS} (h : frR w σ σ1) (h1 : w ≤ p) (h2 : p < w + 48) (h3 : p < 2 ^ 31) : frR w σ (uA σ1 29 (nI p) v) := h.trans ⟨fun _ _ => rfl, fun a ha => by
  funext j
  rw [uA_2, if_neg]
  rintro ⟨rfl, -⟩
  exact ha (Or.inl rfl), fun q hq => by
  rw [uA_2, nI_clamp h3, if_neg]
  rintro ⟨-, rfl⟩
  omega, rfl⟩
theorem MTx.go {T : aT} {L : aL} {w : Nat} {σ σ' : bS} (h : MTx T L σ) (f : frR w σ σ') : MTx T L σ' := h.of (fun a h1 h2 => f.2.1 a (by omega))
theorem m_land_l {n c w : Nat} {x to : Int32} {σ0 : bS} (h7 : c ≤ 7) (hw2 : w ≤ 2000) : ∀ (k j : Nat) (σ : bS), σ.2.1 20 0 = nI c → σ.1 0 40 = nI w → j ≤ c → c < j + k → (∀ i, i < 7 → σ.2.1 29 (w + 12 + i) = if i < j ∧ σ0.2.1 29 (w + 12 + i) = x then -2 else σ0.2.1 29 (w + 12 + i)) → (∀ i, i < 7 → σ.2.1 29 (w + 5 + i) = if i < j ∧ σ0.2.1 29 (w + 12 + i) = x then to else σ0.2.1 29 (w + 5 + i)) → (∀ p, p < w + 5 ∨ w + 19 ≤ p → σ.2.1 29 p = σ0.2.1 29 p) → frM (fun _ => False) (fun a => a = 29) σ0 σ → ∃ σ', m_comes_b68 n k x to (nI j) σ = some (to, σ') ∧ (∀ i, i < 7 → σ'.2.1 29 (w + 12 + i) = if i < c ∧ σ0.2.1 29 (w + 12 + i) = x then -2 else σ0.2.1 29 (w + 12 + i)) ∧ (∀ i, i < 7 → σ'.2.1 29 (w + 5 + i) = if i < c ∧ σ0.2.1 29 (w + 12 + i) = x then to else σ0.2.1 29 (w + 5 + i)) ∧ (∀ p, p < w + 5 ∨ w + 19 ≤ p → σ'.2.1 29 p = σ0.2.1 29 p) ∧ frM (fun _ => False) (fun a => a = 29) σ0 σ'
  | 0, j, σ, hc, hw, h1, h2, a, b, d, f => by omega
  | k + 1, j, σ, hc, hw, h1, h2, a, b, d, f => by
    rw [m_comes_b68, bin_c0 (by decide) (by decide), sA_c0, hc]
    by_cases hj : j < c
    · have e : sA σ 29 (nI (w + 12 + j)) = σ0.2.1 29 (w + 12 + j) := by rw [sA_n _ _ (by omega), a j (by omega), if_neg (fun z => Nat.lt_irrefl _ z.1)]
      have e6 : sI σ 0 40 = nI w := hw
      rw [if_neg (nI_ge hj (by omega))]
      simp (disch := omega) only [e6, sI_uA, cb12_nI, ci_5_n, nI_add, bin_nI, e, m_comes_b130, ci1_nI]
      by_cases z : σ0.2.1 29 (w + 12 + j) = x
      · rw [if_pos z]
        refine m_land_l h7 hw2 k (j + 1) _ hc hw hj (by omega) (fun i hi => ?_) (fun i hi => ?_) (fun p hp => ?_) (frMaA (frMaA f rfl) rfl)
        · rw [uA_2, uA_2, nI_clamp (by omega), nI_clamp (by omega), a i hi, cbm2, if_neg (show ¬ (29 = 29 ∧ w + 12 + i = w + 5 + j) by omega)]
          by_cases q : i = j
          · subst q; simp [z]
          · rw [if_neg (show ¬ (29 = 29 ∧ w + 12 + i = w + 12 + j) by omega)]
            by_cases y : i < j
            · simp [y, show i < j + 1 by omega]
            · simp [y, show ¬ i < j + 1 by omega]
        · rw [uA_2, uA_2, nI_clamp (by omega), nI_clamp (by omega), b i hi]
          by_cases q : i = j
          · subst q; simp [z]
          · rw [if_neg (show ¬ (29 = 29 ∧ w + 5 + i = w + 5 + j) by omega), if_neg (show ¬ (29 = 29 ∧ w + 5 + i = w + 12 + j) by omega)]
            by_cases y : i < j
            · simp [y, show i < j + 1 by omega]
            · simp [y, show ¬ i < j + 1 by omega]
        · rw [uA_2, uA_2, nI_clamp (by omega), nI_clamp (by omega), if_neg (show ¬ (29 = 29 ∧ p = w + 5 + j) by omega), if_neg (show ¬ (29 = 29 ∧ p = w + 12 + j) by omega)]
          exact d p hp
      · rw [if_neg z]
        refine m_land_l h7 hw2 k (j + 1) _ hc hw hj (by omega) (fun i hi => ?_) (fun i hi => ?_) d f
        · rw [a i hi]
          by_cases q : i = j
          · subst q; simp [z]
          · by_cases y : i < j
            · simp [y, show i < j + 1 by omega]
            · simp [y, show ¬ i < j + 1 by omega]
        · rw [b i hi]
          by_cases q : i = j
          · subst q; simp [z]
          · by_cases y : i < j
            · simp [y, show i < j + 1 by omega]
            · simp [y, show ¬ i < j + 1 by omega]
    · have e : j = c := by omega
      subst e
      rw [if_pos (Int32.le_refl _)]
      exact ⟨σ, rfl, a, b, d, f⟩
/-- what is answered: the BANK, or -3 -/
def sTo (G : aG) (b : Nat) : Int32 := if G 3 b < 0 then -3 else G 3 b
theorem cbm3 : cb_m3 = -3 := by decide
/-- one comes to LAST (or is ON it), all else of the row as it is -/
theorem m_comes_eq {T : aT} {L : aL} {i n w m b h : Nat} {G : aG} {σ : bS} (hn : 20 ≤ n) (hI : InvT T L) (hi : InvG T i G) (hc : σ.2.1 20 0 = nI (tM T)) (hw : σ.1 0 40 = nI w) (hw2 : w ≤ 2000) (hm : m < tM T) (hb : b < tG T) (on : G 6 m = -1) (r1 : σ.2.1 29 (w + 1 + b) = md (G 3 b)) (r2 : ∀ j, j < tM T → σ.2.1 29 (w + 5 + j) = md (G 5 j) ∧ σ.2.1 29 (w + 12 + j) = md (G 6 j)) : ∃ σ', m_comes n (nI m) (nI b) σ = some (sTo G b, σ') ∧ (∀ j, j < tM T → σ'.2.1 29 (w + 5 + j) = md (sCross T L G m b h 5 j) ∧ σ'.2.1 29 (w + 12 + j) = md (sCross T L G m b h 6 j)) ∧ (∀ p, p < w + 5 ∨ w + 19 ≤ p → σ'.2.1 29 p = σ.2.1 29 p) ∧ frM (fun _ => False) (fun a => a = 29) σ σ' := by
  have hM := hI.2.2.2.1
  have hGG := hI.2.2.1
  have hB := hI.1
  have e1 : sA σ 29 (nI (w + 1 + b)) = md (G 3 b) := (sA_n _ _ (by omega)).trans r1
  have e6 : sI σ 0 40 = nI w := hw
  unfold m_comes
  simp (disch := omega) only [e6, sI_uA, ci1_nI, cb12_nI, ci_5_n, nI_add, bin_nI, e1]
  by_cases hl : G 3 b < 0
  · have e2 : ¬ 0 ≤ md (G 3 b) := Int32.not_le.mpr (md_lt.mpr hl)
    rw [if_neg e2]
    refine ⟨_, by rw [cbm3, sTo, if_pos hl], fun j hj => ⟨?_, ?_⟩, fun p hp => ?_, frMaA (frMaA frM.rf rfl) rfl⟩
    · show _ = md (if G 3 b < 0 then (if j = m then -1 else G 5 j) else _)
      rw [if_pos hl, uA_2, uA_2, nI_clamp (by omega), nI_clamp (by omega), cbm2]
      by_cases e : j = m
      · subst e
        simp [md_m]
      · rw [if_neg (show ¬ (29 = 29 ∧ w + 5 + j = w + 5 + m) by omega), if_neg (show ¬ (29 = 29 ∧ w + 5 + j = w + 12 + m) by omega), if_neg e]
        exact (r2 j hj).1
    · show _ = md (if G 3 b < 0 then (if j = m then nI b else G 6 j) else _)
      rw [if_pos hl, uA_2, uA_2, nI_clamp (by omega), nI_clamp (by omega), if_neg (show ¬ (29 = 29 ∧ w + 12 + j = w + 5 + m) by omega)]
      by_cases e : j = m
      · subst e
        simp [md_n (show b < 2 ^ 31 by omega)]
      · rw [if_neg (show ¬ (29 = 29 ∧ w + 12 + j = w + 12 + m) by omega), if_neg e]
        exact (r2 j hj).2
    · rw [uA_2, uA_2, nI_clamp (by omega), nI_clamp (by omega), if_neg (show ¬ (29 = 29 ∧ p = w + 5 + m) by omega), if_neg (show ¬ (29 = 29 ∧ p = w + 12 + m) by omega)]
  · rcases hi.2.1 b hb with z | ⟨q, hq, z⟩
    · exact absurd (by rw [z]; decide) hl
    · have ez : md (G 3 b) = G 3 b := by rw [z, md_n (by omega)]
      rw [ez, if_pos (Int32.not_lt.mp hl)]
      obtain ⟨σ', d1, d2, d3, d4, d5⟩ := m_land_l (n := n) (c := tM T) (x := nI b) (to := G 3 b) (σ0 := uA σ 29 (nI (w + 5 + m)) (G 3 b)) hM hw2 n 0 (uA σ 29 (nI (w + 5 + m)) (G 3 b)) hc hw (by omega) (by omega) (fun i _ => by simp) (fun i _ => by simp) (fun _ _ => rfl) frM.rf
      have k1 : ∀ j, j < 7 → (uA σ 29 (nI (w + 5 + m)) (G 3 b)).2.1 29 (w + 12 + j) = σ.2.1 29 (w + 12 + j) := fun j hj => by
        rw [uA_2, nI_clamp (by omega), if_neg (show ¬ (29 = 29 ∧ w + 12 + j = w + 5 + m) by omega)]
      have k3 : ∀ j, j < tM T → (md (G 6 j) = nI b ↔ G 6 j = nI b) := fun j hj => md_eq (show tG T < 2 ^ 31 by omega) (hi.on hj) (by omega)
      refine ⟨σ', ?_, fun j hj => ⟨?_, ?_⟩, fun p hp => ?_, (frM.uA (PI := fun _ => False) (PA := fun a => a = 29) rfl).trans d5⟩
      · rw [sTo, if_neg hl]
        exact d1
      · rw [d3 j (by omega), k1 j (by omega), (r2 j hj).2, uA_2, nI_clamp (by omega)]
        simp only [k3 j hj]
        show _ = md (if G 3 b < 0 then _ else if j = m ∨ (j < tM T ∧ G 6 j = nI b) then G 3 b else G 5 j)
        rw [if_neg hl]
        by_cases y : G 6 j = nI b
        · rw [if_pos ⟨hj, y⟩, if_pos (Or.inr ⟨hj, y⟩), ez]
        · rw [if_neg (fun u => y u.2)]
          by_cases e : j = m
          · subst e
            simp [ez]
          · rw [if_neg (fun u => e (by have := u.2; omega)), if_neg (fun u => u.elim e (fun v => y v.2))]
            exact (r2 j hj).1
      · rw [d2 j (by omega), k1 j (by omega), (r2 j hj).2]
        simp only [k3 j hj]
        show _ = md (if G 3 b < 0 then _ else if j = m ∨ (j < tM T ∧ G 6 j = nI b) then -1 else G 6 j)
        rw [if_neg hl]
        by_cases y : G 6 j = nI b
        · rw [if_pos ⟨hj, y⟩, if_pos (Or.inr ⟨hj, y⟩), md_m]
        · rw [if_neg (fun u => y u.2)]
          by_cases e : j = m
          · subst e
            rw [if_pos (Or.inl rfl), on]
          · rw [if_neg (fun u => u.elim e (fun v => y v.2))]
      · rw [d4 p hp, uA_2, nI_clamp (by omega), if_neg (show ¬ (29 = 29 ∧ p = w + 5 + m) by omega)]
theorem m_cross_eq {T : aT} {L : aL} {i n w m b h : Nat} {G : aG} {σ : bS} (hn : 1000 ≤ n) (hI : InvT T L) (hT : MTx T L σ) (hG : MG T w G σ) (hi : InvG T i G) (hw : σ.1 0 40 = nI w) (hw2 : w ≤ 2000) (hm : m < tM T) (hb : b < tG T) (hh : h < 2 ^ 31) (hh2 : G 0 0 = nI h) (hat : G 5 m = nI (tFoot T b)) : ∃ σ', m_crosses n (nI m) (nI b) σ = some (sTo G b, σ') ∧ MG T w (sCross T L G m b h) σ' ∧ frR w σ σ' := by
  have hM := hI.2.2.2.1
  have hGG := hI.2.2.1
  have hB := hI.1
  have hf := hI.2.2.2.2.1 b hb
  have hs := sWish_in (L := L) (G := G) (la := G 3 b) (h := h) hI hm
  have on : G 6 m = -1 := by
    rcases hi.2.2 m hm with ⟨z, -⟩ | ⟨z, -⟩
    · exact z
    · exact absurd (hat.symm.trans z) (nI_m1 (by omega))
  obtain ⟨σ1, a1, a2⟩ := m_wishOf_eq hn hI hT hG hw hw2 hm hb hh hh2 hf hat (hi.2.1 b hb)
  have w1 : σ1.1 0 40 = nI w := (a2.1 40 (by decide)).trans hw
  obtain ⟨σ2, b1, b2⟩ := m_tollOf_eq hn hI (hT.scr a2) (hG.scr a2) w1 hw2 hm hb hh hh2 hf hat (hi.2.1 b hb)
  have w2 : σ2.1 0 40 = nI w := (b2.1 40 (by decide)).trans w1
  have hG2 := (hG.scr a2).scr b2
  have hT2 := (hT.scr a2).scr b2
  have e6 : sI σ1 0 40 = nI w := w1
  have e7 : sA σ1 29 (nI (w + 19 + m)) = G 7 m := (sA_n _ _ (by omega)).trans ((hG.scr a2).2.2 m hm).2.2.1
  obtain ⟨σ3, c1, c2, c3, c4⟩ := m_comes_eq (n := n) (h := h) (σ := uA σ2 29 (nI (w + 19 + m)) (G 7 m - sToll T L G m b h)) (L := L) (by omega) hI hi hT2.1.2.2.2 w2 hw2 hm hb on (by
    rw [uA_2, nI_clamp (by omega), if_neg (show ¬ (29 = 29 ∧ w + 1 + b = w + 19 + m) by omega)]
    exact (hG2.2.1 b hb).1) (fun j hj => by
    rw [uA_2, uA_2, nI_clamp (by omega), if_neg (show ¬ (29 = 29 ∧ w + 5 + j = w + 19 + m) by omega), if_neg (show ¬ (29 = 29 ∧ w + 12 + j = w + 19 + m) by omega)]
    exact ⟨(hG2.2.2 j hj).1, (hG2.2.2 j hj).2.1⟩)
  have w3 : sI σ3 0 40 = nI w := (c4.1 40 (fun z => z)).trans w2
  have p3 : ∀ p, p < w + 5 ∨ w + 19 ≤ p → σ3.2.1 29 p = if p = w + 19 + m then G 7 m - sToll T L G m b h else σ2.2.1 29 p := fun p hp => by
    rw [c3 p hp, uA_2, nI_clamp (by omega)]
    simp
  have f3 : frR w σ σ3 := ((frR.scr a2).trans (frR.scr b2)).trans ⟨fun k hk => c4.1 k (fun z => z), fun a ha => (c4.2.1 a (fun z => ha (Or.inl z))).trans (by
      funext j
      rw [uA_2, if_neg (fun z => ha (Or.inl z.1))]), fun p hp => by rw [p3 p (by omega), if_neg (by omega)], c4.2.2⟩
  -- the wish
  obtain ⟨σ4, e4⟩ : ∃ y, y = (if sWish T L G m (G 3 b) h < 0 then σ3 else uA σ3 29 (nI (w + 1 + b)) (sWish T L G m (G 3 b) h)) := ⟨_, rfl⟩
  have p4 : ∀ p, σ4.2.1 29 p = if p = w + 1 + b ∧ ¬ sWish T L G m (G 3 b) h < 0 then sWish T L G m (G 3 b) h else σ3.2.1 29 p := fun p => by
    rw [e4]
    by_cases z : sWish T L G m (G 3 b) h < 0
    · simp [z]
    · rw [if_neg z, uA_2, nI_clamp (by omega)]
      simp [z]
  have w4 : sI σ4 0 40 = nI w := by
    rw [e4]
    split
    · exact w3
    · exact w3
  have f4 : frR w σ σ4 := by
    rw [e4]
    split
    · exact f3
    · exact frRa f3 (by omega) (by omega) (by omega)
  have q1 : sA σ4 29 (nI (w + 26 + m)) = G 8 m := by
    rw [sA_n _ _ (by omega), p4, if_neg (by omega), p3 _ (by omega), if_neg (by omega)]
    exact (hG2.2.2 m hm).2.2.2.1
  have q2 : sA (uA (uA σ4 29 (nI (w + 26 + m)) (G 8 m + 1)) 29 (nI (w + 33 + m)) 0) 29 (nI (w + 42 + b)) = G 4 b := by
    rw [sA_n _ _ (by omega), uA_2, uA_2, nI_clamp (by omega), nI_clamp (by omega), if_neg (show ¬ (29 = 29 ∧ w + 42 + b = w + 33 + m) by omega), if_neg (show ¬ (29 = 29 ∧ w + 42 + b = w + 26 + m) by omega), p4, if_neg (by omega), p3 _ (by omega), if_neg (by omega)]
    exact (hG2.2.1 b hb).2
  refine ⟨uA (uA (uA σ4 29 (nI (w + 26 + m)) (G 8 m + 1)) 29 (nI (w + 33 + m)) 0) 29 (nI (w + 42 + b)) (G 4 b + 1), ?_, ?_, frRa (frRa (frRa f4 (by omega) (by omega) (by omega)) (by omega) (by omega) (by omega)) (by omega) (by omega) (by omega)⟩
  · unfold m_crosses m_crosses_b41
    rw [a1, ob_def]
    simp (disch := omega) only [e6, cb_19_n, nI_add, bin_nI, e7]
    rw [b1, ob_def, c1, ob_def]
    have key : (if md (sWish T L G m (G 3 b) h) < 0 then m_crosses_b68 n (nI m) (nI b) (sTo G b) σ3 else bin_ ((sI σ3 0 40 + ci_1) + nI b) 2208 (m_crosses_b68 n (nI m) (nI b) (sTo G b) (uA σ3 29 ((sI σ3 0 40 + ci_1) + nI b) (md (sWish T L G m (G 3 b) h))))) = m_crosses_b68 n (nI m) (nI b) (sTo G b) σ4 := by
      rw [e4]
      by_cases z : sWish T L G m (G 3 b) h < 0
      · rw [if_pos z, if_pos (md_lt.mpr z)]
      · rw [if_neg z, if_neg (fun y => z (md_lt.mp y)), w3, ci1_nI, nI_add, nI_add, bin_nI (by omega) (by decide)]
        rcases hs with u | ⟨q, hq, u⟩
        · exact absurd (by rw [u]; decide) z
        · rw [u, md_n (by omega)]
    rw [key]
    unfold m_crosses_b68
    simp (disch := omega) only [w4, sI_uA, cb_26_n, cb_33_n, cb_42_n, nI_add, bin_nI, q1, ci1_1, ci0_0, q2]
  · have rd : ∀ p, (uA (uA (uA σ4 29 (nI (w + 26 + m)) (G 8 m + 1)) 29 (nI (w + 33 + m)) 0) 29 (nI (w + 42 + b)) (G 4 b + 1)).2.1 29 p = if p = w + 42 + b then G 4 b + 1 else if p = w + 33 + m then 0 else if p = w + 26 + m then G 8 m + 1 else σ4.2.1 29 p := fun p => by
      rw [uA_2, uA_2, uA_2, nI_clamp (by omega), nI_clamp (by omega), nI_clamp (by omega)]
      simp
    have r2 : ∀ p, (p < w + 5 ∨ w + 19 ≤ p) → ¬ p = w + 42 + b → ¬ p = w + 33 + m → ¬ p = w + 26 + m → ¬ p = w + 1 + b → ¬ p = w + 19 + m → (uA (uA (uA σ4 29 (nI (w + 26 + m)) (G 8 m + 1)) 29 (nI (w + 33 + m)) 0) 29 (nI (w + 42 + b)) (G 4 b + 1)).2.1 29 p = σ2.2.1 29 p := fun p h1 h2 h3 h4 h5 h6 => by
      rw [rd, if_neg h2, if_neg h3, if_neg h4, p4, if_neg (fun z => h5 z.1), p3 p h1, if_neg h6]
    refine ⟨⟨?_, ?_, ?_, ?_⟩, fun j hj => ⟨?_, ?_⟩, fun j hj => ⟨?_, ?_, ?_, ?_, ?_⟩⟩
    · rw [r2 w (by omega) (by omega) (by omega) (by omega) (by omega) (by omega)]; exact hG2.1.1
    · rw [r2 (w + 40) (by omega) (by omega) (by omega) (by omega) (by omega) (by omega)]; exact hG2.1.2.1
    · rw [r2 (w + 41) (by omega) (by omega) (by omega) (by omega) (by omega) (by omega)]; exact hG2.1.2.2.1
    · rw [r2 (w + 46) (by omega) (by omega) (by omega) (by omega) (by omega) (by omega)]; exact hG2.1.2.2.2
    · show _ = md (if j = b then (if sWish T L G m (G 3 b) h < 0 then G 3 b else sWish T L G m (G 3 b) h) else G 3 j)
      by_cases e : j = b
      · subst e
        rw [if_pos rfl, rd, if_neg (by omega), if_neg (by omega), if_neg (by omega), p4]
        by_cases z : sWish T L G m (G 3 j) h < 0
        · rw [if_pos z, if_neg (fun y => y.2 z), p3 _ (by omega), if_neg (by omega)]
          exact (hG2.2.1 j hj).1
        · rw [if_neg z, if_pos ⟨rfl, z⟩]
          rcases hs with u | ⟨q, hq, u⟩
          · exact absurd (by rw [u]; decide) z
          · rw [u, md_n (by omega)]
      · rw [if_neg e, r2 (w + 1 + j) (by omega) (by omega) (by omega) (by omega) (by omega) (by omega)]
        exact (hG2.2.1 j hj).1
    · show _ = (if j = b then G 4 b + 1 else G 4 j)
      by_cases e : j = b
      · subst e
        rw [if_pos rfl, rd, if_pos rfl]
      · rw [if_neg e, r2 (w + 42 + j) (by omega) (by omega) (by omega) (by omega) (by omega) (by omega)]
        exact (hG2.2.1 j hj).2
    · rw [rd, if_neg (by omega), if_neg (by omega), if_neg (by omega), p4, if_neg (by omega)]
      exact (c2 j hj).1
    · rw [rd, if_neg (by omega), if_neg (by omega), if_neg (by omega), p4, if_neg (by omega)]
      exact (c2 j hj).2
    · show _ = (if j = m then G 7 m - sToll T L G m b h else G 7 j)
      rw [rd, if_neg (by omega), if_neg (by omega), if_neg (by omega), p4, if_neg (by omega), p3 _ (by omega)]
      by_cases e : j = m
      · subst e
        rw [if_pos rfl, if_pos rfl]
      · rw [if_neg e, if_neg (by omega)]
        exact (hG2.2.2 j hj).2.2.1
    · show _ = (if j = m then G 8 m + 1 else G 8 j)
      by_cases e : j = m
      · subst e
        rw [if_pos rfl, rd, if_neg (by omega), if_neg (by omega), if_pos rfl]
      · rw [if_neg e, r2 (w + 26 + j) (by omega) (by omega) (by omega) (by omega) (by omega) (by omega)]
        exact (hG2.2.2 j hj).2.2.2.1
    · show _ = (if j = m then 0 else G 9 j)
      by_cases e : j = m
      · subst e
        rw [if_pos rfl, rd, if_neg (by omega), if_pos rfl]
      · rw [if_neg e, r2 (w + 33 + j) (by omega) (by omega) (by omega) (by omega) (by omega) (by omega)]
        exact (hG2.2.2 j hj).2.2.2.2
