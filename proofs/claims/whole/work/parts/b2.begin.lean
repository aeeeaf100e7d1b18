/-! both parsers begin -/
theorem c_clear {n : Nat} (hn : 100 ≤ n) (σ : bS) : ∃ σ', cTold_clear_s n σ = some σ' ∧ frC (fun a => a = 14 ∨ a = 15 ∨ a = 21 ∨ a = 22 ∨ a = 23) σ σ' ∧ (σ'.1 14 0 = 0 ∧ σ'.1 14 1 = 0 ∧ σ'.1 14 2 = 0 ∧ σ'.1 14 3 = 0) ∧ (σ'.1 14 12 = -1 ∧ σ'.1 14 13 = -1 ∧ σ'.1 14 14 = -1 ∧ σ'.1 14 15 = -1 ∧ σ'.1 14 16 = 0 ∧ σ'.1 14 17 = 5 ∧ σ'.1 14 18 = 0) ∧ σ'.1 23 3 = 0 ∧ (∀ i, i < 36 → σ'.2.1 15 i = 0) ∧ (∀ i, i < 7 → σ'.2.1 21 i = -1) ∧ (∀ i, i < 4 → σ'.2.1 22 i = -1) := by
  unfold cTold_clear_s
  obtain ⟨q1, a1, a2, a3⟩ := f_fill_15 (n := n) (by omega) ci_0 (uI (uI (uI (uI σ 14 0 ci_0) 14 1 ci_0) 14 2 ci_0) 14 3 ci_0)
  obtain ⟨q2, b1, b2, b3⟩ := f_fill_21 (n := n) (by omega) ci_m1 q1
  obtain ⟨q3, c1, c2, c3⟩ := f_fill_22 (n := n) (by omega) ci_m1 q2
  rw [a1, ob_def, b1, ob_def, c1, ob_def]
  have e14 : q3.1 14 = (uI (uI (uI (uI σ 14 0 ci_0) 14 1 ci_0) 14 2 ci_0) 14 3 ci_0).1 14 := ((c3 14 (by decide)).1.trans (b3 14 (by decide)).1).trans (a3 14 (by decide)).1
  have f8 : ∀ j, ¬ (12 ≤ j ∧ j ≤ 18) → (uI (uI (uI (uI (uI (uI (uI (uI q3 14 12 ci_m1) 14 13 ci_m1) 14 14 ci_m1) 14 15 ci_m1) 14 16 ci_0) 14 17 ci_5) 14 18 ci_0) 23 3 ci_0).1 14 j = q3.1 14 j := fun j hj => by
    rw [uI_1, if_neg (by omega), uI_1, if_neg (by omega), uI_1, if_neg (by omega), uI_1, if_neg (by omega), uI_1, if_neg (by omega), uI_1, if_neg (by omega), uI_1, if_neg (by omega), uI_1, if_neg (by omega)]
  refine ⟨_, rfl, ?_, ⟨?_, ?_, ?_, ?_⟩, ⟨rfl, rfl, rfl, rfl, rfl, rfl, rfl⟩, rfl, fun i hi => ?_, fun i hi => ?_, fun i hi => c2 i hi⟩
  · have u14 : ∀ (τ : bS) (k : Nat) (v : Int32), frC (fun a => a = 14 ∨ a = 15 ∨ a = 21 ∨ a = 22 ∨ a = 23) τ (uI τ 14 k v) := fun τ k v => frC.uI (Or.inl rfl)
    have f1 := (((u14 σ 0 ci_0).trans (u14 _ 1 ci_0)).trans (u14 _ 2 ci_0)).trans (u14 _ 3 ci_0)
    have f2 := ((f1.trans (a3.mono (fun a ha => by omega))).trans (b3.mono (fun a ha => by omega))).trans (c3.mono (fun a ha => by omega))
    exact (((((((f2.trans (u14 _ 12 ci_m1)).trans (u14 _ 13 ci_m1)).trans (u14 _ 14 ci_m1)).trans (u14 _ 15 ci_m1)).trans (u14 _ 16 ci_0)).trans (u14 _ 17 ci_5)).trans (u14 _ 18 ci_0)).trans (frC.uI (by omega))
  · rw [f8 0 (by omega), e14]; rfl
  · rw [f8 1 (by omega), e14]; rfl
  · rw [f8 2 (by omega), e14]; rfl
  · rw [f8 3 (by omega), e14]; rfl
  · show q3.2.1 15 i = _
    rw [(c3 15 (by decide)).2.1, (b3 15 (by decide)).2.1]
    exact a2 i hi
  · show q3.2.1 21 i = _
    rw [(c3 21 (by decide)).2.1]
    exact b2 i hi
theorem m_clr_l {n : Nat} : ∀ (k j : Nat) (σ : bS), j ≤ 14 → 14 < j + k → (∀ i, i < j → σ.2.1 9 (14 + i) = -1) → ∃ σ', m_clears_b78 n k (nI j) σ = some σ' ∧ (∀ i, i < 14 → σ'.2.1 9 (14 + i) = -1) ∧ σ'.1 = σ.1 ∧ σ'.2.2 = σ.2.2 ∧ ∀ b j', ¬ (b = 9 ∧ 14 ≤ j') → σ'.2.1 b j' = σ.2.1 b j'
  | 0, j, σ, h1, h2, h3 => by omega
  | k + 1, j, σ, h1, h2, h3 => by
    rw [m_clears_b78, cb_14_n]
    by_cases z : j = 14
    · rw [if_pos ((nI_leI (by omega) (by omega)).mpr (by omega))]
      exact ⟨σ, rfl, fun i hi => h3 i (by omega), rfl, rfl, fun _ _ _ => rfl⟩
    · rw [if_neg (nI_ge (by omega) (by omega)), nI_add, bin_nI (by omega) (by decide), nI_s]
      obtain ⟨σ', a1, a2, a3, a4, a5⟩ := m_clr_l (n := n) k (j + 1) (uA σ 9 (nI (14 + j)) ci_m1) (by omega) (by omega) (fun i hi => by
        rw [uA_2, nI_clamp (by omega)]
        by_cases w : i = j
        · rw [if_pos ⟨rfl, by omega⟩, cim1]
        · rw [if_neg (by omega)]
          exact h3 i (by omega))
      refine ⟨σ', a1, a2, a3, a4, fun b j' hb => ?_⟩
      rw [a5 b j' hb, uA_2, nI_clamp (by omega), if_neg (by omega)]
theorem m_clear0 {n : Nat} (hn : 100 ≤ n) (σ : bS) : ∃ σ', m_clears n σ = some σ' ∧ frJ σ σ' ∧ σ'.1 = (uI (uI σ 0 7 ci_0) 0 31 ci_0).1 ∧ σ'.2.1 6 1 = 0 ∧ (σ'.2.1 12 1 = 0 ∧ σ'.2.1 13 1 = 0 ∧ σ'.2.1 17 1 = 0 ∧ σ'.2.1 20 1 = 0) ∧ (σ'.2.1 24 4 = -2 ∧ σ'.2.1 24 5 = 0 ∧ σ'.2.1 24 6 = 5 ∧ σ'.2.1 24 7 = 0) ∧ ∀ i, i < 14 → σ'.2.1 9 (14 + i) = -1 := by
  unfold m_clears
  rw [bin_1 _ (by decide) (by decide), bin_1 _ (by decide) (by decide), bin_1 _ (by decide) (by decide), bin_1 _ (by decide) (by decide), bin_1 _ (by decide) (by decide), ci_4_n, ci_5_n, cb_6_n, show cb_7 = nI 7 by decide, bin_nI (by omega) (by decide), bin_nI (by omega) (by decide), bin_nI (by omega) (by decide), bin_nI (by omega) (by decide)]
  obtain ⟨σ', a1, a2, a3, a4, a5⟩ := m_clr_l (n := n) n 0 (uA (uA (uA (uA (uA (uA (uA (uA (uA (uI (uI σ 0 7 ci_0) 0 31 ci_0) 6 ci_1 ci_0) 12 ci_1 ci_0) 13 ci_1 ci_0) 17 ci_1 ci_0) 20 ci_1 ci_0) 24 (nI 4) cb_m2) 24 (nI 5) ci_0) 24 (nI 6) (nI 5)) 24 (nI 7) ci_0) (by omega) (by omega) (fun i hi => by omega)
  refine ⟨σ', a1, ?_, a3, ?_, ⟨?_, ?_, ?_, ?_⟩, ⟨?_, ?_, ?_, ?_⟩, a2⟩
  · have f0 : frJ σ (uA (uA (uA (uA (uA (uA (uA (uA (uA (uI (uI σ 0 7 ci_0) 0 31 ci_0) 6 ci_1 ci_0) 12 ci_1 ci_0) 13 ci_1 ci_0) 17 ci_1 ci_0) 20 ci_1 ci_0) 24 (nI 4) cb_m2) 24 (nI 5) ci_0) 24 (nI 6) (nI 5)) 24 (nI 7) ci_0) := by
      have g1 : frJ σ (uI (uI σ 0 7 ci_0) 0 31 ci_0) := ⟨fun k hk => by rw [uI_1, if_neg (by omega), uI_1, if_neg (by omega)], fun _ _ => rfl, fun _ _ => rfl, fun _ _ _ => rfl⟩
      have g2 := g1.trans (frJ.uA (a := 6) (i := 1) (v := ci_0) (by omega) (by decide) (by omega))
      have g3 := (((g2.trans (frJ_uA1 (b := 12) (v := ci_0) (by omega))).trans (frJ_uA1 (b := 13) (v := ci_0) (by omega))).trans (frJ_uA1 (b := 17) (v := ci_0) (by omega))).trans (frJ_uA1 (b := 20) (v := ci_0) (by omega))
      exact (((g3.trans (frJ.uA (a := 24) (i := 4) (v := cb_m2) (by omega) (by decide) (by omega))).trans (frJ.uA (a := 24) (i := 5) (v := ci_0) (by omega) (by decide) (by omega))).trans (frJ.uA (a := 24) (i := 6) (v := nI 5) (by omega) (by decide) (by omega))).trans (frJ.uA (a := 24) (i := 7) (v := ci_0) (by omega) (by decide) (by omega))
    refine f0.trans ⟨fun k _ => by rw [a3], fun a ha => funext (fun j => a5 a j (by omega)), fun a _ => by rw [a4], fun a j hj => a5 a j ?_⟩
    rintro ⟨rfl, h⟩
    have : hlf 9 = 14 := by decide
    omega
  · rw [a5 6 1 (by omega)]; rfl
  · rw [a5 12 1 (by omega)]; rfl
  · rw [a5 13 1 (by omega)]; rfl
  · rw [a5 17 1 (by omega)]; rfl
  · rw [a5 20 1 (by omega)]; rfl
  · rw [a5 24 4 (by omega)]; rfl
  · rw [a5 24 5 (by omega)]; rfl
  · rw [a5 24 6 (by omega)]; rfl
  · rw [a5 24 7 (by omega)]; rfl
def tkT (by_ : Nat → Nat) (t cE : Nat) : tS := (kdN by_ t, plN by_ t, fun c => wdA by_ t (plN by_ t c), fun c => vlA by_ t (plN by_ t c), cE)
theorem plN_s {by_ : Nat → Nat} {t c : Nat} (h : 1 < kdN by_ t c) : plN by_ t c < plN by_ t (c + 1) := by
  have q1 := skB_in (by_ := by_) (atN_in (by_ := by_) (t := t) c)
  have lt : plN by_ t c < t := by
    rcases Nat.lt_or_ge (plN by_ t c) t with z | z
    · exact z
    · unfold kdN kdA at h
      rw [if_neg (by omega)] at h
      omega
  have q2 := ndA_in (by_ := by_) (t := t) (q := plN by_ t c) q1.2
  have q3 := skB_in (by_ := by_) (atN_in (by_ := by_) (t := t) (c + 1))
  have e : atN by_ t (c + 1) = ndA by_ t (plN by_ t c) := rfl
  have e2 : plN by_ t (c + 1) = skB by_ t (atN by_ t (c + 1)) := rfl
  have := q2.2 lt
  omega
theorem plN_lt {by_ : Nat → Nat} {t cE : Nat} (h : ∀ i, i < cE → 1 < kdN by_ t i) : ∀ (d i : Nat), i + d + 1 ≤ cE → plN by_ t i < plN by_ t (i + d + 1)
  | 0, i, hi => plN_s (h i (by omega))
  | d + 1, i, hi => Nat.lt_trans (plN_lt h d i (by omega)) (plN_s (h (i + d + 1) (by omega)))
theorem tk_ok {by_ : Nat → Nat} {t cE : Nat} (ht : t ≤ 2000) (h1 : cE ≤ 2000) (h2 : ∀ i, i < cE → 1 < kdN by_ t i) (h3 : kdN by_ t cE ≤ 1) : okT (tkT by_ t cE) := by
  have pl := fun c => skB_in (by_ := by_) (atN_in (by_ := by_) (t := t) c)
  refine ⟨fun j => kdA_in, h2, h3, fun i j hi hj => ?_, fun j => Nat.le_trans (pl j).2 ht, fun j hj => ?_, fun j hj => ?_, h1⟩
  · have := plN_lt h2 (j - i - 1) i (by show i + (j - i - 1) + 1 ≤ cE; have hj : j ≤ cE := hj; omega)
    rw [show i + (j - i - 1) + 1 = j by omega] at this
    exact this
  · obtain ⟨a, b, c⟩ := kdA_2 (show kdA by_ t (plN by_ t j) = 2 from hj)
    have e := eL_in (by_ := by_) (t := t) (q := plN by_ t j) (pl j).2
    exact ⟨wR_ok _ e.2.2, by show (wR by_ _ _).length ≤ 8; rw [wR_len]; exact c⟩
  · obtain ⟨a, b, c, d⟩ := kdA_3 (show kdA by_ t (plN by_ t j) = 3 from hj)
    have e := eD_in (by_ := by_) (t := t) (q := plN by_ t j) (pl j).2
    have v := iV_lt (by_ := by_) (p := plN by_ t j) _ e.2.2
    have p : 10 ^ (eD by_ t (plN by_ t j) - plN by_ t j) ≤ 10 ^ 4 := Nat.pow_le_pow_right (by omega) d
    show iV by_ (plN by_ t j) (eD by_ t (plN by_ t j) - plN by_ t j) ≤ 9999
    omega
def frRd (σ σ' : bS) : Prop := (∀ k, ¬ (k = 2 ∨ k = 7 ∨ k = 8 ∨ k = 9 ∨ k = 10 ∨ k = 11 ∨ k = 31 ∨ k = 35 ∨ k = 36 ∨ k = 38) → σ'.1 0 k = σ.1 0 k) ∧ (∀ a, ¬ (2 ≤ a ∧ a ≤ 28) → σ'.2.1 a = σ.2.1 a) ∧ ∀ a j, j < hlf a → σ'.2.1 a j = σ.2.1 a j
theorem frRd.ofJ {σ σ' : bS} (h : frJ σ σ') : frRd σ σ' := ⟨fun k hk => h.1 k (by omega), fun a ha => h.2.1 a (by omega), h.2.2.2⟩
theorem frRd.ofT {σ σ' : bS} (h : frT σ σ') : frRd σ σ' := ⟨fun k hk => h.1 k (by omega), fun a ha => h.2.1 a (by omega), fun a j hj => by
  rw [h.2.1 a]
  rintro (rfl | rfl | rfl)
  · exact absurd hj (Nat.not_lt_zero j)
  · exact absurd hj (Nat.not_lt_zero j)
  · exact absurd hj (Nat.not_lt_zero j)⟩
theorem frRd.trans {σ σ1 σ2 : bS} (h : frRd σ σ1) (g : frRd σ1 σ2) : frRd σ σ2 := ⟨fun k hk => (g.1 k hk).trans (h.1 k hk), fun a ha => (g.2.1 a ha).trans (h.2.1 a ha), fun a j hj => (g.2.2 a j hj).trans (h.2.2 a j hj)⟩
abbrev frCd (σ σ' : bS) : Prop := frC (fun a => (14 ≤ a ∧ a ≤ 24) ∨ (44 ≤ a ∧ a ≤ 49) ∨ (51 ≤ a ∧ a ≤ 53)) σ σ'
theorem pr_start {n t : Nat} {by_ : Nat → Nat} {σC σM : bS} (hn : 2200 ≤ n) (ht : t ≤ 2000) (hb : ∀ j, by_ j < 256) (hw : σC.2.2 50 = tkW) (hM0 : σM.1 0 0 = nI t) (hby : ∀ j, j < t → σM.2.1 1 j = nI (by_ j) ∧ σC.2.1 43 j = (nI (by_ j)).toInt8.toInt32) : ∃ s σ1 σ2 σ3, okT s ∧ cReader_begin_14_43 n (nI t) σC = some σ1 ∧ m_scanAll n σM = some σ2 ∧ m_clears n (uI (uI (uI σ2 0 8 ci_0) 0 9 ci_m1) 0 10 ci_0) = some σ3 ∧ PR s 0 none [] 0 0 0 0 0 0 σ1 σ3 ∧ frCd σC σ1 ∧ frRd σM σ3 ∧ σ3.1 0 8 = 0 ∧ σ3.1 0 9 = -1 := by
  -- the reference's TOKENS
  obtain ⟨cE, σ2, a1, a2, a3⟩ := m_scan_l (by_ := by_) (t := t) (n := n) (by omega) n 0 0 (uI σM 0 2 ci_0) ⟨ht, hb, by rw [uI_1, if_neg (by decide)]; exact hM0, fun j hj => (hby j hj).1⟩ (by rw [uI_1, if_pos ⟨rfl, rfl⟩]; rfl) (fun j hj => by omega) (by omega) rfl (by omega) (by omega)
  obtain ⟨k1, k2, k3, k4⟩ := a2
  have hT := tk_ok (by_ := by_) (t := t) ht k1 k2 k3
  -- the class's
  have em : cj_min n (nI t) cn_2000 (uI σC 49 4 ci_0) = some (nI t, uI σC 49 4 ci_0) := by
    unfold cj_min
    rw [cn_2000_n]
    rw [if_neg (show ¬ nI 2000 < nI t from fun u => by have := (nI_ltI (by omega) (by omega)).mp u; omega), cj_min_b10]
  obtain ⟨σ1, b1, b2, b3, b4⟩ := c_cut_l (by_ := by_) (t := t) (n := n) (by omega) n 0 (uI (uI σC 49 4 ci_0) 49 5 (nI t)) ⟨ht, hb, by rw [uI_1, if_pos ⟨rfl, rfl⟩], fun j hj => (hby j hj).2, hw⟩ (by rw [uI_1, if_neg (by decide), uI_1, if_pos ⟨rfl, rfl⟩]; rfl) (fun j hj => by omega) (by omega) (by omega)
  obtain ⟨σ4, c1, c2, ⟨c30, c31, c32, c33⟩, ⟨c4, c5, c6, c7, c8, c9, c10⟩, c11, c12, c13, c14⟩ := c_clear (n := n) (by omega) σ1
  obtain ⟨σ3, d1, d2, d3, d4, ⟨d5, d6, d7, d8⟩, ⟨d9, d10, d11, d12⟩, d13⟩ := m_clear0 (n := n) (by omega) (uI (uI (uI σ2 0 8 ci_0) 0 9 ci_m1) 0 10 ci_0)
  have j3 : frJ σ2 (uI (uI (uI σ2 0 8 ci_0) 0 9 ci_m1) 0 10 ci_0) := ⟨fun k hk => by rw [uI_1, if_neg (by omega), uI_1, if_neg (by omega), uI_1, if_neg (by omega)], fun _ _ => rfl, fun _ _ => rfl, fun _ _ _ => rfl⟩
  have fM : frRd σM σ3 := (frRd.trans (show frRd σM (uI σM 0 2 ci_0) from ⟨fun k hk => by rw [uI_1, if_neg (by omega)], fun _ _ => rfl, fun _ _ _ => rfl⟩) (frRd.ofT a3)).trans (frRd.ofJ (j3.trans d2))
  have tm : TMs (tkT by_ t cE) σ3 := TMs.frj (TMs.frj (fun j hj => k4 j hj) j3) d2
  have r3 : ∀ k, ¬ k = 7 → ¬ k = 31 → σ3.1 0 k = (uI (uI (uI σ2 0 8 ci_0) 0 9 ci_m1) 0 10 ci_0).1 0 k := fun k h1 h2 => by rw [d3, uI_1, if_neg (by omega), uI_1, if_neg (by omega)]
  have u44 : ∀ (τ : bS) (k : Nat) (v : Int32), frCd τ (uI τ 44 k v) := fun τ k v => frC.uI (Or.inr (Or.inl ⟨by omega, by omega⟩))
  have u49 : ∀ (τ : bS) (k : Nat) (v : Int32), frCd τ (uI τ 49 k v) := fun τ k v => frC.uI (Or.inr (Or.inl ⟨by omega, by omega⟩))
  have fC : frCd σC (uI (uI (uI (uI σ4 44 4 ci_0) 44 5 ci_0) 44 6 ci_0) 44 11 ci_0) := ((((((((u49 σC 4 ci_0).trans (u49 _ 5 (nI t))).trans (b4.mono (fun a ha => by omega))).trans (c2.mono (fun a ha => by omega))).trans (u44 _ 4 ci_0)).trans (u44 _ 5 ci_0)).trans (u44 _ 6 ci_0)).trans (u44 _ 11 ci_0))
  have e14 : (uI (uI (uI (uI σ4 44 4 ci_0) 44 5 ci_0) 44 6 ci_0) 44 11 ci_0).1 14 = σ4.1 14 := by
    funext j
    rw [uI_1, if_neg (by omega), uI_1, if_neg (by omega), uI_1, if_neg (by omega), uI_1, if_neg (by omega)]
  refine ⟨tkT by_ t cE, uI (uI (uI (uI σ4 44 4 ci_0) 44 5 ci_0) 44 6 ci_0) 44 11 ci_0, σ2, σ3, hT, ?_, a1, d1, ⟨⟨⟨⟨⟨fun j h1 h2 => ?_, rfl, by omega, Nat.zero_le _⟩, rfl⟩, ⟨tm, ?_, by omega, Nat.zero_le _⟩⟩, ⟨?_, Nat.le_refl _, d4, Nat.le_refl _⟩, ⟨fun f j e => (by cases e), (show (uI (uI (uI (uI σ4 44 4 ci_0) 44 5 ci_0) 44 6 ci_0) 44 11 ci_0).1 44 6 = nI 0 from rfl), ?_⟩, fun i hi => (by cases hi), ⟨rfl, fun i hi => (by cases hi)⟩, ⟨?_, fun i hi => (by cases hi)⟩⟩, ⟨⟨rfl, fun i hi => (by cases hi)⟩, ⟨by omega, by omega, by omega, by omega⟩, ⟨?_, ?_, ?_, ?_⟩, ⟨d5, d6, d7, d8⟩⟩, fun _ => ⟨⟨[], rfl, fun q hq => (by cases hq), fun j hj => by omega, fun x y hx hy => c12 _ (by omega)⟩, fun b hb => by omega, fun m hm => by omega, ⟨⟨Or.inl ?_, ?_⟩, ⟨0, by omega, ?_, d10⟩, ?_, ?_⟩, fun k hk => Or.inl ⟨?_, d13 k hk⟩⟩⟩, fC, fM, ?_, ?_⟩
  · unfold cReader_begin_14_43 cTokens_cut_43
    rw [em, ob_def]
    show (ob (cTokens_cut_43_b20 n n (nI (atN by_ t 0)) (nI 0) (uI (uI σC 49 4 ci_0) 49 5 (nI t))) fun q1 => _) = _
    rw [b1, ob_def, c1, ob_def]
  · have q := b3 j h1 (fun i hi => k2 i (by have h2 : j ≤ cE := h2; omega))
    show σ4.2.1 51 j = _ ∧ σ4.2.1 53 j = _ ∧ (_ → σ4.2.2 52 j = _) ∧ (_ → σ4.2.2 52 j = _)
    rw [(c2 51 (by decide)).2.1, (c2 53 (by decide)).2.1, (c2 52 (by decide)).2.2]
    exact q
  · rw [d3]; rfl
  · show (uI (uI (uI (uI σ4 44 4 ci_0) 44 5 ci_0) 44 6 ci_0) 44 11 ci_0).1 23 3 = _
    rw [uI_1, if_neg (by omega), uI_1, if_neg (by omega), uI_1, if_neg (by omega), uI_1, if_neg (by omega)]
    exact c11
  · show σ3.1 0 10 = _
    rw [r3 10 (by omega) (by omega)]; rfl
  · rw [d3]; rfl
  · rw [e14]; exact c30
  · rw [e14]; exact c31
  · rw [e14]; exact c32
  · rw [e14]; exact c33
  · rw [e14]; exact c7
  · rw [e14, c7, d9]; decide
  · rw [e14]; exact c8
  · rw [e14, c9, d11]
  · rw [e14, c10, d12]
  · unfold cellL
    split
    · exact c13 k (by omega)
    split
    · exact c14 _ (by omega)
    · rw [e14]
      have : k = 11 ∨ k = 12 ∨ k = 13 := by omega
      rcases this with rfl | rfl | rfl
      · exact c4
      · exact c5
      · exact c6
  · rw [r3 8 (by omega) (by omega)]; rfl
  · rw [r3 9 (by omega) (by omega)]; rfl
