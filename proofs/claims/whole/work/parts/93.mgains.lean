/-! gains of a whole row: the reference -/
def gY (T : aT) (D : aG) (m : Nat) : Int32 := if D 5 m = nI (tHome T m) then 1 else 0
/-- how it is when the row of s, those of z late, has gone -/
def rwE (T : aT) (L : aL) (G : aG) (b h s z : Nat) : aG := rwG T L b h (fun q => (rowL 7 s z).getD q 0) G (rowL 7 s z).length
/-- what a man gains -/
def gn (T : aT) (L : aL) (G : aG) (b h s z m : Nat) : Int32 := sGain T L G m ((rowL 7 s z).idxOf m) h (gY T (rwE T L G b h s z) m)
theorem rowL_idx {s z q : Nat} (h : q < (rowL 7 s z).length) : (rowL 7 s z).idxOf ((rowL 7 s z).getD q 0) = q := by
  rw [getD_get h]
  exact List.Nodup.idxOf_getElem (rowL_nodup 7 s z) q h
theorem rowL_row7 {T : aT} {L : aL} {i b s z : Nat} {G : aG} (hI : InvT T L) (hi : InvG T i G) (hb : b < tG T) (hs : s < 2 ^ tM T) (hf : ∀ m, s.testBit m = true → m < tM T ∧ G 5 m = nI (tFoot T b)) : isRow T G b (rowL 7 s z).length (fun q => (rowL 7 s z).getD q 0) := by
  have e : rowL 7 s z = rowL (tM T) s z := rowL_top hs hI.2.2.2.1
  rw [e]
  exact rowL_row hI hi hb hf
theorem gY_01 (T : aT) (D : aG) (m : Nat) : gY T D m = 0 ∨ gY T D m = 1 := by
  unfold gY
  split
  · exact Or.inr rfl
  · exact Or.inl rfl
theorem m_gain_eq {T : aT} {L : aL} {i n m p h b : Nat} {G D : aG} {σ : bS} (hn : 1000 ≤ n) (hI : InvT T L) (hT : MTx T L σ) (hG : MG T 0 G σ) (hD : MG T 48 D σ) (hi : InvG T i D) (hw : σ.1 0 40 = nI 48) (hm : m < tM T) (hp : p ≤ 7) (hat : G 5 m = nI (tFoot T b)) (h42 : σ.2.1 42 m = nI ((h + p) % 24)) : ∃ σ', m_gainOf n (nI m) (nI p) (nI (tFoot T b)) σ = some (sGain T L G m p h (gY T D m), σ') ∧ frM sc46 sc31 σ σ' := by
  have hM := hI.2.2.2.1
  have e42 : sA σ 42 (nI m) = nI ((h + p) % 24) := (sA_n _ _ (by omega)).trans h42
  have e8 : σ.2.1 29 (26 + m) = G 8 m := by
    have := (hG.2.2 m hm).2.2.2.1
    rwa [show 0 + 26 + m = 26 + m by omega] at this
  have e7 : σ.2.1 29 (19 + m) = G 7 m := by
    have := (hG.2.2 m hm).2.2.1
    rwa [show 0 + 19 + m = 19 + m by omega] at this
  obtain ⟨σ1, s1⟩ : ∃ q, q = uA (uA σ 31 (nI 0) (nI ((h + p) % 24))) 31 (nI 1) (nI 0) := ⟨_, rfl⟩
  have r1 : sA σ1 29 (nI (26 + m)) = G 8 m := by
    rw [sA_n _ _ (by omega), s1, uA_o _ _ _ _ (by decide), uA_o _ _ _ _ (by decide)]
    exact e8
  obtain ⟨σ2, s2⟩ : ∃ q, q = uA σ1 31 (nI 2) (G 8 m) := ⟨_, rfl⟩
  have r2 : sA σ2 29 (nI (19 + m)) = G 7 m := by
    rw [sA_n _ _ (by omega), s2, s1, uA_o _ _ _ _ (by decide), uA_o _ _ _ _ (by decide), uA_o _ _ _ _ (by decide)]
    exact e7
  obtain ⟨σ3, s3⟩ : ∃ q, q = uA σ2 31 (nI 3) (G 7 m) := ⟨_, rfl⟩
  have f3 : frM sc46 sc31 σ σ3 := by
    rw [s3, s2, s1]
    exact frMaA (frMaA (frMaA (frMaA frM.rf (Or.inl rfl)) (Or.inl rfl)) (Or.inl rfl)) (Or.inl rfl)
  have v3 : ∀ k, k < 4 → σ3.2.1 31 k = gv T G m p h (gY T D m) k := fun k hk => by
    rw [s3, s2, s1, uA_2, uA_2, uA_2, uA_2, nI_clamp (by decide), nI_clamp (by decide), nI_clamp (by decide), nI_clamp (by decide)]
    have hc : k = 0 ∨ k = 1 ∨ k = 2 ∨ k = 3 := by omega
    rcases hc with rfl | rfl | rfl | rfl <;> rfl
  have w3 : σ3.1 0 40 = nI 48 := (f3.1 40 (by decide)).trans hw
  have hh := m_isHome_eq (n := n) hI (hT.scr f3) (hD.scr f3) hi w3 (by omega) hm
  obtain ⟨σ4, c1, c2⟩ := m_gain67 (n := n) (y := gY T D m) hn hI (hT.scr f3) hp (gY_01 T D m) hat v3
  refine ⟨σ4, ?_, f3.trans c2⟩
  unfold m_gainOf
  rw [e42, ci0_nI, ci1_nI, ci_2_n, ci_3_n, cb_26_n, cb_19_n, nI_add, nI_add, ← s1, r1, ← s2, r2, ← s3, hh, ob_def]
  rw [bin_nI (by omega) (by decide), bin_nI (by decide) (by decide), bin_nI (by decide) (by decide), bin_nI (by omega) (by decide), bin_nI (by decide) (by decide), bin_nI (by omega) (by decide), bin_nI (by decide) (by decide), ← c1]
  unfold gY
  by_cases z : D 5 m = nI (tHome T m)
  · rw [if_pos z]
    simp only [if_neg one_ne]
    rfl
  · rw [if_neg z]
    simp only [if_true]
    rfl
abbrev sc41 : Nat → Prop := fun a => a = 31 ∨ a = 32 ∨ a = 41
theorem m_gains_l {T : aT} {L : aL} {i n h b c : Nat} {G D : aG} {R : Nat → Nat} (hn : 1000 ≤ n) (hI : InvT T L) (hi : InvG T i D) (hb : b < tG T) (hc : c ≤ 7) (hr : isRow T G b c R) : ∀ (k q : Nat) (σ : bS), MTx T L σ → MG T 0 G σ → MG T 48 D σ → σ.1 0 40 = nI 48 → σ.1 0 49 = nI c → (∀ p, p < c → σ.2.1 34 p = nI (R p)) → (∀ p, p < c → σ.2.1 42 (R p) = nI ((h + p) % 24)) → (∀ p, p < q → σ.2.1 41 (R p) = sGain T L G (R p) p h (gY T D (R p))) → q ≤ c → c < q + k → ∃ σ', m_laysGains_b56 n k (nI b) (nI q) σ = some σ' ∧ (∀ p, p < c → σ'.2.1 41 (R p) = sGain T L G (R p) p h (gY T D (R p))) ∧ frM sc46 sc41 σ σ'
  | 0, q, σ, hT, hG, hD, hw, h49, h34, h42, h41, h1, h2 => by omega
  | k + 1, q, σ, hT, hG, hD, hw, h49, h34, h42, h41, h1, h2 => by
    have hM := hI.2.2.2.1
    have hGG := hI.2.2.1
    have e49 : sI σ 0 49 = nI c := h49
    rw [m_laysGains_b56, e49]
    by_cases hq : q < c
    · have hm := (hr.1 q hq).1
      have e34 : sA σ 34 (nI q) = nI (R q) := (sA_n _ _ (by omega)).trans (h34 q hq)
      have e18 : sA σ 18 (nI b) = nI (tFoot T b) := (sA_n _ _ (by omega)).trans (hT.2.2.1 b hb)
      obtain ⟨σ1, c1, c2⟩ := m_gain_eq (n := n) (p := q) hn hI hT hG hD hi hw hm (by omega) (hr.1 q hq).2.1 (h42 q hq)
      rw [if_neg (nI_ge hq (by omega)), bin_nI (by omega) (by decide), bin_nI (by omega) (by decide), bin_nI (by omega) (by decide), e34, e18, c1, ob_def, bin_nI (by omega) (by decide), ci1_nI, nI_add]
      have f1 : frM sc46 sc41 σ (uA σ1 41 (nI (R q)) (sGain T L G (R q) q h (gY T D (R q)))) := frMaA (c2.mono (fun _ z => z) (fun a z => by unfold sc41; unfold sc31 at z; omega)) (Or.inr (Or.inr rfl))
      have g29 : (uA σ1 41 (nI (R q)) (sGain T L G (R q) q h (gY T D (R q)))).2.1 29 = σ.2.1 29 := f1.2.1 29 (by decide)
      obtain ⟨σ2, d1, d2, d3⟩ := m_gains_l hn hI hi hb hc hr k (q + 1) (uA σ1 41 (nI (R q)) (sGain T L G (R q) q h (gY T D (R q)))) (hT.of (fun a x y => f1.2.1 a (by unfold sc41; omega))) (by unfold MG; rw [g29]; exact hG) (by unfold MG; rw [g29]; exact hD) ((f1.1 40 (by decide)).trans hw) ((f1.1 49 (by decide)).trans h49) (fun p hp => by rw [f1.2.1 34 (by decide)]; exact h34 p hp) (fun p hp => by rw [f1.2.1 42 (by decide)]; exact h42 p hp) (fun p hp => by
        rw [uA_2, nI_clamp (by omega), c2.2.1 41 (by decide)]
        by_cases z : p = q
        · subst z
          rw [if_pos ⟨rfl, rfl⟩]
        · rw [if_neg (fun y => hr.2 p q (by omega) hq y.2)]
          exact h41 p (by omega)) hq (by omega)
      exact ⟨σ2, d1, d2, f1.trans d3⟩
    · have e : q = c := by omega
      subst e
      rw [if_pos (Int32.le_refl _)]
      exact ⟨σ, rfl, h41, frM.rf⟩
theorem m_hours_l {T : aT} {n h b c : Nat} {G : aG} {R : Nat → Nat} (hc : c ≤ 7) (hh : h + 20 ≤ 170000) (hM : tM T ≤ 7) (hr : isRow T G b c R) : ∀ (k q : Nat) (σ : bS), σ.2.1 29 0 = nI h → σ.1 0 49 = nI c → (∀ p, p < c → σ.2.1 34 p = nI (R p)) → (∀ p, p < q → σ.2.1 42 (R p) = nI ((h + p) % 24)) → q ≤ c → c < q + k → ∃ σ', m_laysGains_b9 n k (nI b) (nI q) σ = (ob (m_rowGoes n (nI b) σ') fun q2 => m_laysGains_b56 n n (nI b) ci_0 q2) ∧ (∀ p, p < c → σ'.2.1 42 (R p) = nI ((h + p) % 24)) ∧ frM (fun _ => False) (fun a => a = 42) σ σ'
  | 0, q, σ, h29, h49, h34, h42, h1, h2 => by omega
  | k + 1, q, σ, h29, h49, h34, h42, h1, h2 => by
    have e49 : sI σ 0 49 = nI c := h49
    rw [m_laysGains_b9, e49]
    by_cases hq : q < c
    · have hm := (hr.1 q hq).1
      have e34 : sA σ 34 (nI q) = nI (R q) := (sA_n _ _ (by omega)).trans (h34 q hq)
      have e29 : sA σ 29 ci_0 = nI h := (sA_c0 _ _).trans h29
      rw [if_neg (nI_ge hq (by omega)), bin_nI (by omega) (by decide), bin_c0 (by decide) (by decide), if_neg (show ¬ cb_24 = 0 by decide), e34, e29, nI_add, cb_24_n, brem_n (by omega) (by decide) (by decide), bin_nI (by omega) (by decide), ci1_nI, nI_add]
      have f1 : frM (fun _ => False) (fun a => a = 42) σ (uA σ 42 (nI (R q)) (nI ((h + q) % 24))) := frM.uA rfl
      obtain ⟨σ2, d1, d2, d3⟩ := m_hours_l (n := n) (b := b) hc hh hM hr k (q + 1) (uA σ 42 (nI (R q)) (nI ((h + q) % 24))) h29 h49 h34 (fun p hp => by
        rw [uA_2, nI_clamp (by omega)]
        by_cases z : p = q
        · subst z
          rw [if_pos ⟨rfl, rfl⟩]
        · rw [if_neg (fun y => hr.2 p q (by omega) hq y.2)]
          exact h42 p (by omega)) hq (by omega)
      exact ⟨σ2, d1, d2, f1.trans d3⟩
    · have e : q = c := by omega
      subst e
      rw [if_pos (Int32.le_refl _)]
      exact ⟨σ, rfl, h42, frM.rf⟩
theorem m_gains {T : aT} {L : aL} {n b h s z : Nat} {G : aG} {σ : bS} (hn : 1000 ≤ n) (hI : InvT T L) (hT : MTx T L σ) (hG : MG T 0 G σ) (hi : InvG T 5000 G) (hh : G 0 0 = nI h) (hx : h + 20 ≤ 170000) (hb : b < tG T) (hs : s < 2 ^ tM T) (hz : z < 2 ^ 31) (hf : ∀ m, s.testBit m = true → m < tM T ∧ G 5 m = nI (tFoot T b)) : ∃ σ', m_laysGains n (nI b) (nI s) (nI z) σ = some σ' ∧ (∀ m, s.testBit m = true → σ'.2.1 41 m = gn T L G b h s z m) ∧ σ'.1 0 49 = nI (rowL 7 s z).length ∧ (∀ q, q < (rowL 7 s z).length → σ'.2.1 34 q = nI ((rowL 7 s z).getD q 0)) ∧ frQ σ σ' ∧ MTx T L σ' ∧ MG T 0 G σ' := by
  have hM := hI.2.2.2.1
  have h7 : (2 : Nat) ^ tM T ≤ 2 ^ 7 := Nat.pow_le_pow_right (by decide) hM
  have hT7 : tG T ≤ 4 ∧ tM T ≤ 7 := ⟨hI.2.2.1, hM⟩
  have hr := rowL_row7 (z := z) hI hi hb hs hf
  have hc := rowL_len (M := 7) (s := s) (z := z) (by omega)
  obtain ⟨σ1, a1, a2, a3, a4⟩ := m_lays_row (n := n) (z := z) (by omega) hM (show s < 2 ^ 31 by omega) hz hT.1.2.2.2
  rw [← rowL_top hs hM] at a2
  obtain ⟨σ2, b1, b2, b3⟩ := m_hours_l (n := n) (h := h) (R := fun q => (rowL 7 s z).getD q 0) hc hx hM hr n 0 σ1 (by rw [a4.2.1 29 (by decide)]; exact hG.1.1.trans hh) a2.1 (fun p hp => (a2.2 p hp).1) (fun p hp => by omega) (by omega) (by omega)
  have q1 : frQ σ σ1 := frQ.ofM a4 (fun k z => by unfold scrI; omega) (fun a z => by unfold scrA; omega)
  have q2 : frQ σ1 σ2 := frQ.ofM b3 (fun k z => z.elim) (fun a z => by unfold scrA; omega)
  have q12 := q1.trans q2
  have hT2 : MTx T L σ2 := hT.of (fun a x y => q12.2.1 a (by unfold scrA; omega))
  have hG2 : MG T 0 G σ2 := hG.of hT7 (fun j x y => q12.2.2 j (by omega))
  obtain ⟨σ3, c1, c2, c3, c4, c5, c6⟩ := m_row (n := n) hn hI hT2 hG2 hi hh hb hc hr hx ((b3.1 49 (fun z => z)).trans a2.1) ((b3.1 53 (fun z => z)).trans a3) (fun q hq => by rw [b3.2.1 34 (by decide)]; exact (a2.2 q hq).1) (fun q hq => by rw [b3.2.1 35 (by decide)]; exact (a2.2 q hq).2)
  have q3 := q12.trans c6
  have hT3 : MTx T L σ3 := hT.of (fun a x y => q3.2.1 a (by unfold scrA; omega))
  have hG3 : MG T 0 G σ3 := hG.of hT7 (fun j x y => q3.2.2 j (by omega))
  have i3 := rwG_inv (h := h) (L := L) (R := fun q => (rowL 7 s z).getD q 0) hI hi hb (rowL 7 s z).length (fun q hq => (hr.1 q hq).1) (by omega)
  have e49 : σ3.1 0 49 = nI (rowL 7 s z).length := (c4 49 (by decide)).trans ((b3.1 49 (fun z => z)).trans a2.1)
  have e34 : ∀ q, q < (rowL 7 s z).length → σ3.2.1 34 q = nI ((rowL 7 s z).getD q 0) := fun q hq => by
    rw [c5 34 (by decide), b3.2.1 34 (by decide)]
    exact (a2.2 q hq).1
  obtain ⟨σ4, d1, d2, d3⟩ := m_gains_l (n := n) (h := h) hn hI i3 hb hc hr n 0 σ3 hT3 hG3 c2 c3 e49 e34 (fun p hp => by rw [c5 42 (by decide)]; exact b2 p hp) (fun p hp => by omega) (by omega) (by omega)
  have q4 := q3.trans (frQ.ofM d3 (fun k z => by unfold scrI; unfold sc46 at z; omega) (fun a z => by unfold scrA; unfold sc41 at z; omega))
  refine ⟨σ4, ?_, fun m hm => ?_, (d3.1 49 (by decide)).trans e49, fun q hq => by rw [d3.2.1 34 (by decide)]; exact e34 q hq, q4, hT.of (fun a x y => q4.2.1 a (by unfold scrA; omega)), hG.of hT7 (fun j x y => q4.2.2 j (by omega))⟩
  · unfold m_laysGains
    rw [a1, ob_def]
    rw [show m_laysGains_b9 n n (nI b) ci_0 σ1 = _ from b1, c1, ob_def]
    exact d1
  · obtain ⟨q, hq, e⟩ := mem_getD (rowL_mem (M := 7) (z := z) (by have := (hf m hm).1; omega) hm)
    have e2 := d2 q hq
    have e3 := rowL_idx hq
    rw [e] at e3
    simp only [e] at e2
    rw [e2]
    unfold gn
    rw [e3]
    rfl
