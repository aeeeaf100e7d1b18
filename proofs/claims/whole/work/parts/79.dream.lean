/-! sets as bits -/
theorem nI_or {a b : Nat} : nI a ||| nI b = nI (a ||| b) := by
  apply Int32.toBitVec_inj.mp
  apply BitVec.eq_of_toNat_eq
  show (BitVec.ofNat 32 a ||| BitVec.ofNat 32 b).toNat = (BitVec.ofNat 32 (a ||| b)).toNat
  rw [BitVec.toNat_or, BitVec.toNat_ofNat, BitVec.toNat_ofNat, BitVec.toNat_ofNat, Nat.or_mod_two_pow]
theorem nI_and {a b : Nat} : nI a &&& nI b = nI (a &&& b) := by
  apply Int32.toBitVec_inj.mp
  apply BitVec.eq_of_toNat_eq
  show (BitVec.ofNat 32 a &&& BitVec.ofNat 32 b).toNat = (BitVec.ofNat 32 (a &&& b)).toNat
  rw [BitVec.toNat_and, BitVec.toNat_ofNat, BitVec.toNat_ofNat, BitVec.toNat_ofNat, Nat.and_mod_two_pow]
theorem one_shl {k : Nat} (hk : k ≤ 7) : (1 : Int32) <<< (nI k &&& 31) = nI (2 ^ k) := by
  have hc : k = 0 ∨ k = 1 ∨ k = 2 ∨ k = 3 ∨ k = 4 ∨ k = 5 ∨ k = 6 ∨ k = 7 := by omega
  rcases hc with rfl | rfl | rfl | rfl | rfl | rfl | rfl | rfl <;> decide
def bn (P : Nat → Prop) [DecidablePred P] : Nat → Nat
  | 0 => 0
  | n + 1 => if P n then bn P n + 2 ^ n else bn P n
theorem bn_lt (P : Nat → Prop) [DecidablePred P] : ∀ n, bn P n < 2 ^ n
  | 0 => Nat.one_pos
  | n + 1 => by
    have ih := bn_lt P n
    unfold bn
    rw [Nat.pow_succ]
    split <;> omega
theorem bits_bn (P : Nat → Prop) [DecidablePred P] : ∀ n, n ≤ 8 → bitsOf P n = nI (bn P n)
  | 0, _ => rfl
  | n + 1, h => by
    rw [bitsOf, bn, bits_bn P n (by omega), one_shl (by omega)]
    split
    · rw [nI_or]
      congr 1
      have e := Nat.two_pow_add_eq_or_of_lt (bn_lt P n) 1
      rw [Nat.mul_one] at e
      rw [Nat.or_comm, ← e, Nat.add_comm]
    · rfl
theorem bn_bit (P : Nat → Prop) [DecidablePred P] {m : Nat} : ∀ n, m < n → ((bn P n).testBit m = true ↔ P m)
  | 0, h => by omega
  | n + 1, h => by
    rw [bn]
    by_cases e : m = n
    · subst e
      have hl := bn_lt P m
      by_cases p : P m
      · rw [if_pos p, Nat.add_comm, Nat.testBit_two_pow_add_eq, Nat.testBit_lt_two_pow hl]
        simp [p]
      · rw [if_neg p, Nat.testBit_lt_two_pow hl]
        simp [p]
    · have ih := bn_bit P (m := m) n (by omega)
      by_cases p : P n
      · rw [if_pos p, Nat.add_comm, Nat.testBit_two_pow_add_gt (by omega)]
        exact ih
      · rw [if_neg p]
        exact ih
theorem and_2p (a m : Nat) : (a &&& 2 ^ m) = 2 ^ m ↔ a.testBit m = true := by
  constructor
  · intro h
    have e : (a &&& 2 ^ m).testBit m = (2 ^ m).testBit m := by rw [h]
    rw [Nat.testBit_and, Nat.testBit_two_pow_self, Bool.and_true] at e
    exact e
  · intro h
    apply Nat.eq_of_testBit_eq
    intro j
    rw [Nat.testBit_and, Nat.testBit_two_pow]
    by_cases e : m = j
    · subst e
      simp [h]
    · simp [e]
theorem bits_at (P : Nat → Prop) [DecidablePred P] {m n : Nat} (hn : n ≤ 7) (hm : m < n) : (bitsOf P n &&& (ci_1 <<< (nI m &&& 31))) = (ci_1 <<< (nI m &&& 31)) ↔ P m := by
  have h8 : (2 : Nat) ^ m ≤ 2 ^ 7 := Nat.pow_le_pow_right (by decide) (by omega)
  have h9 : bn P n &&& 2 ^ m ≤ 2 ^ m := Nat.and_le_right
  rw [ci1_1, one_shl (by omega), bits_bn P n (by omega), nI_and, nI_eq (by omega) (by omega), and_2p]
  exact bn_bit P n hm
theorem bits_all (P : Nat → Prop) [DecidablePred P] {n : Nat} (hn : n ≤ 7) : (bitsOf P n &&& ((ci_1 <<< (nI n &&& 31)) - ci_1)) = bitsOf P n := by
  have hl := bn_lt P n
  have h0 : 0 < (2 : Nat) ^ n := Nat.two_pow_pos n
  rw [ci1_1, one_shl hn, bits_bn P n (by omega), show (1 : Int32) = nI 1 from rfl, nI_sub h0, nI_and, Nat.and_two_pow_sub_one_eq_mod, Nat.mod_eq_of_lt hl]
/-! dreams -/
abbrev DrB (i : Nat) (T : aT) (L : aL) (G D : aG) (σC σM : bS) : Prop := RelB i T L G σC σM ∧ CG 35 D σC ∧ MG T 48 D σM ∧ σM.1 0 40 = nI 48 ∧ InvG T 5000 D
theorem DrB.start {i n n1 : Nat} {T : aT} {L : aL} {G : aG} {σC σM : bS} (hn : 60 ≤ n1) (hi : i ≤ 5000) (H : RelB i T L G σC σM) : ∃ σC' σM', cGoing_copyFrom_d_27 n σC = some σC' ∧ m_tries n1 σM = some σM' ∧ DrB i T L G G σC' σM' := by
  obtain ⟨σM1, m1, m1g, m1w, m1f, m1o⟩ := m_tries_eq (T := T) (n := n1) hn ⟨H.1.2.2.1, H.1.2.2.2.1⟩ H.2.2.2.2.1
  exact ⟨drm G σC, σM1, drm_eq H.2.2.2.1, m1, H.q (drm_fr.mono (fun a z => by unfold scrC; omega)) m1f, drm_cg H.2.2.2.1, m1g, m1w, H.2.2.2.2.2.1.mono hi⟩
theorem DrB.rule {i n n1 h : Nat} {x : Int32} {T : aT} {L : aL} {G D : aG} {σC σM : bS} (hn : 1000 ≤ n) (hn1 : 1000 ≤ n1) (H : DrB i T L G D σC σM) (hh2 : D 0 0 = nI h) (hj : h + 1 ≤ 170000) : ∃ σC' σM', cGoing_ruleHour_d n x σC = some σC' ∧ m_ruleGoes n1 x σM = some σM' ∧ DrB i T L G (sRule T L h x D) σC' σM' := by
  obtain ⟨σC1, c1, c2, c3, c4, c5⟩ := c_rule_d (x := x) (n := n) (by omega) H.1.1 H.1.2.1 H.2.1 H.2.2.2.2 (by omega) hh2
  obtain ⟨σM1, m1, m2, m3⟩ := m_rule_eq (x := x) (w := 48) hn1 H.1.1 H.1.2.2.1 H.2.2.1 H.2.2.2.2 H.2.2.2.1 (by omega) (by omega) hh2
  exact ⟨σC1, σM1, c1, m1, H.1.q (c3.mono scG35) (frQ.ofS48 m3 (by omega) (by omega)), c2, m2, (m3.1 40 (by decide)).trans H.2.2.2.1, sRule_inv H.1.1 c4 (by omega)⟩
theorem sRule_h {T : aT} {L : aL} {h : Nat} {x : Int32} {D : aG} : sRule T L h x D 0 0 = nI (h + 1) := rfl
theorem dream_l {n n1 i c : Nat} {T : aT} {L : aL} {G : aG} (hn : 1000 ≤ n) (hn1 : 1000 ≤ n1) (hc : c ≤ 300) : ∀ (k j h : Nat) (D : aG) (σC σM : bS), DrB i T L G D σC σM → D 0 0 = nI h → h + (c - j) ≤ 170000 → j ≤ c → c < j + k → ∃ (D' : aG) (σC' σM' : bS), cTop_dreamHours_b13 n k (nI c) (nI j) σC = some σC' ∧ m_rulesGo_b2 n1 k (nI c) (nI j) σM = some σM' ∧ DrB i T L G D' σC' σM'
  | 0, j, h, D, σC, σM, H, hh, h1, h2, h3 => by omega
  | k + 1, j, h, D, σC, σM, H, hh, h1, h2, h3 => by
    rw [cTop_dreamHours_b13, m_rulesGo_b2]
    by_cases hj : j < c
    · obtain ⟨σC1, σM1, c1, m1, H1⟩ := DrB.rule (x := ci_m1) hn hn1 H hh (by omega)
      rw [if_neg (nI_ge hj (by omega)), if_neg (nI_ge hj (by omega)), c1, m1, ob_def, ob_def, ci1_nI, nI_add]
      exact dream_l hn hn1 hc k (j + 1) (h + 1) _ σC1 σM1 H1 rfl (by omega) hj (by omega)
    · have e : j = c := by omega
      subst e
      rw [if_pos (Int32.le_refl _), if_pos (Int32.le_refl _)]
      exact ⟨D, σC, σM, rfl, rfl, H⟩
theorem dream {i c : Nat} {T : aT} {L : aL} {G : aG} {σC σM : bS} (hi : i ≤ 3072) (hc : c ≤ 300) (H : RelB i T L G σC σM) : ∃ (D : aG) (σC1 σM0 σM1 : bS), cTop_dreamHours 1000 (nI c) σC = some σC1 ∧ m_tries 1000 σM = some σM0 ∧ m_rulesGo 1000 (nI c) σM0 = some σM1 ∧ DrB i T L G D σC1 σM1 := by
  obtain ⟨hr, r1, r2, r3⟩ := Rel.hour H.2.2.2.2.2.1 hi
  obtain ⟨σC1, σM1, c1, m1, H1⟩ := DrB.start (n := 1000) (n1 := 1000) (by omega) (by omega) H
  obtain ⟨D, σC2, σM2, c2, m2, H2⟩ := dream_l (n := 1000) (n1 := 1000) (c := c) (by omega) (by omega) hc 1000 0 hr G σC1 σM1 H1 r2 (by omega) (by omega) (by omega)
  refine ⟨D, σC2, σM1, σM2, ?_, m1, m2, H2⟩
  unfold cTop_dreamHours
  rw [c1, ob_def]
  exact c2
theorem c_far1 {n c : Nat} {σ : bS} (hc : c ≤ 300) : cTop_isFar n (nI c) σ = some (1, σ) := by
  unfold cTop_isFar cTop_isFar_b16
  rw [if_neg (nI_pos (by omega)), cs_300_n, if_neg (fun z => by have := (nI_ltI (by omega) (by omega)).mp z; omega)]
  rfl
theorem c_far0 {n : Nat} {x : Int32} {σ : bS} (hx : x < 0 ∨ nI 300 < x) : cTop_isFar n x σ = some (0, σ) := by
  unfold cTop_isFar
  by_cases z : x < 0
  · rw [if_pos z]; rfl
  · rw [if_neg z, cs_300_n, if_pos (hx.resolve_left z)]; rfl
theorem m_far1 {n c : Nat} {σ : bS} (hc : c ≤ 300) : m_isIn n (nI c) ci_0 cs_300 σ = some (1, σ) := by
  rw [cs_300_n]
  exact m_isIn1 (a := 0) (b := 300) (by omega) hc (by decide)
theorem m_far0 {n : Nat} {x : Int32} {σ : bS} (hx : x < 0 ∨ nI 300 < x) : m_isIn n x ci_0 cs_300 σ = some (0, σ) := by
  rw [cs_300_n, ci0_0]
  exact m_isIn0 hx
theorem sim_where {i : Nat} {σC σM : bS} (hi : i ≤ 3072) (h : Rel i σC σM) (x y : Int32) : Sim_where (Rel (i + 6)) x y σC σM := by
  have hrel := h
  obtain ⟨T, L, G, H0⟩ := h
  have H : RelB i T L G σC σM := H0
  have h2 := H.2.1
  have h3 := H.2.2.1
  have hM := H.1.2.2.2.1
  have hGG := H.1.2.2.1
  rcases ncases (tM T) (by omega) x with ⟨m, hm, rfl⟩ | hx
  · rcases kcases 300 (by decide) y with ⟨c, hc, rfl⟩ | hy
    · obtain ⟨D, σC1, σM0, σM1, c1, m0, m1, H1⟩ := dream hi hc H
      have e1 : sA σC1 38 (nI m) = D 5 m := (sA_n _ _ (by omega)).trans (H1.2.1.2.2 m (by omega)).1
      have e2 : sA σM1 29 (nI (48 + 5 + m)) = md (D 5 m) := (sA_n _ _ (by omega)).trans (H1.2.2.1.2.2 m hm).1
      have e3 : sI σM1 0 40 = nI 48 := H1.2.2.2.1
      refine ⟨1000, 1000, md (D 5 m), σC1, σM1, ?_, ?_, (RelB.rel H1.1).mono (by omega)⟩
      · unfold cTop_where
        rw [c_isMan1 h2.1.2.2.2 (by omega) hm, ob_def, if_neg one_ne, c_far1 hc, ob_def, if_neg one_ne, c1, ob_def, bin_nI (by omega) (by decide), e1, orNot_eq, ob_def]
      · unfold m_where
        rw [m_isMan1 h3.1.2.2.2 (by omega) hm, ob_def, if_neg one_ne, m_far1 hc, ob_def, if_neg one_ne, m0, ob_def, m1, ob_def, e3, ci_5_n, nI_add, nI_add, e2, bin_nI (by omega) (by decide)]
    · refine ⟨1000, 1000, -1, σC, σM, ?_, ?_, hrel.mono (by omega)⟩
      · unfold cTop_where
        rw [c_isMan1 h2.1.2.2.2 (by omega) hm, ob_def, if_neg one_ne, c_far0 hy, ob_def, if_pos rfl]
        rfl
      · unfold m_where
        rw [m_isMan1 h3.1.2.2.2 (by omega) hm, ob_def, if_neg one_ne, m_far0 hy, ob_def, if_pos rfl]
        rfl
  · refine ⟨1000, 1000, -1, σC, σM, ?_, ?_, hrel.mono (by omega)⟩
    · unfold cTop_where
      rw [c_isMan0 h2.1.2.2.2 hx, ob_def, if_pos rfl]
      rfl
    · unfold m_where
      rw [m_isMan0 h3.1.2.2.2 hx, ob_def, if_pos rfl]
      rfl
theorem sim_last {i : Nat} {σC σM : bS} (hi : i ≤ 3072) (h : Rel i σC σM) (x y : Int32) : Sim_last (Rel (i + 6)) x y σC σM := by
  have hrel := h
  obtain ⟨T, L, G, H0⟩ := h
  have H : RelB i T L G σC σM := H0
  have h2 := H.2.1
  have h3 := H.2.2.1
  have hM := H.1.2.2.2.1
  have hGG := H.1.2.2.1
  rcases ncases (tG T) (by omega) x with ⟨m, hm, rfl⟩ | hx
  · rcases kcases 300 (by decide) y with ⟨c, hc, rfl⟩ | hy
    · obtain ⟨D, σC1, σM0, σM1, c1, m0, m1, H1⟩ := dream hi hc H
      have e1 : sA σC1 36 (nI m) = D 3 m := (sA_n _ _ (by omega)).trans (H1.2.1.2.1 m (by omega)).1
      have e2 : sA σM1 29 (nI (48 + 1 + m)) = md (D 3 m) := (sA_n _ _ (by omega)).trans (H1.2.2.1.2.1 m hm).1
      have e3 : sI σM1 0 40 = nI 48 := H1.2.2.2.1
      refine ⟨1000, 1000, md (D 3 m), σC1, σM1, ?_, ?_, (RelB.rel H1.1).mono (by omega)⟩
      · unfold cTop_last
        rw [c_isBridge1 h2.1.2.2.1 (by omega) hm, ob_def, if_neg one_ne, c_far1 hc, ob_def, if_neg one_ne, c1, ob_def, bin_nI (by omega) (by decide), e1, orNot_eq, ob_def]
      · unfold m_last
        rw [m_isBridge1 h3.1.2.2.1 (by omega) hm, ob_def, if_neg one_ne, m_far1 hc, ob_def, if_neg one_ne, m0, ob_def, m1, ob_def, e3, ci1_nI, nI_add, nI_add, e2, bin_nI (by omega) (by decide)]
    · refine ⟨1000, 1000, -1, σC, σM, ?_, ?_, hrel.mono (by omega)⟩
      · unfold cTop_last
        rw [c_isBridge1 h2.1.2.2.1 (by omega) hm, ob_def, if_neg one_ne, c_far0 hy, ob_def, if_pos rfl]
        rfl
      · unfold m_last
        rw [m_isBridge1 h3.1.2.2.1 (by omega) hm, ob_def, if_neg one_ne, m_far0 hy, ob_def, if_pos rfl]
        rfl
  · refine ⟨1000, 1000, -1, σC, σM, ?_, ?_, hrel.mono (by omega)⟩
    · unfold cTop_last
      rw [c_isBridge0 h2.1.2.2.1 hx, ob_def, if_pos rfl]
      rfl
    · unfold m_last
      rw [m_isBridge0 h3.1.2.2.1 hx, ob_def, if_pos rfl]
      rfl
theorem coins_l {i n n1 : Nat} {T : aT} {L : aL} {G D : aG} {σC σM : bS} (H : DrB i T L G D σC σM) : ∀ (k j : Nat) (a : Int32), j ≤ tM T → tM T < j + k → ∃ r, cGoing_allCoins_d_b4 n k a (nI j) σC = some (r, σC) ∧ m_coins_b26 n1 k a (nI j) σM = some (r, σM)
  | 0, j, a, h1, h2 => by omega
  | k + 1, j, a, h1, h2 => by
    have hM := H.1.1.2.2.2.1
    rw [cGoing_allCoins_d_b4, m_coins_b26, sI_d, H.1.2.1.1.2.2.2, bin_c0 (by decide) (by decide), sA_c0, H.1.2.2.1.1.2.2.2]
    by_cases hj : j < tM T
    · have e1 : sA σC 40 (nI j) = D 7 j := (sA_n _ _ (by omega)).trans (H.2.1.2.2 j (by omega)).2.2.1
      have e2 : sA σM 29 (nI (48 + 19 + j)) = D 7 j := (sA_n _ _ (by omega)).trans (H.2.2.1.2.2 j hj).2.2.1
      have e3 : sI σM 0 40 = nI 48 := H.2.2.2.1
      rw [if_neg (nI_ge hj (by omega)), if_neg (nI_ge hj (by omega)), bin_nI (by omega) (by decide), e1, e3, cb_19_n, nI_add, nI_add, bin_nI (by omega) (by decide), e2, ci1_nI, nI_add]
      exact coins_l H k (j + 1) (a + D 7 j) hj (by omega)
    · have e : j = tM T := by omega
      subst e
      rw [if_pos (Int32.le_refl _), if_pos (Int32.le_refl _)]
      exact ⟨a, rfl, rfl⟩
theorem sim_coins {i : Nat} {σC σM : bS} (hi : i ≤ 3072) (h : Rel i σC σM) (x : Int32) : Sim_coins (Rel (i + 6)) x σC σM := by
  have hrel := h
  obtain ⟨T, L, G, H0⟩ := h
  have H : RelB i T L G σC σM := H0
  have hM := H.1.2.2.2.1
  rcases kcases 300 (by decide) x with ⟨c, hc, rfl⟩ | hy
  · obtain ⟨D, σC1, σM0, σM1, c1, m0, m1, H1⟩ := dream hi hc H
    obtain ⟨r, c2, m2⟩ := coins_l (n := 1000) (n1 := 1000) H1 1000 0 ci_0 (by omega) (by omega)
    refine ⟨1000, 1000, r, σC1, σM1, ?_, ?_, (RelB.rel H1.1).mono (by omega)⟩
    · unfold cTop_coins cGoing_allCoins_d
      rw [c_far1 hc, ob_def, if_neg one_ne, c1, ob_def, show cGoing_allCoins_d_b4 1000 1000 ci_0 ci_0 σC1 = _ from c2, ob_def]
    · unfold m_coins
      rw [m_far1 hc, ob_def, if_neg one_ne, m0, ob_def, m1, ob_def]
      exact m2
  · refine ⟨1000, 1000, -1, σC, σM, ?_, ?_, hrel.mono (by omega)⟩
    · unfold cTop_coins
      rw [c_far0 hy, ob_def, if_pos rfl]
      rfl
    · unfold m_coins
      rw [m_far0 hy, ob_def, if_pos rfl]
      rfl
/-! till home -/
theorem c_bits_d {T : aT} {L : aL} {n : Nat} {D : aG} {σ : bS} (hn : 20 ≤ n) (hI : InvT T L) (hT : CT T L σ) (hG : CG 35 D σ) : cGoing_homeBits_d n σ = some (bitsOf (fun m => D 5 m = nI (tHome T m)) (tM T), σ) := by
  have hM := hI.2.2.2.1
  exact c_homes_d_l hI hT hG n 0 (by omega) (by omega)
theorem m_bits {T : aT} {L : aL} {i n w : Nat} {D : aG} {σ : bS} (hn : 20 ≤ n) (hI : InvT T L) (hT : MTx T L σ) (hG : MG T w D σ) (hi : InvG T i D) (hw : σ.1 0 40 = nI w) (hw2 : w ≤ 2000) : m_homesNow n σ = some (bitsOf (fun m => D 5 m = nI (tHome T m)) (tM T), σ) := by
  have hM := hI.2.2.2.1
  exact m_homes_l hI hT hG hi hw hw2 n 0 (by omega) (by omega)
theorem homeBy_l {n n1 i m : Nat} {T : aT} {L : aL} {G : aG} (hn : 1000 ≤ n) (hn1 : 1000 ≤ n1) (hm : m < tM T) : ∀ (k j h : Nat) (D : aG) (σC σM : bS), DrB i T L G D σC σM → D 0 0 = nI h → h + (301 - j) ≤ 170000 → j ≤ 300 → 300 < j + k → ∃ (r : Int32) (σC' σM' : bS), cTop_hoursTillHome_b13 n k (ci_1 <<< (nI m &&& 31)) (nI j) σC = some (r, σC') ∧ m_homeBy_b16 n1 (k + 1) (nI m) (nI j) σM = some (r, σM') ∧ RelB i T L G σC' σM'
  | 0, j, h, D, σC, σM, H, hh, h1, h2, h3 => by omega
  | k + 1, j, h, D, σC, σM, H, hh, h1, h2, h3 => by
    have hM := H.1.1.2.2.2.1
    have b1 := c_bits_d (n := n) (by omega) H.1.1 H.1.2.1 H.2.1
    have b2 := m_isHome_eq (n := n1) H.1.1 H.1.2.2.1 H.2.2.1 H.2.2.2.2 H.2.2.2.1 (by omega) hm
    have b3 := bits_at (fun m => D 5 m = nI (tHome T m)) hM hm
    rw [cTop_hoursTillHome_b13, m_homeBy_b16, cs_300_n, b1, b2, ob_def, ob_def, ob_def, if_neg (show ¬ nI 300 < nI j from fun z => by have := (nI_ltI (by omega) (by omega)).mp z; omega)]
    by_cases hj : j < 300
    · rw [if_neg (nI_ge hj (by omega))]
      by_cases z : D 5 m = nI (tHome T m)
      · rw [if_pos (b3.mpr z), if_pos z]
        simp only [if_neg one_ne]
        exact ⟨nI j, σC, σM, rfl, rfl, H.1⟩
      · obtain ⟨σC1, σM1, c1, m1, H1⟩ := DrB.rule (x := ci_m1) hn hn1 H hh (by omega)
        rw [if_neg (fun y => z (b3.mp y)), if_neg z]
        simp only [if_true]
        rw [c1, m1, ob_def, ob_def, ci1_nI, nI_add, ← ci1_nI]
        exact homeBy_l hn hn1 hm k (j + 1) (h + 1) _ σC1 σM1 H1 rfl (by omega) hj (by omega)
    · have e : j = 300 := by omega
      subst e
      rw [if_pos (Int32.le_refl _)]
      by_cases z : D 5 m = nI (tHome T m)
      · rw [if_pos (b3.mpr z), if_pos z]
        simp only [if_neg one_ne]
        exact ⟨nI 300, σC, σM, rfl, rfl, H.1⟩
      · obtain ⟨σC1, σM1, c1, m1, H1⟩ := DrB.rule (x := ci_m1) hn hn1 H hh (by omega)
        rw [if_neg (fun y => z (b3.mp y)), if_neg z]
        simp only [if_true]
        rw [m1, ob_def, ci1_nI, nI_add, m_homeBy_b16, cs_300_n, if_pos ((nI_ltI (by omega) (by omega)).mpr (by omega)), cbm2]
        exact ⟨-2, σC, σM1, rfl, rfl, H.1.q frC.rf (frQ.trans frQ.rf (by
          obtain ⟨σM2, q1, q2, q3⟩ := m_rule_eq (x := ci_m1) (n := n1) (w := 48) hn1 H.1.1 H.1.2.2.1 H.2.2.1 H.2.2.2.2 H.2.2.2.1 (by omega) (by omega) hh
          rw [m1] at q1
          cases q1
          exact frQ.ofS48 q3 (by omega) (by omega)))⟩
theorem allHome_l {n n1 i : Nat} {T : aT} {L : aL} {G : aG} (hn : 1000 ≤ n) (hn1 : 1000 ≤ n1) : ∀ (k j h : Nat) (D : aG) (σC σM : bS), DrB i T L G D σC σM → D 0 0 = nI h → h + (301 - j) ≤ 170000 → j ≤ 300 → 300 < j + k → ∃ (r : Int32) (σC' σM' : bS), cTop_hoursTillHome_b13 n k ((ci_1 <<< (nI (tM T) &&& 31)) - ci_1) (nI j) σC = some (r, σC') ∧ m_allHome_b6 n1 (k + 1) (nI j) σM = some (r, σM') ∧ RelB i T L G σC' σM'
  | 0, j, h, D, σC, σM, H, hh, h1, h2, h3 => by omega
  | k + 1, j, h, D, σC, σM, H, hh, h1, h2, h3 => by
    have hM := H.1.1.2.2.2.1
    have b1 := c_bits_d (n := n) (by omega) H.1.1 H.1.2.1 H.2.1
    have b2 := m_bits (n := n1) (by omega) H.1.1 H.1.2.2.1 H.2.2.1 H.2.2.2.2 H.2.2.2.1 (by omega)
    have b3 := bits_all (fun m => D 5 m = nI (tHome T m)) hM
    have b4 : sA σM 20 ci_0 = nI (tM T) := (sA_c0 _ _).trans H.1.2.2.1.1.2.2.2
    rw [cTop_hoursTillHome_b13, m_allHome_b6, cs_300_n, b1, b2, ob_def, ob_def, ob_def, if_neg (show ¬ nI 300 < nI j from fun z => by have := (nI_ltI (by omega) (by omega)).mp z; omega), bin_c0 (by decide) (by decide)]
    unfold m_allHome_b27
    simp only [b3, b4]
    by_cases hj : j < 300
    · rw [if_neg (nI_ge hj (by omega))]
      by_cases z : bitsOf (fun m => D 5 m = nI (tHome T m)) (tM T) = (ci_1 <<< (nI (tM T) &&& 31)) - ci_1
      · rw [if_pos z, if_pos z]
        exact ⟨nI j, σC, σM, rfl, rfl, H.1⟩
      · obtain ⟨σC1, σM1, c1, m1, H1⟩ := DrB.rule (x := ci_m1) hn hn1 H hh (by omega)
        rw [if_neg z, if_neg z, c1, m1, ob_def, ob_def, show (nI j + ci_1 : Int32) = nI (j + 1) from nI_add j 1]
        exact allHome_l hn hn1 k (j + 1) (h + 1) _ σC1 σM1 H1 rfl (by omega) hj (by omega)
    · have e : j = 300 := by omega
      subst e
      rw [if_pos (Int32.le_refl _)]
      by_cases z : bitsOf (fun m => D 5 m = nI (tHome T m)) (tM T) = (ci_1 <<< (nI (tM T) &&& 31)) - ci_1
      · rw [if_pos z, if_pos z]
        exact ⟨nI 300, σC, σM, rfl, rfl, H.1⟩
      · obtain ⟨σM1, m1, m2, m3⟩ := m_rule_eq (x := ci_m1) (n := n1) (w := 48) hn1 H.1.1 H.1.2.2.1 H.2.2.1 H.2.2.2.2 H.2.2.2.1 (by omega) (by omega) hh
        rw [if_neg z, if_neg z, m1, ob_def, show (nI 300 + ci_1 : Int32) = nI 301 from nI_add 300 1, m_allHome_b6, cs_300_n, if_pos ((nI_ltI (by omega) (by omega)).mpr (by omega)), cbm2]
        exact ⟨-2, σC, σM1, rfl, rfl, H.1.q frC.rf (frQ.ofS48 m3 (by omega) (by omega))⟩
theorem sim_homeBy {i : Nat} {σC σM : bS} (hi : i ≤ 3072) (h : Rel i σC σM) (x : Int32) : Sim_homeBy (Rel (i + 6)) x σC σM := by
  have hrel := h
  obtain ⟨T, L, G, H0⟩ := h
  have H : RelB i T L G σC σM := H0
  have h2 := H.2.1
  have h3 := H.2.2.1
  have hM := H.1.2.2.2.1
  obtain ⟨hr, r1, r2, r3⟩ := Rel.hour H.2.2.2.2.2.1 hi
  rcases ncases (tM T) (by omega) x with ⟨m, hm, rfl⟩ | hx
  · obtain ⟨σC1, σM1, c1, m1, H1⟩ := DrB.start (n := 1000) (n1 := 1001) (by omega) (by omega) H
    obtain ⟨r, σC2, σM2, c2, m2, H2⟩ := homeBy_l (n := 1000) (n1 := 1001) (by omega) (by omega) hm 1000 0 hr G σC1 σM1 H1 r2 (by omega) (by omega) (by omega)
    refine ⟨1000, 1001, r, σC2, σM2, ?_, ?_, H2.rel.mono (by omega)⟩
    · unfold cTop_homeBy cTop_hoursTillHome
      rw [c_isMan1 h2.1.2.2.2 (by omega) hm, ob_def, if_neg one_ne, c1, ob_def, show cTop_hoursTillHome_b13 1000 1000 (ci_1 <<< (nI m &&& 31)) ci_0 σC1 = _ from c2, ob_def]
      rfl
    · unfold m_homeBy
      rw [m_isMan1 h3.1.2.2.2 (by omega) hm, ob_def, if_neg one_ne, m1, ob_def]
      exact m2
  · refine ⟨1000, 1000, -1, σC, σM, ?_, ?_, hrel.mono (by omega)⟩
    · unfold cTop_homeBy
      rw [c_isMan0 h2.1.2.2.2 hx, ob_def, if_pos rfl]
      rfl
    · unfold m_homeBy
      rw [m_isMan0 h3.1.2.2.2 hx, ob_def, if_pos rfl]
      rfl
theorem sim_allHome {i : Nat} {σC σM : bS} (hi : i ≤ 3072) (h : Rel i σC σM) : Sim_allHome (Rel (i + 6)) σC σM := by
  obtain ⟨T, L, G, H0⟩ := h
  have H : RelB i T L G σC σM := H0
  obtain ⟨hr, r1, r2, r3⟩ := Rel.hour H.2.2.2.2.2.1 hi
  obtain ⟨σC1, σM1, c1, m1, H1⟩ := DrB.start (n := 1000) (n1 := 1001) (by omega) (by omega) H
  obtain ⟨r, σC2, σM2, c2, m2, H2⟩ := allHome_l (n := 1000) (n1 := 1001) (by omega) (by omega) 1000 0 hr G σC1 σM1 H1 r2 (by omega) (by omega) (by omega)
  refine ⟨1000, 1001, r, σC2, σM2, ?_, ?_, H2.rel.mono (by omega)⟩
  · unfold cTop_allHome cTop_allHome_b12 cTop_hoursTillHome
    rw [sI_d, H.2.1.1.2.2.2, c1, ob_def, show cTop_hoursTillHome_b13 1000 1000 ((ci_1 <<< (nI (tM T) &&& 31)) - ci_1) ci_0 σC1 = _ from c2, ob_def]
  · unfold m_allHome
    rw [m1, ob_def]
    exact m2
/-! waiting -/
theorem waiting_l {n n1 i m b : Nat} {T : aT} {L : aL} {G : aG} (hn : 1000 ≤ n) (hn1 : 1000 ≤ n1) (hm : m < tM T) (hb : b < tG T) : ∀ (k j h : Nat) (D : aG) (σC σM : bS), DrB i T L G D σC σM → D 0 0 = nI h → h + (101 - j) ≤ 170000 → j ≤ 101 → 101 < j + k → ∃ (r : Int32) (σC' σM' : bS), cTop_waiting_b55 n k (nI m) (nI b) (nI j) σC = some (r, σC') ∧ m_waiting_b36 n1 k (nI m) (nI b) (nI j) σM = some (r, σM') ∧ RelB i T L G σC' σM'
  | 0, j, h, D, σC, σM, H, hh, h1, h2, h3 => by omega
  | k + 1, j, h, D, σC, σM, H, hh, h1, h2, h3 => by
    have hB := H.1.1.1
    have hM := H.1.1.2.2.2.1
    have hGG := H.1.1.2.2.1
    have q4 := H.1.1.2.2.2.2.2.1 m hm
    rw [cTop_waiting_b55, m_waiting_b36, cb_100_n]
    by_cases hj : j < 101
    · have hlt : ¬ nI 100 < nI j := fun z => by have := (nI_ltI (by omega) (by omega)).mp z; omega
      have e1 : sA σC 36 (nI b) = D 3 b := (sA_n _ _ (by omega)).trans (H.2.1.2.1 b (by omega)).1
      have e2 : sA σC 6 (nI m) = nI (tHome T m) := (sA_n _ _ (by omega)).trans (H.1.2.1.2.2.2.1 m hm)
      rw [if_neg hlt, if_neg hlt, bin_nI (by omega) (by decide), bin_nI (by omega) (by decide), e1, e2]
      obtain ⟨σM1, m1, m1f⟩ := m_could_eq (n := n1) (w := 48) hn1 H.1.1 H.1.2.2.1 H.2.2.1 H.2.2.2.2 H.2.2.2.1 (by omega) hm hb (show h < 2 ^ 31 by omega) hh
      have w1 : sI σM1 0 40 = nI 48 := (m1f.1 40 (by decide)).trans H.2.2.2.1
      have e3 : sA σM1 29 (nI (48 + 1 + b)) = md (D 3 b) := (sA_n _ _ (by omega)).trans ((H.2.2.1.scr m1f).2.1 b hb).1
      have e4 : sA σM1 22 (nI m) = nI (tHome T m) := (sA_n _ _ (by omega)).trans ((H.1.2.2.1.scr m1f).2.2.2.1 m hm)
      have go : ∀ σC1, frC sc12 σC σC1 → ∃ (r : Int32) (σC' σM' : bS), cTop_waiting_b96 n (cTop_waiting_b55 n k) (nI m) (nI b) (nI j) σC1 = some (r, σC') ∧ m_waiting_b75 n1 (m_waiting_b36 n1 k) (nI m) (nI b) (nI j) σM1 = some (r, σM') ∧ RelB i T L G σC' σM' := fun σC1 f1 => by
        have H1 : DrB i T L G D σC1 σM1 := ⟨H.1.q (f1.mono scrC12) (frQ31 m1f), H.2.1.scr (by omega) f1, H.2.2.1.scr m1f, w1, H.2.2.2.2⟩
        obtain ⟨σC2, σM2, c2, m2, H2⟩ := DrB.rule (x := nI m) hn hn1 H1 hh (by omega)
        rw [cTop_waiting_b96, m_waiting_b75, c2, m2, ob_def, ob_def, ci1_nI, nI_add]
        exact waiting_l hn hn1 hm hb k (j + 1) (h + 1) _ σC2 σM2 H2 rfl (by omega) hj (by omega)
      by_cases v : D 3 b = nI (tHome T m)
      · obtain ⟨σC1, c1, c1f⟩ := c_could_d (n := n) (by omega) H.1.1 H.1.2.1 H.2.1 hm hb (show h < 2 ^ 31 by omega) hh
        rw [if_pos v]
        by_cases z : canB T L D m b h
        · rw [if_pos z] at c1 m1
          rw [c1, m1, ob_def, ob_def, if_neg one_ne, if_neg one_ne]
          simp only [w1]
          rw [ci1_nI, nI_add, nI_add, bin_nI (by omega) (by decide), bin_nI (by omega) (by decide), e3, e4, if_pos ((md_eq (show tB T < 2 ^ 31 by omega) (H.2.2.2.2.2.1 b hb) (by omega)).mpr v)]
          exact ⟨nI j, σC1, σM1, rfl, rfl, H.1.q (c1f.mono scrC12) (frQ31 m1f)⟩
        · rw [if_neg z] at c1 m1
          rw [c1, m1, ob_def, ob_def, if_pos rfl, if_pos rfl]
          exact go σC1 c1f
      · rw [if_neg v, m1, ob_def]
        by_cases z : canB T L D m b h
        · rw [if_pos z]
          simp only [if_neg one_ne]
          simp only [w1]
          rw [ci1_nI, nI_add, nI_add, bin_nI (by omega) (by decide), bin_nI (by omega) (by decide), e3, e4, if_neg (fun q => v ((md_eq (show tB T < 2 ^ 31 by omega) (H.2.2.2.2.2.1 b hb) (by omega)).mp q))]
          exact go σC frC.rf
        · rw [if_neg z]
          simp only [if_true]
          exact go σC frC.rf
    · have e : j = 101 := by omega
      subst e
      rw [if_pos ((nI_ltI (by omega) (by omega)).mpr (by omega)), if_pos ((nI_ltI (by omega) (by omega)).mpr (by omega))]
      exact ⟨cb_m2, σC, σM, rfl, rfl, H.1⟩
theorem sim_waiting {i : Nat} {σC σM : bS} (hi : i ≤ 3072) (h : Rel i σC σM) (x y : Int32) : Sim_waiting (Rel (i + 6)) x y σC σM := by
  have hrel := h
  obtain ⟨T, L, G, H0⟩ := h
  have H : RelB i T L G σC σM := H0
  have h2 := H.2.1
  have h3 := H.2.2.1
  have hM := H.1.2.2.2.1
  have hGG := H.1.2.2.1
  obtain ⟨hr, r1, r2, r3⟩ := Rel.hour H.2.2.2.2.2.1 hi
  rcases ncases (tM T) (by omega) x with ⟨m, hm, rfl⟩ | hx
  · rcases ncases (tG T) (by omega) y with ⟨b, hb, rfl⟩ | hy
    · obtain ⟨σC1, σM1, c1, m1, H1⟩ := DrB.start (n := 1000) (n1 := 1000) (by omega) (by omega) H
      have e1 : sA σC 30 (nI m) = G 5 m := (sA_n _ _ (by omega)).trans (H.2.2.2.1.2.2 m (by omega)).1
      have e2 : sA σC 3 (nI b) = nI (tFoot T b) := (sA_n _ _ (by omega)).trans (h2.2.2.1 b hb)
      have e3 := m_atFoot_eq (n := 1000) H.1 H1.1.2.2.1 H1.2.2.1 H1.2.2.2.2 H1.2.2.2.1 (by omega) hm hb
      by_cases z : G 5 m = nI (tFoot T b)
      · rw [if_pos z] at e3
        obtain ⟨r, σC2, σM2, c2, m2, H2⟩ := waiting_l (n := 1000) (n1 := 1000) (by omega) (by omega) hm hb 1000 0 hr G σC1 σM1 H1 r2 (by omega) (by omega) (by omega)
        refine ⟨1000, 1000, r, σC2, σM2, ?_, ?_, H2.rel.mono (by omega)⟩
        · unfold cTop_waiting
          rw [c_isMan1 h2.1.2.2.2 (by omega) hm, ob_def, if_neg one_ne, c_isBridge1 h2.1.2.2.1 (by omega) hb, ob_def, if_neg one_ne, bin_nI (by omega) (by decide), bin_nI (by omega) (by decide), e1, e2, if_pos z, c1, ob_def]
          exact c2
        · unfold m_waiting
          rw [m_isMan1 h3.1.2.2.2 (by omega) hm, ob_def, if_neg one_ne, m_isBridge1 h3.1.2.2.1 (by omega) hb, ob_def, if_neg one_ne, m1, ob_def, e3, ob_def, if_neg one_ne]
          exact m2
      · rw [if_neg z] at e3
        obtain ⟨σM2, m2, m2g, m2w, m2f, m2o⟩ := m_tries_eq (T := T) (n := 1000) (by omega) ⟨H.1.2.2.1, H.1.2.2.2.1⟩ H.2.2.2.2.1
        rw [m1] at m2
        cases m2
        refine ⟨1000, 1000, -2, σC, σM1, ?_, ?_, hrel.of (by omega) frC.rf m2f⟩
        · unfold cTop_waiting
          rw [c_isMan1 h2.1.2.2.2 (by omega) hm, ob_def, if_neg one_ne, c_isBridge1 h2.1.2.2.1 (by omega) hb, ob_def, if_neg one_ne, bin_nI (by omega) (by decide), bin_nI (by omega) (by decide), e1, e2, if_neg z, cbm2]
        · unfold m_waiting
          rw [m_isMan1 h3.1.2.2.2 (by omega) hm, ob_def, if_neg one_ne, m_isBridge1 h3.1.2.2.1 (by omega) hb, ob_def, if_neg one_ne, m1, ob_def, e3, ob_def, if_pos rfl, cbm2]
    · refine ⟨1000, 1000, -1, σC, σM, ?_, ?_, hrel.mono (by omega)⟩
      · unfold cTop_waiting
        rw [c_isMan1 h2.1.2.2.2 (by omega) hm, ob_def, if_neg one_ne, c_isBridge0 h2.1.2.2.1 hy, ob_def, if_pos rfl]
        rfl
      · unfold m_waiting
        rw [m_isMan1 h3.1.2.2.2 (by omega) hm, ob_def, if_neg one_ne, m_isBridge0 h3.1.2.2.1 hy, ob_def, if_pos rfl]
        rfl
  · refine ⟨1000, 1000, -1, σC, σM, ?_, ?_, hrel.mono (by omega)⟩
    · unfold cTop_waiting
      rw [c_isMan0 h2.1.2.2.2 hx, ob_def, if_pos rfl]
      rfl
    · unfold m_waiting
      rw [m_isMan0 h3.1.2.2.2 hx, ob_def, if_pos rfl]
      rfl
