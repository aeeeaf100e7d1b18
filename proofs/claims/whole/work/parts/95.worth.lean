theorem m1_ne : ¬ (-1 : Int32) = 0 := by decide
theorem m2_ne : ¬ (-2 : Int32) = 0 := by decide
/-! GAIN and WORTH -/
theorem late_of {s : Nat} {v : Int32} (h : (v &&& (nI s ^^^ ci_m1)) = 0) : ∃ z, v = nI z ∧ z ≤ s ∧ ∀ m, z.testBit m = true → s.testBit m = true := by
  have e : v.toBitVec ^^^ (v.toBitVec &&& (nI s).toBitVec) = 0#32 := by
    rw [and_not] at h
    exact congrArg Int32.toBitVec h
  have e2 : v = v &&& nI s := by
    apply Int32.toBitVec_inj.mp
    show v.toBitVec = v.toBitVec &&& (nI s).toBitVec
    apply BitVec.eq_of_getLsbD_eq
    intro i hi
    have e3 := congrArg (fun w => w.getLsbD i) e
    simp only [BitVec.getLsbD_and, BitVec.getLsbD_xor, BitVec.getLsbD_zero] at e3 ⊢
    cases p : v.toBitVec.getLsbD i <;> cases q : (nI s).toBitVec.getLsbD i <;> rw [p, q] at e3 <;> first | rfl | cases e3
  refine ⟨v.toBitVec.toNat &&& s, ?_, Nat.and_le_right, fun m hm => ?_⟩
  · rw [← nI_and, ← nI_bv]
    exact e2
  · rw [Nat.testBit_and] at hm
    exact (Bool.and_eq_true_iff.mp hm).2
theorem sub_off {s z : Nat} (h : ∀ m, z.testBit m = true → s.testBit m = true) : (nI z &&& (nI s ^^^ ci_m1)) = 0 := by
  rw [off_eq]
  have e : z ^^^ (z &&& s) = 0 := by
    apply Nat.eq_of_testBit_eq
    intro j
    rw [Nat.testBit_xor, Nat.testBit_and, Nat.zero_testBit]
    cases p : z.testBit j
    · rfl
    · rw [h j p]
      rfl
  rw [e]
  rfl
theorem off_sub {s z : Nat} (hz : z < 2 ^ 31) (h : (nI z &&& (nI s ^^^ ci_m1)) = 0) : ∀ m, z.testBit m = true → s.testBit m = true := by
  intro m hm
  rw [off_eq] at h
  have hl : z ^^^ (z &&& s) < 2 ^ 31 := Nat.xor_lt_two_pow hz (Nat.lt_of_le_of_lt Nat.and_le_left hz)
  have e : z ^^^ (z &&& s) = 0 := nI_inj hl (by decide) h
  have e2 := congrArg (fun w => w.testBit m) e
  simp only [Nat.testBit_xor, Nat.testBit_and, Nat.zero_testBit, hm] at e2
  cases q : s.testBit m
  · rw [q] at e2
    cases e2
  · rfl
theorem late_cases {i n n1 : Nat} {T : aT} {L : aL} {G : aG} {σC σM : bS} (hn : 20 ≤ n) (hn1 : 20 ≤ n1) (H : RelB i T L G σC σM) (x y v : Int32) :
    (∃ σM', m_isLate n1 x y v σM = some (0, σM') ∧ frQ σM σM' ∧ (cTop_isGame n x y σC = some (0, σC) ∨ (cTop_isGame n x y σC = some (1, σC) ∧ ¬ (v &&& (y ^^^ ci_m1)) = 0))) ∨
    (∃ b s z, b < tG T ∧ 0 < s ∧ s < 2 ^ tM T ∧ z < 128 ∧ (∀ m, z.testBit m = true → s.testBit m = true) ∧ x = nI b ∧ y = nI s ∧ v = nI z ∧ cTop_isGame n x y σC = some (1, σC) ∧ (v &&& (y ^^^ ci_m1)) = 0 ∧ m_isLate n1 x y v σM = some (1, uI σM 0 40 ci_0) ∧ ∀ m, s.testBit m = true → m < tM T ∧ G 5 m = nI (tFoot T b)) := by
  have h3 := H.2.2.1
  have hM := H.1.2.2.2.1
  have h7 : (2 : Nat) ^ tM T ≤ 2 ^ 7 := Nat.pow_le_pow_right (by decide) hM
  have em : sA σM 20 ci_0 = nI (tM T) := (sA_c0 _ _).trans h3.1.2.2.2
  rcases row_cases hn hn1 H x y with ⟨a1, a2⟩ | ⟨b, s, hb, h0, hs, rfl, rfl, a2, a3⟩
  · refine Or.inl ⟨σM, ?_, frQ.rf, Or.inl ?_⟩
    · unfold m_isLate
      rw [a2, ob_def, if_pos rfl]
      rfl
    · unfold cTop_isGame
      rw [a1, ob_def, if_neg m1_ne]
      rfl
  · by_cases hv : (v &&& (nI s ^^^ ci_m1)) = 0
    · obtain ⟨z, rfl, hz, hzs⟩ := late_of hv
      rcases a3 with ⟨a3, a4⟩ | ⟨a3, a4, a5⟩
      · refine Or.inl ⟨uI σM 0 40 ci_0, ?_, frQw, Or.inl ?_⟩
        · unfold m_isLate
          rw [a2, ob_def, if_neg one_ne, if_neg (nI_pos (by omega)), bin_c0 (by decide) (by decide), em, ci1_1, one_shl hM, if_neg (nI_ge (by omega) (by omega)), if_pos hv, a4, ob_def, if_pos rfl]
          rfl
        · unfold cTop_isGame
          rw [a3, ob_def, if_neg m2_ne]
          rfl
      · refine Or.inr ⟨b, s, z, hb, h0, hs, by omega, hzs, rfl, rfl, rfl, ?_, hv, ?_, a5⟩
        · unfold cTop_isGame
          rw [a3, ob_def, if_pos rfl]
          rfl
        · unfold m_isLate
          rw [a2, ob_def, if_neg one_ne, if_neg (nI_pos (by omega)), bin_c0 (by decide) (by decide), em, ci1_1, one_shl hM, if_neg (nI_ge (by omega) (by omega)), if_pos hv, a4, ob_def, if_neg one_ne]
          rfl
    · have m1 : m_isLate n1 (nI b) (nI s) v σM = some (0, σM) := by
        unfold m_isLate
        rw [a2, ob_def, if_neg one_ne]
        by_cases w : v < 0
        · rw [if_pos w]; rfl
        · rw [if_neg w, bin_c0 (by decide) (by decide)]
          split
          · rfl
          · first | rfl | (rw [if_neg hv]; rfl)
      rcases a3 with ⟨a3, a4⟩ | ⟨a3, a4, a5⟩
      · refine Or.inl ⟨σM, m1, frQ.rf, Or.inl ?_⟩
        unfold cTop_isGame
        rw [a3, ob_def, if_neg m2_ne]
        rfl
      · refine Or.inl ⟨σM, m1, frQ.rf, Or.inr ⟨?_, hv⟩⟩
        unfold cTop_isGame
        rw [a3, ob_def, if_pos rfl]
        rfl
theorem sc_gm : ∀ a, scGm a → scrC a := fun a h => by unfold scrC; unfold scGm at h; omega
theorem sc_59 : ∀ a, sc59 a → scrC a := fun a h => by unfold scrC; unfold sc59 at h; omega
theorem InvG.up {T : aT} {i : Nat} {G : aG} (h : InvG T i G) (hi : i ≤ 3072) : InvG T 5000 G := h.mono (by omega)
theorem sim_gain {i : Nat} {σC σM : bS} (hi : i ≤ 3072) (h : Rel i σC σM) (x y v u : Int32) : Sim_gain (Rel (i + 6)) x y v u σC σM := by
  have hrel := h
  obtain ⟨T, L, G, H⟩ := h
  have H : RelB i T L G σC σM := H
  have hM := H.1.2.2.2.1
  have hGG := H.1.2.2.1
  have h7 : (2 : Nat) ^ tM T ≤ 2 ^ 7 := Nat.pow_le_pow_right (by decide) hM
  obtain ⟨hr, r1, r2, r3⟩ := Rel.hour H.2.2.2.2.2.1 hi
  rcases late_cases (n := 1000) (n1 := 1000) (by omega) (by omega) H x y v with ⟨σM', a1, a2, a3⟩ | ⟨b, s, z, hb, h0, hs, hz, hzs, rfl, rfl, rfl, a1, a2, a3, a4⟩
  · refine ⟨1000, 1000, cs_m1000, σC, σM', ?_, ?_, hrel.of (by omega) frC.rf a2⟩
    · unfold cTop_gain
      rcases a3 with a3 | ⟨a3, a4⟩
      · rw [a3, ob_def, if_pos rfl]; rfl
      · rw [a3, ob_def, if_neg one_ne, if_neg a4]; rfl
    · unfold m_gain
      rw [a1, ob_def, if_pos rfl]; rfl
  · have h3 : MTx T L (uI σM 0 40 ci_0) := H.2.2.1.of (fun _ _ _ => rfl)
    rcases ncases (tM T) (by omega) u with ⟨m, hm, rfl⟩ | hu
    · by_cases e : s.testBit m = true
      · obtain ⟨l0, σ1, c1, c2, c3, c4, c5⟩ := c_prepE (n := 1000) (x := 1) (by omega) H.1 H.2.1 H.2.2.2.1 (H.2.2.2.2.2.1.2.1 b hb) hb hs (by omega) (by omega) r2
        obtain ⟨σ2, d1, d2, d3, d4, d5, d6⟩ := c_play (n := 1000) (z := z) (by omega) H.1 (H.2.2.2.2.2.1.up hi) r2 (by omega) hb hs hz hzs a4 c4 c5 c2
        obtain ⟨σ3, g1, g2, g3, g4, g5, g6, g7⟩ := m_gains (n := 1000) (z := z) (σ := uI σM 0 40 ci_0) (by omega) H.1 h3 H.2.2.2.2.1 (H.2.2.2.2.2.1.up hi) r2 (by omega) hb hs (by omega) a4
        refine ⟨1000, 1000, gn T L G b hr s z m, σ2, σ3, ?_, ?_, hrel.of (by omega) ((c3.mono sc_59).trans (d4.mono sc_gm)) (frQw.trans g5)⟩
        · unfold cTop_gain
          rw [a1, ob_def, if_neg one_ne, if_pos a2, c_isMan1 H.2.1.1.2.2.2 (by omega) hm, ob_def, if_neg one_ne, bit_eq (by omega) (by omega), if_pos e, if_neg one_ne]
          rw [show cRows_prepare 1000 (nI b) (nI s) ci_1 σC = some σ1 from c1, ob_def, d1, ob_def]
          unfold cGame_gainOf
          rw [cb7_nI, nI_mul, nI_add, show z * 7 + m = 7 * z + m by omega, bin_nI (by omega) (by decide), ob_def, sA_n _ _ (by omega), d2 m e]
        · unfold m_gain
          rw [a3, ob_def, if_neg one_ne, m_isMan1 h3.1.2.2.2 (by omega) hm, ob_def, if_neg one_ne, bit_eq (by omega) (by omega), if_pos e, if_neg one_ne, g1, ob_def, bin_nI (by omega) (by decide), sA_n _ _ (by omega), g2 m e]
      · refine ⟨1000, 1000, cs_m1000, σC, uI σM 0 40 ci_0, ?_, ?_, hrel.of (by omega) frC.rf frQw⟩
        · unfold cTop_gain
          rw [a1, ob_def, if_neg one_ne, if_pos a2, c_isMan1 H.2.1.1.2.2.2 (by omega) hm, ob_def, if_neg one_ne, bit_eq (by omega) (by omega), if_neg e, if_pos rfl]
          rfl
        · unfold m_gain
          rw [a3, ob_def, if_neg one_ne, m_isMan1 h3.1.2.2.2 (by omega) hm, ob_def, if_neg one_ne, bit_eq (by omega) (by omega), if_neg e, if_pos rfl]
          rfl
    · refine ⟨1000, 1000, cs_m1000, σC, uI σM 0 40 ci_0, ?_, ?_, hrel.of (by omega) frC.rf frQw⟩
      · unfold cTop_gain
        rw [a1, ob_def, if_neg one_ne, if_pos a2, c_isMan0 H.2.1.1.2.2.2 hu, ob_def, if_pos rfl]
        rfl
      · unfold m_gain
        rw [a3, ob_def, if_neg one_ne, m_isMan0 h3.1.2.2.2 hu, ob_def, if_pos rfl]
        rfl
/-! a sum over a row is one over the set -/
def wS (g : Nat → Int32) (s : Nat) : Nat → Int32
  | 0 => 0
  | j + 1 => if s.testBit j = true then wS g s j + g j else wS g s j
def lS (g : Nat → Int32) (l : List Nat) : Int32 := l.foldl (fun a m => a + g m) 0
theorem lS_from (g : Nat → Int32) : ∀ (l : List Nat) (a : Int32), l.foldl (fun a m => a + g m) a = a + lS g l
  | [], a => by
    show a = a + 0
    rw [Int32.add_zero]
  | m :: l, a => by
    show l.foldl (fun a m => a + g m) (a + g m) = a + l.foldl (fun a m => a + g m) (0 + g m)
    rw [lS_from g l (a + g m), lS_from g l (0 + g m), Int32.zero_add, Int32.add_assoc]
theorem lS_app (g : Nat → Int32) (l r : List Nat) : lS g (l ++ r) = lS g l + lS g r := by
  unfold lS
  rw [List.foldl_append, lS_from]
  rfl
theorem lS_set (g : Nat → Int32) (s z : Nat) : ∀ j, lS g (fL s z false j) + lS g (fL s z true j) = wS g s j
  | 0 => by
    show (0 : Int32) + 0 = 0
    decide
  | j + 1 => by
    have ih := lS_set g s z j
    have e1 : lS g [j] = g j := by
      show 0 + g j = g j
      rw [Int32.zero_add]
    have e0 : lS g [] = 0 := rfl
    rw [fL_S, fL_S, lS_app, lS_app, wS, ← ih]
    unfold fB
    cases p : s.testBit j <;> cases q : z.testBit j
    · simp [e0]
    · simp [e0]
    · simp only [Bool.true_and, beq_self_eq_true, if_true, show (false == true) = false from rfl, if_neg Bool.false_ne_true, e1, e0, Int32.add_zero]
      rw [Int32.add_assoc, Int32.add_assoc, Int32.add_comm (g j)]
    · simp only [Bool.true_and, beq_self_eq_true, if_true, show (true == false) = false from rfl, if_neg Bool.false_ne_true, e1, e0, Int32.add_zero]
      rw [Int32.add_assoc]
theorem lS_row (g : Nat → Int32) (s z : Nat) : lS g (rowL 7 s z) = wS g s 7 := by
  unfold rowL
  rw [lS_app, lS_set]
theorem lS_take (g : Nat → Int32) {l : List Nat} {q : Nat} (h : q < l.length) : lS g (l.take (q + 1)) = lS g (l.take q) + g (l.getD q 0) := by
  rw [List.take_add_one, lS_app, List.getElem?_eq_getElem h, getD_get h]
  show _ + (0 + g l[q]) = _
  rw [Int32.zero_add]
theorem m_worth_l {n : Nat} {g : Nat → Int32} {l : List Nat} {σ : bS} (hl : l.length ≤ 7) (h49 : σ.1 0 49 = nI l.length) (h34 : ∀ q, q < l.length → σ.2.1 34 q = nI (l.getD q 0)) (hm : ∀ q, q < l.length → l.getD q 0 < 7 ∧ σ.2.1 41 (l.getD q 0) = g (l.getD q 0)) : ∀ (k q : Nat), q ≤ l.length → l.length < q + k → m_worthOf_b13 n k (lS g (l.take q)) (nI q) σ = some (lS g l, σ)
  | 0, q, h1, h2 => by omega
  | k + 1, q, h1, h2 => by
    have e49 : sI σ 0 49 = nI l.length := h49
    rw [m_worthOf_b13, e49]
    by_cases hq : q < l.length
    · have e34 : sA σ 34 (nI q) = nI (l.getD q 0) := (sA_n _ _ (by omega)).trans (h34 q hq)
      obtain ⟨b1, b2⟩ := hm q hq
      rw [if_neg (nI_ge hq (by omega)), bin_nI (by omega) (by decide), e34, bin_nI b1 (by decide), sA_n _ _ (by omega), b2, ← lS_take g hq, ci1_nI, nI_add]
      exact m_worth_l hl h49 h34 hm k (q + 1) hq (by omega)
    · have e : q = l.length := by omega
      subst e
      rw [if_pos (Int32.le_refl _), List.take_length]
theorem c_worth_l {n s z : Nat} {g : Nat → Int32} {σ : bS} (hs : s < 128) (hz : z < 128) (h59 : σ.1 59 10 = nI s) (hg : ∀ m, s.testBit m = true → σ.2.1 69 (7 * z + m) = g m) : ∀ (k j : Nat), j ≤ 7 → 7 < j + k → cGame_worthOf_b4 n k (nI z) (wS g s j) (nI j) σ = some (wS g s 7, σ)
  | 0, j, h1, h2 => by omega
  | k + 1, j, h1, h2 => by
    rw [cGame_worthOf_b4, cb7_nI]
    by_cases hj : j < 7
    · rw [if_neg (nI_ge hj (by omega)), c_part h59 (by omega) hj, ob_def]
      by_cases e : s.testBit j = true
      · rw [if_pos e]
        simp only [if_neg one_ne]
        unfold cGame_gainOf
        rw [cb7_nI, nI_mul, nI_add, show z * 7 + j = 7 * z + j by omega, bin_nI (by omega) (by decide), ob_def, sA_n _ _ (by omega), hg j e]
        show cGame_worthOf_b27 n (cGame_worthOf_b4 n k) (nI z) (wS g s j + g j) (nI j) σ = _
        rw [cGame_worthOf_b27, ci1_nI, nI_add, show wS g s j + g j = wS g s (j + 1) by rw [wS, if_pos e]]
        exact c_worth_l hs hz h59 hg k (j + 1) hj (by omega)
      · rw [if_neg e]
        simp only [if_true]
        rw [cGame_worthOf_b27, ci1_nI, nI_add, show wS g s j = wS g s (j + 1) by rw [wS, if_neg e]]
        exact c_worth_l hs hz h59 hg k (j + 1) hj (by omega)
    · have e : j = 7 := by omega
      subst e
      rw [if_pos (Int32.le_refl _)]
/-- WORTH of a row -/
def wt (T : aT) (L : aL) (G : aG) (b h s z : Nat) : Int32 := wS (gn T L G b h s z) s 7
theorem c_worth {T : aT} {L : aL} {G : aG} {n b h s z : Nat} {σ : bS} (hn : 20 ≤ n) (hs : s < 128) (hz : z < 128) (h59 : σ.1 59 10 = nI s) (hg : ∀ m, s.testBit m = true → σ.2.1 69 (7 * z + m) = gn T L G b h s z m) : cGame_worthOf n (nI z) σ = some (wt T L G b h s z, σ) := c_worth_l hs hz h59 hg n 0 (by omega) (by omega)
theorem m_worthE {T : aT} {L : aL} {n b h s z : Nat} {G : aG} {σ : bS} (hn : 1000 ≤ n) (hI : InvT T L) (hT : MTx T L σ) (hG : MG T 0 G σ) (hi : InvG T 5000 G) (hh : G 0 0 = nI h) (hx : h + 20 ≤ 170000) (hb : b < tG T) (hs : s < 2 ^ tM T) (hz : z < 2 ^ 31) (hf : ∀ m, s.testBit m = true → m < tM T ∧ G 5 m = nI (tFoot T b)) : ∃ σ', m_worthOf n (nI b) (nI s) (nI z) σ = some (wt T L G b h s z, σ') ∧ frQ σ σ' ∧ MTx T L σ' ∧ MG T 0 G σ' := by
  obtain ⟨σ3, g1, g2, g3, g4, g5, g6, g7⟩ := m_gains hn hI hT hG hi hh hx hb hs hz hf
  refine ⟨σ3, ?_, g5, g6, g7⟩
  unfold m_worthOf
  rw [g1, ob_def]
  have := m_worth_l (n := n) (g := gn T L G b h s z) (rowL_len (M := 7) (s := s) (z := z) (by omega)) g3 g4 (fun q hq => by
    have q2 := mem_rowL (List.getElem_mem hq)
    rw [getD_get hq]
    exact ⟨q2.1, g2 _ q2.2⟩) n 0 (by omega) (by have := rowL_len (M := 7) (s := s) (z := z) (by omega); omega)
  rw [lS_row] at this
  exact this
theorem sim_worth {i : Nat} {σC σM : bS} (hi : i ≤ 3072) (h : Rel i σC σM) (x y v : Int32) : Sim_worth (Rel (i + 6)) x y v σC σM := by
  have hrel := h
  obtain ⟨T, L, G, H⟩ := h
  have H : RelB i T L G σC σM := H
  have hM := H.1.2.2.2.1
  have hGG := H.1.2.2.1
  have h7 : (2 : Nat) ^ tM T ≤ 2 ^ 7 := Nat.pow_le_pow_right (by decide) hM
  obtain ⟨hr, r1, r2, r3⟩ := Rel.hour H.2.2.2.2.2.1 hi
  rcases late_cases (n := 1000) (n1 := 1000) (by omega) (by omega) H x y v with ⟨σM', a1, a2, a3⟩ | ⟨b, s, z, hb, h0, hs, hz, hzs, rfl, rfl, rfl, a1, a2, a3, a4⟩
  · refine ⟨1000, 1000, cs_m1000, σC, σM', ?_, ?_, hrel.of (by omega) frC.rf a2⟩
    · unfold cTop_worth
      rcases a3 with a3 | ⟨a3, a4⟩
      · rw [a3, ob_def, if_pos rfl]; rfl
      · rw [a3, ob_def, if_neg one_ne, if_neg a4]; rfl
    · unfold m_worth
      rw [a1, ob_def, if_pos rfl]; rfl
  · have h3 : MTx T L (uI σM 0 40 ci_0) := H.2.2.1.of (fun _ _ _ => rfl)
    obtain ⟨l0, σ1, c1, c2, c3, c4, c5⟩ := c_prepE (n := 1000) (x := 1) (by omega) H.1 H.2.1 H.2.2.2.1 (H.2.2.2.2.2.1.2.1 b hb) hb hs (by omega) (by omega) r2
    obtain ⟨σ2, d1, d2, d3, d4, d5, d6⟩ := c_play (n := 1000) (z := z) (by omega) H.1 (H.2.2.2.2.2.1.up hi) r2 (by omega) hb hs hz hzs a4 c4 c5 c2
    obtain ⟨σ3, g1, g2, g3, g4⟩ := m_worthE (n := 1000) (z := z) (σ := uI σM 0 40 ci_0) (by omega) H.1 h3 H.2.2.2.2.1 (H.2.2.2.2.2.1.up hi) r2 (by omega) hb hs (by omega) a4
    refine ⟨1000, 1000, wt T L G b hr s z, σ2, σ3, ?_, ?_, hrel.of (by omega) ((c3.mono sc_59).trans (d4.mono sc_gm)) (frQw.trans g2)⟩
    · unfold cTop_worth
      rw [a1, ob_def, if_neg one_ne, if_pos a2]
      rw [show cRows_prepare 1000 (nI b) (nI s) ci_1 σC = some σ1 from c1, ob_def, d1, ob_def, c_worth (by omega) (by omega) hz (by rw [(d4 59 (by unfold scGm; decide)).1]; exact c2.1) d2, ob_def]
    · unfold m_worth
      rw [a3, ob_def, if_neg one_ne, g1, ob_def]
      rfl
