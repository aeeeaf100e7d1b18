/-! RESTS and BEST -/
theorem nI_s (j : Nat) : nI j + ci_1 = nI (j + 1) := nI_add j 1
/-- no one of the first j had a greater GAIN by the other thing -/
def rB (g : Nat → Nat → Int32) (s z : Nat) : Nat → Bool
  | 0 => true
  | j + 1 => rB g s z j && (!s.testBit j || decide (g (z ^^^ 2 ^ j) j ≤ g z j))
theorem rB_no {g : Nat → Nat → Int32} {s z j : Nat} (h : rB g s z j = false) : ∀ k, rB g s z (j + k) = false
  | 0 => h
  | k + 1 => by
    rw [← Nat.add_assoc, rB, rB_no h k]
    rfl
theorem rB_top {g : Nat → Nat → Int32} {s z M : Nat} (hs : s < 2 ^ M) : ∀ k, rB g s z (M + k) = rB g s z M
  | 0 => rfl
  | k + 1 => by
    have q : s.testBit (M + k) = false := Nat.testBit_lt_two_pow (Nat.lt_of_lt_of_le hs (Nat.pow_le_pow_right (by decide) (by omega)))
    rw [← Nat.add_assoc, rB, rB_top hs k, q]
    simp
/-- is z a set of LATE ones of s with which all rest -/
def isR (g : Nat → Nat → Int32) (s z : Nat) : Bool := decide ((s &&& z) = z) && rB g s z 7
def cR (g : Nat → Nat → Int32) (s : Nat) : Nat → Nat
  | 0 => 0
  | j + 1 => if isR g s j = true then cR g s j + 1 else cR g s j
theorem cR_le (g : Nat → Nat → Int32) (s : Nat) : ∀ j, cR g s j ≤ j
  | 0 => Nat.le_refl _
  | j + 1 => by
    have := cR_le g s j
    rw [cR]
    split <;> omega
theorem sb_le {s z : Nat} (h : (s &&& z) = z) : z ≤ s := by
  rw [← h]
  exact Nat.and_le_left
theorem isR_no {g : Nat → Nat → Int32} {s z : Nat} (h : s < z) : isR g s z = false := by
  unfold isR
  rw [decide_eq_false (fun e => by have := sb_le e; omega)]
  rfl
theorem cR_top (g : Nat → Nat → Int32) (s : Nat) : ∀ k, cR g s (s + 1 + k) = cR g s (s + 1)
  | 0 => rfl
  | k + 1 => by
    rw [← Nat.add_assoc, cR, isR_no (by omega), if_neg (by decide)]
    exact cR_top g s k
/-- the i-th that rests, looked for from j on, k of them -/
def fR (g : Nat → Nat → Int32) (s i : Nat) : Nat → Nat → Int32
  | 0, _ => -1
  | k + 1, j => if isR g s j = true ∧ cR g s j = i then nI j else fR g s i k (j + 1)
theorem fR_no (g : Nat → Nat → Int32) {s i : Nat} : ∀ k j, s < j → fR g s i k j = -1
  | 0, _, _ => rfl
  | k + 1, j, h => by
    rw [fR, isR_no h, if_neg (fun z => by cases z.1)]
    exact fR_no g k (j + 1) (by omega)
theorem fR_ext (g : Nat → Nat → Int32) {s i : Nat} : ∀ (a j b : Nat), j + a = s + 1 → fR g s i (a + b) j = fR g s i a j
  | 0, j, b, h => by
    rw [Nat.zero_add, fR_no g b j (by omega), fR]
  | a + 1, j, b, h => by
    rw [show a + 1 + b = (a + b) + 1 by omega, fR, fR, fR_ext g a (j + 1) b (by omega)]
theorem flip_sub {s z j : Nat} (h : (s &&& z) = z) (hj : s.testBit j = true) : (s &&& (z ^^^ 2 ^ j)) = z ^^^ 2 ^ j := by
  rw [sub_iff] at h ⊢
  intro m hm
  rw [Nat.testBit_xor, Nat.testBit_two_pow] at hm
  by_cases e : j = m
  · subst e
    exact hj
  · rw [decide_eq_false e, Bool.xor_false] at hm
    exact h m hm
theorem flip_eq {z j : Nat} (hj : j < 7) : nI z ^^^ (ci_1 <<< (nI j &&& 31)) = nI (z ^^^ 2 ^ j) := by
  rw [ci1_1, one_shl (by omega), nI_xor]
/-- all gains stand in the class's table -/
def Gains (g : Nat → Nat → Int32) (s : Nat) (σ : bS) : Prop := σ.1 59 10 = nI s ∧ ∀ z, (s &&& z) = z → ∀ m, s.testBit m = true → σ.2.1 69 (7 * z + m) = g z m
theorem c_choice {n s z : Nat} {σ : bS} (h : σ.1 59 10 = nI s) (hz : z < 2 ^ 31) : cGame_isChoice n (nI z) σ = some (if (s &&& z) = z then 1 else 0, σ) := by
  unfold cGame_isChoice cGame_isChoice_b19
  rw [sI_d, h]
  by_cases e : (s &&& z) = z
  · rw [if_pos (sub_off ((sub_iff s z).mp e)), if_pos e]; rfl
  · rw [if_neg (fun q => e ((sub_iff s z).mpr (off_sub hz q))), if_neg e]; rfl
theorem c_gainOf {n z m : Nat} {g : Int32} {σ : bS} (hz : z < 128) (hm : m < 7) (h : σ.2.1 69 (7 * z + m) = g) : cGame_gainOf n (nI z) (nI m) σ = some (g, σ) := by
  unfold cGame_gainOf
  rw [cb7_nI, nI_mul, nI_add, show z * 7 + m = 7 * z + m by omega, bin_nI (by omega) (by decide), sA_n _ _ (by omega), h]
theorem c_all_l {T : aT} {L : aL} {n b h s l0 : Nat} {G : aG} {σ0 : bS} (hn : 500 ≤ n) (hI : InvT T L) (hi : InvG T 5000 G) (hh : G 0 0 = nI h) (hx : h + 20 ≤ 170000) (hb : b < tG T) (hs : s < 2 ^ tM T) (hf : ∀ m, s.testBit m = true → m < tM T ∧ G 5 m = nI (tFoot T b)) : ∀ (k j : Nat) (σ : bS), CT T L σ → CG 27 G σ → Prep T L G b h s l0 1 σ → (∀ z, z < j → (s &&& z) = z → ∀ m, s.testBit m = true → σ.2.1 69 (7 * z + m) = gn T L G b h s z m) → frC scGm σ0 σ → j ≤ s + 1 → s + 1 < j + k → ∃ σ', cGame_playAll_b2 n k (nI j) σ = some σ' ∧ Gains (gn T L G b h s) s σ' ∧ frC scGm σ0 σ'
  | 0, j, σ, hT, hG, hP, a, f, h1, h2 => by omega
  | k + 1, j, σ, hT, hG, hP, a, f, h1, h2 => by
    have hM := hI.2.2.2.1
    have h7 : (2 : Nat) ^ tM T ≤ 2 ^ 7 := Nat.pow_le_pow_right (by decide) hM
    have e10 : sI σ 59 10 = nI s := hP.1
    rw [cGame_playAll_b2, e10]
    by_cases hj : j ≤ s
    · rw [if_neg (fun z => by have := (nI_ltI (a := s) (b := j) (by omega) (by omega)).mp z; omega), c_choice hP.1 (by omega), ob_def]
      by_cases e : (s &&& j) = j
      · rw [if_pos e]
        simp only [if_neg one_ne]
        obtain ⟨σ1, d1, d2, d3, d4, d5, d6⟩ := c_play (n := n) (z := j) hn hI hi hh hx hb hs (by omega) ((sub_iff s j).mp e) hf hT hG hP
        rw [d1, ob_def, cGame_playAll_b26, ci1_nI, nI_add]
        exact c_all_l hn hI hi hh hx hb hs hf k (j + 1) σ1 d5 d6 (hP.fr d4 (by unfold scGm; decide) (by unfold scGm; decide)) (fun z hz y m hm => by
          by_cases u : z = j
          · subst u
            exact d2 m hm
          · have := (hf m hm).1
            rw [d3 _ (by omega)]
            exact a z (by omega) y m hm) (f.trans d4) (by omega) (by omega)
      · rw [if_neg e]
        simp only [if_true]
        rw [cGame_playAll_b26, ci1_nI, nI_add]
        exact c_all_l hn hI hi hh hx hb hs hf k (j + 1) σ hT hG hP (fun z hz y m hm => by
          by_cases u : z = j
          · subst u
            exact absurd y e
          · exact a z (by omega) y m hm) f (by omega) (by omega)
    · have e : j = s + 1 := by omega
      subst e
      rw [if_pos ((nI_ltI (by omega) (by omega)).mpr (by omega))]
      exact ⟨σ, rfl, ⟨hP.1, fun z y m hm => a z (by have := sb_le y; omega) y m hm⟩, f⟩
theorem c_rest_l {n s z : Nat} {g : Nat → Nat → Int32} {σ : bS} (hs : s < 128) (hz : (s &&& z) = z) (H : Gains g s σ) : ∀ (k j : Nat), rB g s z j = true → j ≤ 7 → 7 < j + k → cGame_isRest_b2 n k (nI z) (nI j) σ = some (if rB g s z 7 = true then 1 else 0, σ)
  | 0, j, a, h1, h2 => by omega
  | k + 1, j, a, h1, h2 => by
    have hz2 := sb_le hz
    rw [cGame_isRest_b2, cb7_nI]
    by_cases hj : j < 7
    · rw [if_neg (nI_ge hj (by omega)), c_part H.1 (by omega) hj, ob_def]
      by_cases e : s.testBit j = true
      · have hz3 := flip_sub hz e
        have hz4 := sb_le hz3
        rw [if_pos e]
        simp only [if_neg one_ne]
        rw [flip_eq hj, c_gainOf (by omega) hj (H.2 _ hz3 j e), ob_def, c_gainOf (by omega) hj (H.2 _ hz j e), ob_def]
        by_cases q : g (z ^^^ 2 ^ j) j ≤ g z j
        · rw [if_pos q, cGame_isRest_b37, ci1_nI, nI_add]
          exact c_rest_l hs hz H k (j + 1) (by rw [rB, a, e, decide_eq_true q]; rfl) hj (by omega)
        · rw [if_neg q]
          have e2 : rB g s z (j + 1) = false := by rw [rB, a, e, decide_eq_false q]; rfl
          have e3 := rB_no e2 (7 - (j + 1))
          rw [show j + 1 + (7 - (j + 1)) = 7 by omega] at e3
          rw [e3]
          rfl
      · rw [if_neg e]
        simp only [if_true]
        rw [cGame_isRest_b37, ci1_nI, nI_add]
        have e0 : s.testBit j = false := by
          cases q : s.testBit j
          · rfl
          · exact absurd q e
        exact c_rest_l hs hz H k (j + 1) (by rw [rB, a, e0]; rfl) hj (by omega)
    · have e : j = 7 := by omega
      subst e
      rw [if_pos (Int32.le_refl _), a]
      rfl
theorem c_rest {n s z : Nat} {g : Nat → Nat → Int32} {σ : bS} (hn : 20 ≤ n) (hs : s < 128) (hz : (s &&& z) = z) (H : Gains g s σ) : cGame_isRest n (nI z) σ = some (if isR g s z = true then 1 else 0, σ) := by
  have e : isR g s z = rB g s z 7 := by
    unfold isR
    rw [decide_eq_true hz]
    rfl
  rw [e]
  exact c_rest_l hs hz H n 0 rfl (by omega) (by omega)
theorem m_rest_l {T : aT} {L : aL} {n b h s z : Nat} {G : aG} {σ0 : bS} (hn : 1000 ≤ n) (hI : InvT T L) (hi : InvG T 5000 G) (hh : G 0 0 = nI h) (hx : h + 20 ≤ 170000) (hb : b < tG T) (hs : s < 2 ^ tM T) (hz : (s &&& z) = z) (hf : ∀ m, s.testBit m = true → m < tM T ∧ G 5 m = nI (tFoot T b)) : ∀ (k j : Nat) (σ : bS), MTx T L σ → MG T 0 G σ → frQ σ0 σ → rB (gn T L G b h s) s z j = true → j ≤ tM T → tM T < j + k → ∃ σ', m_isRest_b3 n k (nI b) (nI s) (nI z) (nI j) σ = some (if rB (gn T L G b h s) s z (tM T) = true then 1 else 0, σ') ∧ frQ σ0 σ' ∧ MTx T L σ' ∧ MG T 0 G σ'
  | 0, j, σ, hT, hG, f, a, h1, h2 => by omega
  | k + 1, j, σ, hT, hG, f, a, h1, h2 => by
    have hM := hI.2.2.2.1
    have h7 : (2 : Nat) ^ tM T ≤ 2 ^ 7 := Nat.pow_le_pow_right (by decide) hM
    have hz2 := sb_le hz
    rw [m_isRest_b3, bin_c0 (by decide) (by decide), sA_c0, hT.1.2.2.2]
    by_cases hj : j < tM T
    · rw [if_neg (nI_ge hj (by omega)), bit_eq (by omega) (by omega)]
      by_cases e : s.testBit j = true
      · have hz3 := flip_sub hz e
        have hz4 := sb_le hz3
        obtain ⟨σ1, g1, g2, g3, g4, g5, g6, g7⟩ := m_gains (n := n) (z := z) hn hI hT hG hi hh hx hb hs (by omega) hf
        obtain ⟨σ2, k1, k2, k3, k4, k5, k6, k7⟩ := m_gains (n := n) (z := z ^^^ 2 ^ j) hn hI g6 g7 hi hh hx hb hs (by omega) hf
        rw [if_pos e, if_neg one_ne, g1, ob_def, bin_nI (by omega) (by decide), flip_eq (by omega), k1, ob_def, bin_nI (by omega) (by decide), sA_n _ _ (by omega), sA_n _ _ (by omega), k2 j e, g2 j e]
        by_cases q : gn T L G b h s (z ^^^ 2 ^ j) j ≤ gn T L G b h s z j
        · rw [if_pos q, m_isRest_b68, ci1_nI, nI_add]
          exact m_rest_l hn hI hi hh hx hb hs hz hf k (j + 1) σ2 k6 k7 (f.trans (g5.trans k5)) (by rw [rB, a, e, decide_eq_true q]; rfl) hj (by omega)
        · rw [if_neg q]
          have e2 : rB (gn T L G b h s) s z (j + 1) = false := by rw [rB, a, e, decide_eq_false q]; rfl
          have e3 := rB_no e2 (tM T - (j + 1))
          rw [show j + 1 + (tM T - (j + 1)) = tM T by omega] at e3
          rw [e3]
          exact ⟨σ2, rfl, f.trans (g5.trans k5), k6, k7⟩
      · have e0 : s.testBit j = false := by
          cases q : s.testBit j
          · rfl
          · exact absurd q e
        rw [if_neg e, if_pos rfl, m_isRest_b68, ci1_nI, nI_add]
        exact m_rest_l hn hI hi hh hx hb hs hz hf k (j + 1) σ hT hG f (by rw [rB, a, e0]; rfl) hj (by omega)
    · have e : j = tM T := by omega
      subst e
      rw [if_pos (Int32.le_refl _), a]
      exact ⟨σ, rfl, f, hT, hG⟩
theorem m_rest {T : aT} {L : aL} {n b h s z : Nat} {G : aG} {σ : bS} (hn : 1000 ≤ n) (hI : InvT T L) (hi : InvG T 5000 G) (hh : G 0 0 = nI h) (hx : h + 20 ≤ 170000) (hb : b < tG T) (hs : s < 2 ^ tM T) (hz : (s &&& z) = z) (hf : ∀ m, s.testBit m = true → m < tM T ∧ G 5 m = nI (tFoot T b)) (hT : MTx T L σ) (hG : MG T 0 G σ) : ∃ σ', m_isRest n (nI b) (nI s) (nI z) σ = some (if isR (gn T L G b h s) s z = true then 1 else 0, σ') ∧ frQ σ σ' ∧ MTx T L σ' ∧ MG T 0 G σ' := by
  have hM := hI.2.2.2.1
  have e : isR (gn T L G b h s) s z = rB (gn T L G b h s) s z (tM T) := by
    unfold isR
    rw [decide_eq_true hz, show 7 = tM T + (7 - tM T) by omega, rB_top hs]
    rfl
  rw [e]
  exact m_rest_l hn hI hi hh hx hb hs hz hf n 0 σ hT hG frQ.rf rfl (by omega) (by omega)
theorem c_count_l {n s : Nat} {g : Nat → Nat → Int32} {σ : bS} (hn : 20 ≤ n) (hs : s < 128) (H : Gains g s σ) : ∀ (k j : Nat), j ≤ s + 1 → s + 1 < j + k → cGame_countRests_b4 n k (nI (cR g s j)) (nI j) σ = some (nI (cR g s (s + 1)), σ)
  | 0, j, h1, h2 => by omega
  | k + 1, j, h1, h2 => by
    have e10 : sI σ 59 10 = nI s := H.1
    rw [cGame_countRests_b4, e10]
    by_cases hj : j ≤ s
    · rw [if_neg (fun z => by have := (nI_ltI (a := s) (b := j) (by omega) (by omega)).mp z; omega), c_choice H.1 (by omega), ob_def]
      have ih := c_count_l hn hs H k (j + 1) (by omega) (by omega)
      by_cases e : (s &&& j) = j
      · rw [if_pos e]
        simp only [if_neg one_ne]
        rw [c_rest hn hs e H, ob_def]
        by_cases q : isR g s j = true
        · rw [if_pos q]
          simp only [if_neg one_ne]
          rw [cGame_countRests_b34, ci1_nI, nI_add, nI_add, show cR g s j + 1 = cR g s (j + 1) by rw [cR, if_pos q]]
          exact ih
        · rw [if_neg q]
          simp only [if_true]
          rw [cGame_countRests_b34, ci1_nI, nI_add, show cR g s j = cR g s (j + 1) by rw [cR, if_neg q]]
          exact ih
      · have q : ¬ isR g s j = true := by
          unfold isR
          rw [decide_eq_false e]
          exact Bool.false_ne_true
        rw [if_neg e]
        simp only [if_true]
        rw [cGame_countRests_b34, ci1_nI, nI_add, show cR g s j = cR g s (j + 1) by rw [cR, if_neg q]]
        exact ih
    · have e : j = s + 1 := by omega
      subst e
      rw [if_pos ((nI_ltI (by omega) (by omega)).mpr (by omega))]
theorem c_restAt_l {n s i : Nat} {g : Nat → Nat → Int32} {σ : bS} (hn : 20 ≤ n) (hs : s < 128) (hi : i < 2 ^ 31) (H : Gains g s σ) : ∀ (k j : Nat), j ≤ s + 1 → s + 1 < j + k → cGame_restAt_b4 n k (nI i) (nI (cR g s j)) (nI j) σ = some (fR g s i (s + 1 - j) j, σ)
  | 0, j, h1, h2 => by omega
  | k + 1, j, h1, h2 => by
    have e10 : sI σ 59 10 = nI s := H.1
    have hc := cR_le g s j
    rw [cGame_restAt_b4, e10]
    by_cases hj : j ≤ s
    · rw [if_neg (fun z => by have := (nI_ltI (a := s) (b := j) (by omega) (by omega)).mp z; omega), c_choice H.1 (by omega), ob_def]
      have ih := c_restAt_l hn hs hi H k (j + 1) (by omega) (by omega)
      have ef : fR g s i (s + 1 - j) j = if isR g s j = true ∧ cR g s j = i then nI j else fR g s i (s + 1 - (j + 1)) (j + 1) := by
        rw [show s + 1 - j = (s + 1 - (j + 1)) + 1 by omega, fR]
      rw [ef]
      by_cases e : (s &&& j) = j
      · rw [if_pos e]
        simp only [if_neg one_ne]
        rw [c_rest hn hs e H, ob_def]
        by_cases q : isR g s j = true
        · rw [if_pos q]
          simp only [if_neg one_ne]
          by_cases y : cR g s j = i
          · rw [if_pos (by rw [y]), if_pos ⟨q, y⟩]
          · rw [if_neg (fun u => y (nI_inj (by omega) hi u)), if_neg (fun u => y u.2), cGame_restAt_b41, ci1_nI, nI_add, nI_add, show cR g s j + 1 = cR g s (j + 1) by rw [cR, if_pos q]]
            exact ih
        · rw [if_neg q]
          simp only [if_true]
          rw [if_neg (fun u => q u.1), cGame_restAt_b41, ci1_nI, nI_add, show cR g s j = cR g s (j + 1) by rw [cR, if_neg q]]
          exact ih
      · have q : ¬ isR g s j = true := by
          unfold isR
          rw [decide_eq_false e]
          exact Bool.false_ne_true
        rw [if_neg e]
        simp only [if_true]
        rw [if_neg (fun u => q u.1), cGame_restAt_b41, ci1_nI, nI_add, show cR g s j = cR g s (j + 1) by rw [cR, if_neg q]]
        exact ih
    · have e : j = s + 1 := by omega
      subst e
      rw [if_pos ((nI_ltI (by omega) (by omega)).mpr (by omega)), Nat.sub_self, fR, cim1]
/-- what rests(.., i) answers; x is i -/
def aR (g : Nat → Nat → Int32) (s : Nat) (x : Int32) (k j : Nat) : Int32 := if x = -1 then nI (cR g s (j + k)) else fR g s x.toNatClampNeg k j
theorem m_rests_l {T : aT} {L : aL} {n b h s : Nat} {G : aG} {x : Int32} {σ0 : bS} (hn : 1000 ≤ n) (hI : InvT T L) (hi : InvG T 5000 G) (hh : G 0 0 = nI h) (hx : h + 20 ≤ 170000) (hb : b < tG T) (hs : s < 2 ^ tM T) (hf : ∀ m, s.testBit m = true → m < tM T ∧ G 5 m = nI (tFoot T b)) (hv : x = -1 ∨ ∃ i, i < 2 ^ 31 ∧ x = nI i) : ∀ (k j : Nat) (σ : bS), MTx T L σ → MG T 0 G σ → frQ σ0 σ → j ≤ 2 ^ tM T → 2 ^ tM T < j + k → ∃ σ', m_rests_b34 n k (nI b) (nI s) x (nI (cR (gn T L G b h s) s j)) (nI j) σ = some (aR (gn T L G b h s) s x (2 ^ tM T - j) j, σ') ∧ frQ σ0 σ'
  | 0, j, σ, hT, hG, f, h1, h2 => by omega
  | k + 1, j, σ, hT, hG, f, h1, h2 => by
    have hM := hI.2.2.2.1
    have h7 : (2 : Nat) ^ tM T ≤ 2 ^ 7 := Nat.pow_le_pow_right (by decide) hM
    have hc := cR_le (gn T L G b h s) s j
    rw [m_rests_b34, bin_c0 (by decide) (by decide), sA_c0, hT.1.2.2.2, ci1_1, one_shl hM]
    by_cases hj : j < 2 ^ tM T
    · have no : ¬ isR (gn T L G b h s) s j = true → aR (gn T L G b h s) s x (2 ^ tM T - j) j = aR (gn T L G b h s) s x (2 ^ tM T - (j + 1)) (j + 1) := fun q => by
        have ef : fR (gn T L G b h s) s x.toNatClampNeg ((2 ^ tM T - (j + 1)) + 1) j = fR (gn T L G b h s) s x.toNatClampNeg (2 ^ tM T - (j + 1)) (j + 1) := by rw [fR, if_neg (fun u => q u.1)]
        unfold aR
        rw [show j + (2 ^ tM T - j) = j + 1 + (2 ^ tM T - (j + 1)) by omega, show 2 ^ tM T - j = (2 ^ tM T - (j + 1)) + 1 by omega, ef]
      rw [if_neg (nI_ge hj (by omega))]
      by_cases e : (s &&& j) = j
      · obtain ⟨σ1, g1, g2, g3, g4⟩ := m_rest (n := n) (z := j) hn hI hi hh hx hb hs e hf hT hG
        rw [if_pos (sub_off ((sub_iff s j).mp e)), g1, ob_def]
        by_cases q : isR (gn T L G b h s) s j = true
        · rw [if_pos q]
          simp only [if_neg one_ne]
          by_cases y : nI (cR (gn T L G b h s) s j) = x
          · rw [if_pos y]
            refine ⟨σ1, ?_, f.trans g2⟩
            unfold aR
            rw [← y, if_neg (nI_m1 (by omega)), nI_clamp (by omega), show 2 ^ tM T - j = (2 ^ tM T - (j + 1)) + 1 by omega, fR, if_pos ⟨q, rfl⟩]
          · rw [if_neg y, m_rests_b82, nI_s j, show (nI (cR (gn T L G b h s) s j) + 1 : Int32) = nI (cR (gn T L G b h s) s j + 1) from nI_add _ 1, show cR (gn T L G b h s) s j + 1 = cR (gn T L G b h s) s (j + 1) by rw [cR, if_pos q]]
            obtain ⟨σ2, k1, k2⟩ := m_rests_l hn hI hi hh hx hb hs hf hv k (j + 1) σ1 g3 g4 (f.trans g2) (by omega) (by omega)
            refine ⟨σ2, ?_, k2⟩
            rw [k1]
            unfold aR
            rw [show j + (2 ^ tM T - j) = j + 1 + (2 ^ tM T - (j + 1)) by omega, show 2 ^ tM T - j = (2 ^ tM T - (j + 1)) + 1 by omega, fR]
            rcases hv with rfl | ⟨i, h3, rfl⟩
            · rw [if_pos rfl, if_pos rfl]
            · rw [if_neg (nI_m1 h3), if_neg (nI_m1 h3), nI_clamp h3, if_neg (fun u => y (by rw [u.2]))]
        · rw [if_neg q]
          simp only [if_true]
          rw [m_rests_b82, nI_s j, show cR (gn T L G b h s) s j = cR (gn T L G b h s) s (j + 1) by rw [cR, if_neg q], no q]
          exact m_rests_l hn hI hi hh hx hb hs hf hv k (j + 1) σ1 g3 g4 (f.trans g2) (by omega) (by omega)
      · have q : ¬ isR (gn T L G b h s) s j = true := by
          unfold isR
          rw [decide_eq_false e]
          exact Bool.false_ne_true
        rw [if_neg (fun u => e ((sub_iff s j).mpr (off_sub (by omega) u))), m_rests_b82, nI_s j, show cR (gn T L G b h s) s j = cR (gn T L G b h s) s (j + 1) by rw [cR, if_neg q], no q]
        exact m_rests_l hn hI hi hh hx hb hs hf hv k (j + 1) σ hT hG f (by omega) (by omega)
    · have e : j = 2 ^ tM T := by omega
      rw [if_pos (by rw [e]; exact Int32.le_refl _)]
      refine ⟨σ, ?_, f⟩
      unfold aR
      rw [e, Nat.sub_self, Nat.add_zero, fR, cim1]
      split <;> rfl
theorem sim_rests {i : Nat} {σC σM : bS} (hi : i ≤ 3072) (h : Rel i σC σM) (x y v : Int32) : Sim_rests (Rel (i + 6)) x y v σC σM := by
  have hrel := h
  obtain ⟨T, L, G, H⟩ := h
  have H : RelB i T L G σC σM := H
  have hM := H.1.2.2.2.1
  have hGG := H.1.2.2.1
  have h7 : (2 : Nat) ^ tM T ≤ 2 ^ 7 := Nat.pow_le_pow_right (by decide) hM
  obtain ⟨hr, r1, r2, r3⟩ := Rel.hour H.2.2.2.2.2.1 hi
  by_cases hv : ci_m1 ≤ v
  · rcases row_cases (n := 1000) (n1 := 1000) (by omega) (by omega) H x y with ⟨a1, a2⟩ | ⟨b, s, hb, h0, hs, rfl, rfl, a2, ⟨a3, a4⟩ | ⟨a3, a4, a5⟩⟩
    · refine ⟨1000, 1000, -1, σC, σM, ?_, ?_, hrel.mono (by omega)⟩
      · unfold cTop_rests
        rw [if_pos hv, a1, ob_def, cTop_rests_b15, if_neg m1_ne]
      · unfold m_rests
        rw [a2, ob_def, if_pos rfl, m_rests_b14, cim1]
    · refine ⟨1000, 1000, -2, σC, uI σM 0 40 ci_0, ?_, ?_, hrel.of (by omega) frC.rf frQw⟩
      · unfold cTop_rests
        rw [if_pos hv, a3, ob_def, cTop_rests_b15, if_neg m2_ne]
      · unfold m_rests
        rw [a2, ob_def, if_neg one_ne, if_pos hv, a4, ob_def, if_pos rfl, cbm2]
    · have h3 : MTx T L (uI σM 0 40 ci_0) := H.2.2.1.of (fun _ _ _ => rfl)
      have hv2 : v = -1 ∨ ∃ i, i < 2 ^ 31 ∧ v = nI i := by
        by_cases z : v < 0
        · left
          rw [cim1, Int32.le_iff_toInt_le] at hv
          rw [Int32.lt_iff_toInt_lt] at z
          apply Int32.toInt_inj.mp
          have q1 : (-1 : Int32).toInt = -1 := by decide
          have q2 : (0 : Int32).toInt = 0 := by decide
          omega
        · right
          obtain ⟨j, hj, e⟩ := nI_of z
          exact ⟨j, hj, e⟩
      obtain ⟨l0, σ1, c1, c2, c3, c4, c5⟩ := c_prepE (n := 1000) (x := 1) (by omega) H.1 H.2.1 H.2.2.2.1 (H.2.2.2.2.2.1.2.1 b hb) hb hs (by omega) (by omega) r2
      obtain ⟨σ2, d1, d2, d3⟩ := c_all_l (n := 1000) (σ0 := σ1) (by omega) H.1 (H.2.2.2.2.2.1.up hi) r2 (by omega) hb hs a5 1000 0 σ1 c4 c5 c2 (fun z hz => by omega) frC.rf (by omega) (by omega)
      obtain ⟨σ3, g1, g2⟩ := m_rests_l (n := 1000) (σ0 := uI σM 0 40 ci_0) (by omega) H.1 (H.2.2.2.2.2.1.up hi) r2 (by omega) hb hs a5 hv2 1000 0 (uI σM 0 40 ci_0) h3 H.2.2.2.2.1 frQ.rf (by omega) (by omega)
      refine ⟨1000, 1000, aR (gn T L G b hr s) s v (2 ^ tM T - 0) 0, σ2, σ3, ?_, ?_, hrel.of (by omega) ((c3.mono sc_59).trans (d3.mono sc_gm)) (frQw.trans g2)⟩
      · unfold cTop_rests
        rw [if_pos hv, a3, ob_def, cTop_rests_b15, if_pos rfl]
        rw [show cRows_prepare 1000 (nI b) (nI s) ci_1 σC = some σ1 from c1, ob_def, show cGame_playAll 1000 σ1 = some σ2 from d1, ob_def, cim1]
        unfold aR
        rcases hv2 with rfl | ⟨j, hj, rfl⟩
        · rw [if_pos rfl, if_pos rfl]
          rw [show cGame_countRests 1000 σ2 = some (nI (cR (gn T L G b hr s) s (s + 1)), σ2) from c_count_l (by omega) (by omega) d2 1000 0 (by omega) (by omega), ob_def, cTop_rests_b65]
          have e := cR_top (gn T L G b hr s) s (2 ^ tM T - (s + 1))
          rw [show s + 1 + (2 ^ tM T - (s + 1)) = 0 + (2 ^ tM T - 0) by omega] at e
          rw [e]
        · rw [if_neg (nI_m1 hj), if_neg (nI_m1 hj), nI_clamp hj]
          rw [show cGame_restAt 1000 (nI j) σ2 = some (fR (gn T L G b hr s) s j (s + 1 - 0) 0, σ2) from c_restAt_l (by omega) (by omega) hj d2 1000 0 (by omega) (by omega), ob_def, cTop_rests_b65]
          have e := fR_ext (gn T L G b hr s) (s := s) (i := j) (s + 1 - 0) 0 (2 ^ tM T - (s + 1)) (by omega)
          rw [show s + 1 - 0 + (2 ^ tM T - (s + 1)) = 2 ^ tM T - 0 by omega] at e
          rw [e]
      · unfold m_rests
        rw [a2, ob_def, if_neg one_ne, if_pos hv, a4, ob_def, if_neg one_ne]
        exact g1
  · refine ⟨1000, 1000, -1, σC, σM, ?_, ?_, hrel.mono (by omega)⟩
    · unfold cTop_rests
      rw [if_neg hv, cTop_rests_b15, if_neg (by decide), cim1]
    · unfold m_rests
      rcases row_cases (n := 1000) (n1 := 1000) (by omega) (by omega) H x y with ⟨a1, a2⟩ | ⟨b, s, hb, h0, hs, rfl, rfl, a2, -⟩
      · rw [a2, ob_def, if_pos rfl, m_rests_b14, cim1]
      · rw [a2, ob_def, if_neg one_ne, if_neg hv, m_rests_b14, cim1]
