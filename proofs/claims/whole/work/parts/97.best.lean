/-! BEST: the most WORTH, and what is lost -/
theorem clamp_in (x : Int32) : -99 ≤ (clamp x cb_m99 cb_99).toInt ∧ (clamp x cb_m99 cb_99).toInt ≤ 99 := by
  have q1 : cb_m99.toInt = -99 := by decide
  have q2 : cb_99.toInt = 99 := by decide
  unfold clamp
  split
  · rename_i h
    rw [Int32.le_iff_toInt_le] at h
    split
    · rename_i h2
      rw [Int32.le_iff_toInt_le] at h2
      omega
    · omega
  · omega
theorem gain_in0 : ∀ p : Fin 8, -99 ≤ ((cb_20 * 0) - nI p.val).toInt ∧ ((cb_20 * 0) - nI p.val).toInt ≤ 99 := by decide +kernel
theorem gain_in1 : ∀ p : Fin 8, -99 ≤ ((cb_20 * 1) - nI p.val).toInt ∧ ((cb_20 * 1) - nI p.val).toInt ≤ 99 := by decide +kernel
theorem sGain_in {T : aT} {L : aL} {G : aG} {m p h : Nat} {y : Int32} (hp : p ≤ 7) (hy : y = 0 ∨ y = 1) : -99 ≤ (sGain T L G m p h y).toInt ∧ (sGain T L G m p h y).toInt ≤ 99 := by
  unfold sGain
  split
  · rcases hy with rfl | rfl
    · exact gain_in0 ⟨p, by omega⟩
    · exact gain_in1 ⟨p, by omega⟩
  · exact clamp_in _
theorem gn_in {T : aT} {L : aL} {G : aG} {b h s z m : Nat} : -99 ≤ (gn T L G b h s z m).toInt ∧ (gn T L G b h s z m).toInt ≤ 99 := by
  unfold gn
  exact sGain_in (Nat.le_trans List.idxOf_le_length (rowL_len (by omega))) (gY_01 _ _ _)
theorem toInt_add_s {a b : Int32} {x y : Int} (ha : -x ≤ a.toInt ∧ a.toInt ≤ x) (hb : -y ≤ b.toInt ∧ b.toInt ≤ y) (h : x + y ≤ 2000000) : (a + b).toInt = a.toInt + b.toInt := by
  rw [Int32.toInt_add]
  exact Int.bmod_eq_of_le_mul_two (by omega) (by omega)
theorem wS_in {g : Nat → Int32} {s : Nat} (hg : ∀ m, -99 ≤ (g m).toInt ∧ (g m).toInt ≤ 99) : ∀ j : Nat, j ≤ 7 → -(99 * (j : Int)) ≤ (wS g s j).toInt ∧ (wS g s j).toInt ≤ 99 * (j : Int)
  | 0, _ => by
    show -(99 * (0 : Int)) ≤ (0 : Int32).toInt ∧ (0 : Int32).toInt ≤ 99 * (0 : Int)
    decide
  | j + 1, h => by
    have ih := wS_in (s := s) hg j (by omega)
    have hm := hg j
    rw [wS]
    split
    · rw [toInt_add_s (x := 99 * (j : Int)) (y := 99) (by omega) (by omega) (by omega)]
      omega
    · omega
theorem wt_in {T : aT} {L : aL} {G : aG} {b h s z : Nat} : -693 ≤ (wt T L G b h s z).toInt ∧ (wt T L G b h s z).toInt ≤ 693 := by
  have := wS_in (g := gn T L G b h s z) (s := s) (fun m => gn_in) 7 (by omega)
  unfold wt
  omega
def mW (w : Nat → Int32) (s : Nat) : Nat → Int32
  | 0 => cs_m1000
  | j + 1 => if (s &&& j) = j ∧ ¬ w j ≤ mW w s j then w j else mW w s j
def lW (c : Int32) (g : Nat → Nat → Int32) (w : Nat → Int32) (s : Nat) : Nat → Int32
  | 0 => c
  | j + 1 => if isR g s j = true ∧ ¬ lW c g w s j ≤ w j then w j else lW c g w s j
theorem mW_top (w : Nat → Int32) (s : Nat) : ∀ k, mW w s (s + 1 + k) = mW w s (s + 1)
  | 0 => rfl
  | k + 1 => by
    rw [← Nat.add_assoc, mW, if_neg (fun u => by have := sb_le u.1; omega)]
    exact mW_top w s k
theorem lW_top (c : Int32) (g : Nat → Nat → Int32) (w : Nat → Int32) (s : Nat) : ∀ k, lW c g w s (s + 1 + k) = lW c g w s (s + 1)
  | 0 => rfl
  | k + 1 => by
    rw [← Nat.add_assoc, lW, isR_no (by omega), if_neg (fun u => by cases u.1)]
    exact lW_top c g w s k
theorem lW_rel {g : Nat → Nat → Int32} {w : Nat → Int32} {s : Nat} (hw : ∀ z, -693 ≤ (w z).toInt ∧ (w z).toInt ≤ 693) : ∀ j, (cR g s j = 0 ∧ lW cs_1000 g w s j = cs_1000 ∧ lW (1073741824 : Int32) g w s j = (1073741824 : Int32)) ∨ (¬ cR g s j = 0 ∧ lW cs_1000 g w s j = lW (1073741824 : Int32) g w s j ∧ (lW cs_1000 g w s j).toInt ≤ 693)
  | 0 => Or.inl ⟨rfl, rfl, rfl⟩
  | j + 1 => by
    have q1 : cs_1000.toInt = 1000 := by decide
    have q2 : (1073741824 : Int32).toInt = 1073741824 := by decide
    have h := hw j
    have ih := lW_rel (g := g) (s := s) hw j
    rw [cR, lW, lW]
    by_cases q : isR g s j = true
    · right
      rw [if_pos q]
      rcases ih with ⟨a1, a2, a3⟩ | ⟨a1, a2, a3⟩
      · rw [a2, a3, if_pos ⟨q, by rw [Int32.le_iff_toInt_le]; omega⟩, if_pos ⟨q, by rw [Int32.le_iff_toInt_le]; omega⟩]
        exact ⟨by omega, rfl, h.2⟩
      · rw [← a2]
        refine ⟨by omega, rfl, ?_⟩
        split
        · exact h.2
        · exact a3
    · rw [if_neg q, if_neg (fun u => q u.1), if_neg (fun u => q u.1)]
      exact ih
theorem c_most_l {n s : Nat} {w : Nat → Int32} {σ : bS} (hs : s < 128) (h59 : σ.1 59 10 = nI s) (hw : ∀ z, (s &&& z) = z → cGame_worthOf n (nI z) σ = some (w z, σ)) : ∀ (k j : Nat), j ≤ s + 1 → s + 1 < j + k → cGame_mostWorth_b8 n k (mW w s j) (nI j) σ = some (mW w s (s + 1), σ)
  | 0, j, h1, h2 => by omega
  | k + 1, j, h1, h2 => by
    have e10 : sI σ 59 10 = nI s := h59
    rw [cGame_mostWorth_b8, e10]
    by_cases hj : j ≤ s
    · have ih := c_most_l hs h59 hw k (j + 1) (by omega) (by omega)
      rw [if_neg (fun z => by have := (nI_ltI (a := s) (b := j) (by omega) (by omega)).mp z; omega), c_choice h59 (by omega), ob_def]
      by_cases e : (s &&& j) = j
      · rw [if_pos e]
        simp only [if_neg one_ne]
        rw [hw j e, ob_def]
        have key : cj_max n (mW w s j) (w j) σ = some (mW w s (j + 1), σ) := by
          unfold cj_max
          rw [mW]
          by_cases y : mW w s j < w j
          · rw [if_pos y, if_pos ⟨e, Int32.not_le.mpr y⟩]; rfl
          · rw [if_neg y, if_neg (fun u => y (Int32.not_le.mp u.2))]; rfl
        rw [key, ob_def, cGame_mostWorth_b37, ci1_nI, nI_add]
        exact ih
      · rw [if_neg e]
        simp only [if_true]
        rw [cGame_mostWorth_b37, ci1_nI, nI_add, show mW w s j = mW w s (j + 1) by rw [mW, if_neg (fun u => e u.1)]]
        exact ih
    · have e : j = s + 1 := by omega
      subst e
      rw [if_pos ((nI_ltI (by omega) (by omega)).mpr (by omega))]
theorem c_least_l {n s : Nat} {c : Int32} {g : Nat → Nat → Int32} {w : Nat → Int32} {σ : bS} (hn : 20 ≤ n) (hs : s < 128) (H : Gains g s σ) (hw : ∀ z, (s &&& z) = z → cGame_worthOf n (nI z) σ = some (w z, σ)) : ∀ (k j : Nat), j ≤ s + 1 → s + 1 < j + k → cGame_leastRestingWorth_b5 n k (lW c g w s j) (nI j) σ = some (lW c g w s (s + 1), σ)
  | 0, j, h1, h2 => by omega
  | k + 1, j, h1, h2 => by
    have e10 : sI σ 59 10 = nI s := H.1
    rw [cGame_leastRestingWorth_b5, e10]
    by_cases hj : j ≤ s
    · have ih := c_least_l (c := c) hn hs H hw k (j + 1) (by omega) (by omega)
      rw [if_neg (fun z => by have := (nI_ltI (a := s) (b := j) (by omega) (by omega)).mp z; omega), c_choice H.1 (by omega), ob_def]
      have no : ¬ isR g s j = true → lW c g w s j = lW c g w s (j + 1) := fun q => by rw [lW, if_neg (fun u => q u.1)]
      by_cases e : (s &&& j) = j
      · rw [if_pos e]
        simp only [if_neg one_ne]
        rw [c_rest hn hs e H, ob_def]
        by_cases q : isR g s j = true
        · rw [if_pos q]
          simp only [if_neg one_ne]
          rw [hw j e, ob_def]
          have key : cj_min n (lW c g w s j) (w j) σ = some (lW c g w s (j + 1), σ) := by
            unfold cj_min
            rw [lW]
            by_cases y : w j < lW c g w s j
            · rw [if_pos y, if_pos ⟨q, Int32.not_le.mpr y⟩]; rfl
            · rw [if_neg y, if_neg (fun u => y (Int32.not_le.mp u.2))]; rfl
          rw [key, ob_def, cGame_leastRestingWorth_b42, ci1_nI, nI_add]
          exact ih
        · rw [if_neg q]
          simp only [if_true]
          rw [cGame_leastRestingWorth_b42, ci1_nI, nI_add, no q]
          exact ih
      · have q : ¬ isR g s j = true := by
          unfold isR
          rw [decide_eq_false e]
          exact Bool.false_ne_true
        rw [if_neg e]
        simp only [if_true]
        rw [cGame_leastRestingWorth_b42, ci1_nI, nI_add, no q]
        exact ih
    · have e : j = s + 1 := by omega
      subst e
      rw [if_pos ((nI_ltI (by omega) (by omega)).mpr (by omega))]
/-- what best() answers, by the sets below N -/
def aB (g : Nat → Nat → Int32) (w : Nat → Int32) (s : Nat) (x : Int32) (N : Nat) : Int32 := if x = 0 then mW w s N else if lW cs_1000 g w s N = cs_1000 then cs_m1000 else mW w s N - lW cs_1000 g w s N
theorem m_best_l {T : aT} {L : aL} {n b h s : Nat} {G : aG} {x : Int32} {σ0 : bS} (hn : 1000 ≤ n) (hI : InvT T L) (hi : InvG T 5000 G) (hh : G 0 0 = nI h) (hx : h + 20 ≤ 170000) (hb : b < tG T) (hs : s < 2 ^ tM T) (hf : ∀ m, s.testBit m = true → m < tM T ∧ G 5 m = nI (tFoot T b)) : ∀ (k j : Nat) (σ : bS), MTx T L σ → MG T 0 G σ → frQ σ0 σ → j ≤ 2 ^ tM T → 2 ^ tM T < j + k → ∃ σ', m_best_b35 n k (nI b) (nI s) x (mW (wt T L G b h s) s j) (lW cs_1000 (gn T L G b h s) (wt T L G b h s) s j) (nI j) σ = some (aB (gn T L G b h s) (wt T L G b h s) s x (2 ^ tM T), σ') ∧ frQ σ0 σ'
  | 0, j, σ, hT, hG, f, h1, h2 => by omega
  | k + 1, j, σ, hT, hG, f, h1, h2 => by
    have hM := hI.2.2.2.1
    have h7 : (2 : Nat) ^ tM T ≤ 2 ^ 7 := Nat.pow_le_pow_right (by decide) hM
    rw [m_best_b35, bin_c0 (by decide) (by decide), sA_c0, hT.1.2.2.2, ci1_1, one_shl hM]
    by_cases hj : j < 2 ^ tM T
    · rw [if_neg (nI_ge hj (by omega))]
      by_cases e : (s &&& j) = j
      · obtain ⟨σ1, g1, g2, g3, g4⟩ := m_worthE (n := n) (z := j) hn hI hT hG hi hh hx hb hs (by omega) hf
        rw [if_pos (sub_off ((sub_iff s j).mp e)), g1, ob_def]
        have key : (if wt T L G b h s j ≤ mW (wt T L G b h s) s j then m_best_b81 n (m_best_b35 n k) (nI b) (nI s) x (mW (wt T L G b h s) s j) (lW cs_1000 (gn T L G b h s) (wt T L G b h s) s j) (nI j) (wt T L G b h s j) σ1 else m_best_b81 n (m_best_b35 n k) (nI b) (nI s) x (wt T L G b h s j) (lW cs_1000 (gn T L G b h s) (wt T L G b h s) s j) (nI j) (wt T L G b h s j) σ1) = m_best_b81 n (m_best_b35 n k) (nI b) (nI s) x (mW (wt T L G b h s) s (j + 1)) (lW cs_1000 (gn T L G b h s) (wt T L G b h s) s j) (nI j) (wt T L G b h s j) σ1 := by
          rw [mW]
          by_cases y : wt T L G b h s j ≤ mW (wt T L G b h s) s j
          · rw [if_pos y, if_neg (fun u => u.2 y)]
          · rw [if_neg y, if_pos ⟨e, y⟩]
        show ∃ σ', (if wt T L G b h s j ≤ mW (wt T L G b h s) s j then m_best_b81 n (m_best_b35 n k) (nI b) (nI s) x (mW (wt T L G b h s) s j) (lW cs_1000 (gn T L G b h s) (wt T L G b h s) s j) (nI j) (wt T L G b h s j) σ1 else m_best_b81 n (m_best_b35 n k) (nI b) (nI s) x (wt T L G b h s j) (lW cs_1000 (gn T L G b h s) (wt T L G b h s) s j) (nI j) (wt T L G b h s j) σ1) = _ ∧ _
        rw [key, m_best_b81]
        by_cases y : lW cs_1000 (gn T L G b h s) (wt T L G b h s) s j ≤ wt T L G b h s j
        · rw [if_pos y, m_best_b103, show (nI j + ci_1 : Int32) = nI (j + 1) from nI_add _ 1, show lW cs_1000 (gn T L G b h s) (wt T L G b h s) s j = lW cs_1000 (gn T L G b h s) (wt T L G b h s) s (j + 1) by rw [lW, if_neg (fun u => u.2 y)]]
          exact m_best_l hn hI hi hh hx hb hs hf k (j + 1) σ1 g3 g4 (f.trans g2) (by omega) (by omega)
        · obtain ⟨σ2, k1, k2, k3, k4⟩ := m_rest (n := n) (z := j) hn hI hi hh hx hb hs e hf g3 g4
          rw [if_neg y, k1, ob_def]
          by_cases q : isR (gn T L G b h s) s j = true
          · rw [if_pos q]
            simp only [if_neg one_ne]
            rw [m_best_b103, show (nI j + ci_1 : Int32) = nI (j + 1) from nI_add _ 1, show wt T L G b h s j = lW cs_1000 (gn T L G b h s) (wt T L G b h s) s (j + 1) by rw [lW, if_pos ⟨q, y⟩]]
            exact m_best_l hn hI hi hh hx hb hs hf k (j + 1) σ2 k3 k4 (f.trans (g2.trans k2)) (by omega) (by omega)
          · rw [if_neg q]
            simp only [if_true]
            rw [m_best_b103, show (nI j + ci_1 : Int32) = nI (j + 1) from nI_add _ 1, show lW cs_1000 (gn T L G b h s) (wt T L G b h s) s j = lW cs_1000 (gn T L G b h s) (wt T L G b h s) s (j + 1) by rw [lW, if_neg (fun u => q u.1)]]
            exact m_best_l hn hI hi hh hx hb hs hf k (j + 1) σ2 k3 k4 (f.trans (g2.trans k2)) (by omega) (by omega)
      · have q : ¬ isR (gn T L G b h s) s j = true := by
          unfold isR
          rw [decide_eq_false e]
          exact Bool.false_ne_true
        rw [if_neg (fun u => e ((sub_iff s j).mpr (off_sub (by omega) u))), m_best_b103, show (nI j + ci_1 : Int32) = nI (j + 1) from nI_add _ 1, show lW cs_1000 (gn T L G b h s) (wt T L G b h s) s j = lW cs_1000 (gn T L G b h s) (wt T L G b h s) s (j + 1) by rw [lW, if_neg (fun u => q u.1)], show mW (wt T L G b h s) s j = mW (wt T L G b h s) s (j + 1) by rw [mW, if_neg (fun u => e u.1)]]
        exact m_best_l hn hI hi hh hx hb hs hf k (j + 1) σ hT hG f (by omega) (by omega)
    · have e : j = 2 ^ tM T := by omega
      rw [if_pos (by rw [e]; exact Int32.le_refl _)]
      refine ⟨σ, ?_, f⟩
      unfold aB
      rw [e]
      by_cases z : x = 0
      · rw [if_pos z, if_pos z]
      · rw [if_neg z, if_neg z]
        split
        · rfl
        · rfl
theorem sim_best {i : Nat} {σC σM : bS} (hi : i ≤ 3072) (h : Rel i σC σM) (x y v : Int32) : Sim_best (Rel (i + 6)) x y v σC σM := by
  have hrel := h
  obtain ⟨T, L, G, H⟩ := h
  have H : RelB i T L G σC σM := H
  have hM := H.1.2.2.2.1
  have hGG := H.1.2.2.1
  have h7 : (2 : Nat) ^ tM T ≤ 2 ^ 7 := Nat.pow_le_pow_right (by decide) hM
  obtain ⟨hr, r1, r2, r3⟩ := Rel.hour H.2.2.2.2.2.1 hi
  rcases row_cases (n := 1000) (n1 := 1000) (by omega) (by omega) H x y with ⟨a1, a2⟩ | ⟨b, s, hb, h0, hs, rfl, rfl, a2, ⟨a3, a4⟩ | ⟨a3, a4, a5⟩⟩
  · refine ⟨1000, 1000, cs_m1000, σC, σM, ?_, ?_, hrel.mono (by omega)⟩
    · unfold cTop_best cTop_isGame
      rw [a1, ob_def, if_neg m1_ne]
      rfl
    · unfold m_best
      rw [a2, ob_def, if_pos rfl, m_best_b18]
  · refine ⟨1000, 1000, cs_m1000, σC, uI σM 0 40 ci_0, ?_, ?_, hrel.of (by omega) frC.rf frQw⟩
    · unfold cTop_best cTop_isGame
      rw [a3, ob_def, if_neg m2_ne]
      rfl
    · unfold m_best
      rw [a2, ob_def, if_neg one_ne, a4, ob_def, if_pos rfl, m_best_b18]
  · have h3 : MTx T L (uI σM 0 40 ci_0) := H.2.2.1.of (fun _ _ _ => rfl)
    obtain ⟨l0, σ1, c1, c2, c3, c4, c5⟩ := c_prepE (n := 1000) (x := 1) (by omega) H.1 H.2.1 H.2.2.2.1 (H.2.2.2.2.2.1.2.1 b hb) hb hs (by omega) (by omega) r2
    obtain ⟨σ2, d1, d2, d3⟩ := c_all_l (n := 1000) (σ0 := σ1) (by omega) H.1 (H.2.2.2.2.2.1.up hi) r2 (by omega) hb hs a5 1000 0 σ1 c4 c5 c2 (fun z hz => by omega) frC.rf (by omega) (by omega)
    obtain ⟨σ3, g1, g2⟩ := m_best_l (n := 1000) (x := v) (σ0 := uI σM 0 40 ci_0) (by omega) H.1 (H.2.2.2.2.2.1.up hi) r2 (by omega) hb hs a5 1000 0 (uI σM 0 40 ci_0) h3 H.2.2.2.2.1 frQ.rf (by omega) (by omega)
    have hw : ∀ z, (s &&& z) = z → cGame_worthOf 1000 (nI z) σ2 = some (wt T L G b hr s z, σ2) := fun z hz => c_worth (by omega) (by omega) (by have := sb_le hz; omega) d2.1 (d2.2 z hz)
    have game : cTop_isGame 1000 (nI b) (nI s) σC = some (1, σC) := by
      unfold cTop_isGame
      rw [a3, ob_def, if_pos rfl]
      rfl
    have e1 := mW_top (wt T L G b hr s) s (2 ^ tM T - (s + 1))
    have e2 := lW_top cs_1000 (gn T L G b hr s) (wt T L G b hr s) s (2 ^ tM T - (s + 1))
    rw [show s + 1 + (2 ^ tM T - (s + 1)) = 2 ^ tM T by omega] at e1 e2
    have most : cGame_mostWorth 1000 σ2 = some (mW (wt T L G b hr s) s (s + 1), σ2) := by
      unfold cGame_mostWorth
      rw [show cGame_worthOf 1000 ci_0 σ2 = _ from hw 0 (Nat.and_zero s), ob_def]
      have q := c_most_l (n := 1000) (s := s) (w := wt T L G b hr s) (σ := σ2) (by omega) d2.1 hw 1000 1 (by omega) (by omega)
      have e3 : mW (wt T L G b hr s) s 1 = wt T L G b hr s 0 := by
        rw [mW, mW]
        refine if_pos ⟨Nat.and_zero s, fun u => ?_⟩
        have w0 := wt_in (T := T) (L := L) (G := G) (b := b) (h := hr) (s := s) (z := 0)
        have q3 : cs_m1000.toInt = -1000 := by decide
        rw [Int32.le_iff_toInt_le] at u
        omega
      rw [e3] at q
      exact q
    refine ⟨1000, 1000, aB (gn T L G b hr s) (wt T L G b hr s) s v (2 ^ tM T), σ2, σ3, ?_, ?_, hrel.of (by omega) ((c3.mono sc_59).trans (d3.mono sc_gm)) (frQw.trans g2)⟩
    · unfold cTop_best
      rw [game, ob_def, if_neg one_ne]
      rw [show cRows_prepare 1000 (nI b) (nI s) ci_1 σC = some σ1 from c1, ob_def, show cGame_playAll 1000 σ1 = some σ2 from d1, ob_def]
      unfold aB
      rw [e1, e2]
      by_cases z : v = 0
      · rw [if_pos z, if_pos z, most, ob_def]
      · rw [if_neg z, if_neg z]
        rw [show cGame_countRests 1000 σ2 = some (nI (cR (gn T L G b hr s) s (s + 1)), σ2) from c_count_l (by omega) (by omega) d2 1000 0 (by omega) (by omega), ob_def]
        have hc := cR_le (gn T L G b hr s) s (s + 1)
        rcases lW_rel (g := gn T L G b hr s) (s := s) (w := wt T L G b hr s) (fun z => wt_in) (s + 1) with ⟨b1, b2, b3⟩ | ⟨b1, b2, b3⟩
        · rw [b1, if_pos (show (nI 0 : Int32) = 0 from rfl), b2, if_pos rfl]
          rfl
        · rw [if_neg (fun u => b1 (nI_inj (by omega) (by decide) (u.trans (show (0 : Int32) = nI 0 from rfl)))), most, ob_def]
          rw [show cGame_leastRestingWorth 1000 σ2 = some (lW (1073741824 : Int32) (gn T L G b hr s) (wt T L G b hr s) s (s + 1), σ2) from c_least_l (c := (1073741824 : Int32)) (by omega) (by omega) d2 hw 1000 0 (by omega) (by omega), ob_def, ← b2]
          rw [if_neg (fun u => by
            have q1 : cs_1000.toInt = 1000 := by decide
            rw [u] at b3
            omega)]
          rfl
    · unfold m_best
      rw [a2, ob_def, if_neg one_ne, a4, ob_def, if_neg one_ne]
      exact g1
