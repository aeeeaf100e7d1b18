/-! the class's game: gains of a whole row -/
/-- a row is prepared: whose, from which LAST, what all would wish -/
def Prep (T : aT) (L : aL) (G : aG) (b h s l0 c : Nat) (σ : bS) : Prop := σ.1 59 10 = nI s ∧ σ.1 59 11 = nI (pc s) ∧ σ.1 59 12 = G 3 b ∧ G 3 b = lI l0 ∧ l0 ≤ tB T ∧ ∀ m l t, s.testBit m = true → (l0 = 0 ∨ 1 ≤ l) → l ≤ tB T → t < 14 → t < pc s * c → σ.2.1 60 ((7 * m + l) * 14 + t) = sWish T L G m (lI l) (h + t)
theorem Prep.fr {T : aT} {L : aL} {G : aG} {b h s l0 c : Nat} {σ σ' : bS} {P : Nat → Prop} (H : Prep T L G b h s l0 c σ) (f : frC P σ σ') (h59 : ¬ P 59) (h60 : ¬ P 60) : Prep T L G b h s l0 c σ' := by
  unfold Prep
  rw [(f 59 h59).1, (f 60 h60).2.1]
  exact H
theorem lI_ge0 : ∀ l : Fin 8, (0 ≤ lI l.val ↔ ¬ l.val = 0) := by decide +kernel
theorem lI_ge {l : Nat} (h : l ≤ 7) : 0 ≤ lI l ↔ ¬ l = 0 := lI_ge0 ⟨l, by omega⟩
theorem c_prepE {T : aT} {L : aL} {n b s x h : Nat} {G : aG} {σ : bS} (hn : 500 ≤ n) (hI : InvT T L) (hT : CT T L σ) (hG : CG 27 G σ) (hla : orN (tB T) (G 3 b)) (hb : b < tG T) (hs : s < 2 ^ tM T) (hx : x ≤ 2) (hh : h + 20 < 2 ^ 31) (hh2 : G 0 0 = nI h) : ∃ l σ', cRows_prepare n (nI b) (nI s) (nI x) σ = some σ' ∧ Prep T L G b h s l x σ' ∧ frC sc59 σ σ' ∧ CT T L σ' ∧ CG 27 G σ' := by
  obtain ⟨l, σ', a1, a2, a3, a4, a5, a6, a7, a8, a9, a10⟩ := c_prep hn hI hT hG hla hb hs hx hh hh2
  exact ⟨l, σ', a3, ⟨a4, a5, a6, a2, a1, a7⟩, a8, a9, a10⟩
theorem c_part {n s j : Nat} {σ : bS} (h : σ.1 59 10 = nI s) (hs : s < 2 ^ 31) (hj : j < 7) : cGame_takesPart n (nI j) σ = some (if s.testBit j = true then 1 else 0, σ) := by
  unfold cGame_takesPart cGame_takesPart_b20
  rw [sI_d, h]
  by_cases z : s.testBit j = true
  · rw [if_pos ((bit_is hs hj).mpr z), if_pos z]; rfl
  · rw [if_neg (fun y => z ((bit_is hs hj).mp y)), if_neg z]; rfl
abbrev sc69 : Nat → Prop := fun a => a = 12 ∨ a = 13 ∨ a = 69
theorem c_play_l {T : aT} {L : aL} {n h b s z : Nat} {G D : aG} {σ0 : bS} (hn : 500 ≤ n) (hI : InvT T L) (hh : h + 20 < 2 ^ 31) (hh2 : G 0 0 = nI h) (hs : s < 2 ^ tM T) (hz : z < 128) : ∀ (k j : Nat) (σ : bS), CT T L σ → CG 27 G σ → σ.1 59 10 = nI s → GSt T b (rowL 7 s z) D σ → (∀ m, m < j → s.testBit m = true → σ.2.1 69 (7 * z + m) = sGain T L G m ((rowL 7 s z).idxOf m) h (gY T D m)) → (∀ p, (p < 7 * z ∨ 7 * z + 7 ≤ p) → σ.2.1 69 p = σ0.2.1 69 p) → frC sc69 σ0 σ → j ≤ 7 → 7 < j + k → ∃ σ', cGame_play_b50 n k (nI z) (nI j) σ = some σ' ∧ (∀ m, s.testBit m = true → σ'.2.1 69 (7 * z + m) = sGain T L G m ((rowL 7 s z).idxOf m) h (gY T D m)) ∧ (∀ p, (p < 7 * z ∨ 7 * z + 7 ≤ p) → σ'.2.1 69 p = σ0.2.1 69 p) ∧ frC sc69 σ0 σ' ∧ CT T L σ' ∧ CG 27 G σ'
  | 0, j, σ, hT, hG, h59, hS, a, b', f, h1, h2 => by omega
  | k + 1, j, σ, hT, hG, h59, hS, a, b', f, h1, h2 => by
    have hM := hI.2.2.2.1
    have h7 : (2 : Nat) ^ tM T ≤ 2 ^ 7 := Nat.pow_le_pow_right (by decide) hM
    rw [cGame_play_b50, cb7_nI]
    by_cases hj : j < 7
    · rw [if_neg (nI_ge hj (by omega)), c_part h59 (by omega) hj, ob_def]
      by_cases e : s.testBit j = true
      · have hm := bit_lt hs e
        obtain ⟨q, hq, eq⟩ := mem_getD (rowL_mem (M := 7) (z := z) hj e)
        have ei : (rowL 7 s z).idxOf j = q := by
          have := rowL_idx hq
          rwa [eq] at this
        have hl := rowL_len (M := 7) (s := s) (z := z) (by omega)
        have e70 : sA σ 70 (nI j) = nI q := by
          rw [sA_n _ _ (by omega)]
          have := hS.2.2 q hq
          rwa [eq] at this
        have e5 : sI σ 68 5 = bitsOf (fun m => m ∈ rowL 7 s z ∧ D 5 m = nI (tHome T m)) 7 := hS.2.1
        obtain ⟨σ1, c1, c2⟩ := c_gain9 (n := n) (m := j) (p := q) (y := gY T D j) hn hI hT hG hm (by omega) hh hh2
        have key : (if (((sI σ 68 5) >>> (nI j &&& 31)) &&& ci_1) = ci_1 then cGame_play_b101 n (cGame_play_b50 n k) (nI z) (nI j) ((nI z * nI 7) + nI j) (nI j) ci_1 σ else cGame_play_b101 n (cGame_play_b50 n k) (nI z) (nI j) ((nI z * nI 7) + nI j) (nI j) ci_0 σ) = cGame_play_b50 n k (nI z) (nI (j + 1)) (uA σ1 69 (nI (7 * z + j)) (sGain T L G j q h (gY T D j))) := by
          rw [e5]
          have g : ∀ y, y = ci_1 ∨ y = ci_0 → gY T D j = y → cGame_play_b101 n (cGame_play_b50 n k) (nI z) (nI j) ((nI z * nI 7) + nI j) (nI j) y σ = cGame_play_b50 n k (nI z) (nI (j + 1)) (uA σ1 69 (nI (7 * z + j)) (sGain T L G j q h (gY T D j))) := fun y hy ey => by
            have g2 : cGoing_gainAs n (nI j) y (nI q) σ = some (sGain T L G j q h (gY T D j), σ1) := by
              rw [← c1, ey]
              unfold cGoing_gainAs
              rcases hy with rfl | rfl
              · rw [if_neg (show ¬ ci_1 = 0 by decide)]
              · rw [if_pos (show ci_0 = 0 by decide)]
            unfold cGame_play_b101 cGame_play_b112
            rw [bin_nI hj (by decide), e70, g2, ob_def, nI_mul, nI_add, show z * 7 + j = 7 * z + j by omega, bin_nI (by omega) (by decide), ci1_nI, nI_add]
          by_cases y : D 5 j = nI (tHome T j)
          · rw [if_pos ((bits_is _ hj).mpr ⟨rowL_mem hj e, y⟩)]
            exact g ci_1 (Or.inl rfl) (by unfold gY; rw [if_pos y]; rfl)
          · rw [if_neg (fun u => y ((bits_is _ hj).mp u).2)]
            exact g ci_0 (Or.inr rfl) (by unfold gY; rw [if_neg y]; rfl)
        rw [if_pos e]
        simp only [if_neg one_ne]
        rw [key]
        have f1 : frC sc69 σ (uA σ1 69 (nI (7 * z + j)) (sGain T L G j q h (gY T D j))) := frCaA (c2.mono (fun a z => by unfold sc69; omega)) (Or.inr (Or.inr rfl))
        have rd : ∀ p, (uA σ1 69 (nI (7 * z + j)) (sGain T L G j q h (gY T D j))).2.1 69 p = if p = 7 * z + j then sGain T L G j q h (gY T D j) else σ.2.1 69 p := fun p => by
          rw [uA_2, nI_clamp (by omega), (c2 69 (by decide)).2.1]
          simp
        refine c_play_l (b := b) hn hI hh hh2 hs hz k (j + 1) _ (hT.fr f1 (fun a x y => by unfold sc69; omega)) (hG.go f1 (fun a x y => by unfold sc69; omega)) (by rw [(f1 59 (by decide)).1]; exact h59) ?_ (fun m hm2 hb => ?_) (fun p hp => ?_) (f.trans f1) hj (by omega)
        · unfold GSt
          rw [(f1 68 (by decide)).1, (f1 70 (by decide)).2.1]
          exact hS
        · rw [rd]
          by_cases u : m = j
          · subst u
            rw [if_pos rfl, ei]
          · rw [if_neg (by omega)]
            exact a m (by omega) hb
        · rw [rd, if_neg (by omega)]
          exact b' p hp
      · rw [if_neg e]
        simp only [if_true]
        rw [cGame_play_b112, ci1_nI, nI_add]
        exact c_play_l hn hI hh hh2 hs hz k (j + 1) σ hT hG h59 hS (fun m hm hb => a m (by
          by_cases u : m = j
          · subst u
            exact absurd hb e
          · omega) hb) b' f hj (by omega)
    · have e : j = 7 := by omega
      subst e
      rw [if_pos (Int32.le_refl _)]
      exact ⟨σ, rfl, fun m hb => a m (by have := bit_lt hs hb; omega) hb, b', f, hT, hG⟩
abbrev scGm : Nat → Prop := fun a => a = 12 ∨ a = 13 ∨ (68 ≤ a ∧ a ≤ 70)
theorem c_play {T : aT} {L : aL} {n b h s z l0 : Nat} {G : aG} {σ : bS} (hn : 500 ≤ n) (hI : InvT T L) (hi : InvG T 5000 G) (hh : G 0 0 = nI h) (hx : h + 20 ≤ 170000) (hb : b < tG T) (hs : s < 2 ^ tM T) (hz : z < 128) (hzs : ∀ m, z.testBit m = true → s.testBit m = true) (hf : ∀ m, s.testBit m = true → m < tM T ∧ G 5 m = nI (tFoot T b)) (hT : CT T L σ) (hG : CG 27 G σ) (hP : Prep T L G b h s l0 1 σ) : ∃ σ', cGame_play n (nI z) σ = some σ' ∧ (∀ m, s.testBit m = true → σ'.2.1 69 (7 * z + m) = gn T L G b h s z m) ∧ (∀ p, (p < 7 * z ∨ 7 * z + 7 ≤ p) → σ'.2.1 69 p = σ.2.1 69 p) ∧ frC scGm σ σ' ∧ CT T L σ' ∧ CG 27 G σ' := by
  have hM := hI.2.2.2.1
  have hB := hI.1
  have h7 : (2 : Nat) ^ tM T ≤ 2 ^ 7 := Nat.pow_le_pow_right (by decide) hM
  obtain ⟨p1, p2, p3, p4, p5, p6⟩ := hP
  obtain ⟨σ0, s0⟩ : ∃ y, y = uI (uI σ 68 4 ci_0) 68 5 ci_0 := ⟨_, rfl⟩
  have f0 : frC (fun a => a = 68) σ σ0 := by
    rw [s0]
    exact frCaI (frCaI frC.rf rfl) rfl
  have e10 : sI σ0 59 10 = nI s := by rw [sI_d, (f0 59 (by decide)).1]; exact p1
  have e12 : sI σ0 59 12 = G 3 b := by rw [sI_d, (f0 59 (by decide)).1]; exact p3
  have hr := rowL_row7 (z := z) hI hi hb hs hf
  obtain ⟨σ1, σ2, c1, c2, c3, c4, c5, c6⟩ := g_passes (n := n) (l0 := l0) (σ0 := σ0) (by omega) hI hi hh hx hb (by omega) hz hzs (by rw [p4]; exact lI_ge (by omega)) (fun m l t x1 x2 x3 x4 x5 => by rw [(f0 60 (by decide)).2.1]; exact p6 m l t x1 x2 x3 x4 (by omega)) hr (hT.fr f0 (fun a x y => by omega)) (by rw [s0, uI_1, if_neg (by decide), uI_1, if_pos ⟨rfl, rfl⟩]; rfl) (by rw [s0, uI_1, if_pos ⟨rfl, rfl⟩]; rfl)
  have f2 : frC scGm σ σ2 := (f0.mono (fun a z => by unfold scGm; omega)).trans (c5.mono (fun a z => by unfold scGm; unfold sc68 at z; omega))
  have g1 : ∀ a, 14 ≤ a → a ≤ 67 → ¬ scGm a := fun a x y => by unfold scGm; omega
  obtain ⟨σ3, d1, d2, d3, d4, d5, d6⟩ := c_play_l (n := n) (h := h) (b := b) (s := s) (z := z) (σ0 := σ2) (D := rwE T L G b h s z) hn hI (by omega) hh hs hz n 0 σ2 c6 (hG.go f2 (fun a x y => g1 a (by omega) (by omega))) (by rw [(f2 59 (g1 59 (by omega) (by omega))).1]; exact p1) c4 (fun m hm => by omega) (fun _ _ => rfl) frC.rf (by omega) (by omega)
  refine ⟨σ3, ?_, d2, fun p hp => ?_, f2.trans (d4.mono (fun a z => by unfold scGm; unfold sc69 at z; omega)), d5, d6⟩
  · unfold cGame_play
    rw [← s0, e10, e12, off_eq, c1, ob_def, c2, ob_def, c3, ob_def]
    exact d1
  · rw [d3 p hp, (c5 69 (by decide)).2.1, (f0 69 (by decide)).2.1]
