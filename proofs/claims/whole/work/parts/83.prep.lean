/-! the class's table of wishes: by MAN, LAST and time -/
/-- how many are in a set -/
def pc (s : Nat) : Nat := s % 2 + s / 2 % 2 + s / 4 % 2 + s / 8 % 2 + s / 16 % 2 + s / 32 % 2 + s / 64 % 2
theorem pc_all : ∀ s : Fin 128, (cj_bitCount 0 (nI s.val) ((fun _ _ => 0, fun _ _ => 0, fun _ _ => 0) : bS)).map (fun p => p.1) = some (nI (pc s.val)) := by decide +kernel
theorem pc_eq {n s : Nat} {σ : bS} (hs : s < 128) : cj_bitCount n (nI s) σ = some (nI (pc s), σ) := by
  have h := pc_all ⟨s, hs⟩
  unfold cj_bitCount cj_bitCount_b9 at h ⊢
  have h' := Option.some.inj h
  rw [← h']
theorem pc_le {s : Nat} : pc s ≤ 7 := by
  unfold pc
  omega
/-- LAST as a number from 0 on: 0 is none -/
def lI (l : Nat) : Int32 := if l = 0 then -1 else nI (l - 1)
theorem lI_succ (l : Nat) : lI l + ci_1 = nI l := by
  unfold lI
  by_cases z : l = 0
  · subst z
    decide
  · rw [if_neg z, ci1_nI, nI_add, show l - 1 + 1 = l by omega]
theorem lI_S (l : Nat) : lI (l + 1) = nI l := by
  unfold lI
  rw [if_neg (by omega)]
  rfl
theorem cell_eq {n m l t : Nat} {σ : bS} : cRows_wishCell n (nI m) (lI l) (nI t) σ = some (nI ((7 * m + l) * 14 + t), σ) := by
  unfold cRows_wishCell
  rw [cb7_nI, nI_mul, Int32.add_assoc (nI (m * 7)) (lI l) ci_1, lI_succ, nI_add, cb_14_n, nI_mul, nI_add, Nat.mul_comm m 7]
abbrev isW (T : aT) (L : aL) (G : aG) (h : Nat) (σ : bS) (m l t : Nat) : Prop := σ.2.1 60 ((7 * m + l) * 14 + t) = sWish T L G m (lI l) (h + t)
abbrev sc60 : Nat → Prop := fun a => a = 12 ∨ a = 13 ∨ a = 60
theorem CT.s60 {T : aT} {L : aL} {σ σ' : bS} (h : CT T L σ) (f : frC sc60 σ σ') : CT T L σ' := h.fr f (fun a x y => by unfold sc60; omega)
theorem CG.s60 {G : aG} {σ σ' : bS} (h : CG 27 G σ) (f : frC sc60 σ σ') : CG 27 G σ' := h.go f (fun a x y => by unfold sc60; omega)
theorem prep_t {T : aT} {L : aL} {n m l c h : Nat} {G : aG} {x4 : Int32} {r56 : Int32 → Int32 → Int32 → bS → Option bS} {r67 : Int32 → Int32 → Int32 → Int32 → bS → Option bS} {σ0 : bS} (hn : 500 ≤ n) (hI : InvT T L) (hm : m < tM T) (hl : l ≤ 6) (hc : c ≤ 14) (hh : h + 20 < 2 ^ 31) (hh2 : G 0 0 = nI h) : ∀ (k j : Nat) (σ : bS), CT T L σ → CG 27 G σ → j ≤ c → c < j + k → (∀ t, t < j → isW T L G h σ m l t) → (∀ p, (p < (7 * m + l) * 14 ∨ (7 * m + l) * 14 + 14 ≤ p) → σ.2.1 60 p = σ0.2.1 60 p) → frC sc60 σ0 σ → ∃ σ', cRows_prepare_b98 n r56 r67 k x4 (nI c) (nI m) (lI l) (nI j) σ = r67 x4 (nI c) (nI m) (lI (l + 1)) σ' ∧ (∀ t, t < c → isW T L G h σ' m l t) ∧ (∀ p, (p < (7 * m + l) * 14 ∨ (7 * m + l) * 14 + 14 ≤ p) → σ'.2.1 60 p = σ0.2.1 60 p) ∧ frC sc60 σ0 σ' ∧ CT T L σ' ∧ CG 27 G σ'
  | 0, j, σ, hT, hG, h1, h2, a, b, f => by omega
  | k + 1, j, σ, hT, hG, h1, h2, a, b, f => by
    have hM := hI.2.2.2.1
    rw [cRows_prepare_b98]
    by_cases hj : j < c
    · obtain ⟨σ1, c1, c2⟩ := c_wishAs (n := n) (la := lI l) (h := h + j) hn hI hT hG hm (by omega)
      have e1 : sI σ 27 2 = nI h := hG.1.1.trans hh2
      rw [if_neg (nI_ge hj (by omega)), cell_eq, ob_def]
      simp only [e1]
      rw [nI_add, c1, ob_def, bin_nI (by omega) (by decide), ci1_nI, nI_add]
      have f1 : frC sc60 σ (uA σ1 60 (nI ((7 * m + l) * 14 + j)) (sWish T L G m (lI l) (h + j))) := frCaA (c2.mono (fun a z => by unfold sc60; omega)) (Or.inr (Or.inr rfl))
      have rd : ∀ p, (uA σ1 60 (nI ((7 * m + l) * 14 + j)) (sWish T L G m (lI l) (h + j))).2.1 60 p = if p = (7 * m + l) * 14 + j then sWish T L G m (lI l) (h + j) else σ.2.1 60 p := fun p => by
        rw [uA_2, nI_clamp (by omega), (c2 60 (by decide)).2.1]
        simp
      refine prep_t hn hI hm hl hc hh hh2 k (j + 1) _ (hT.s60 f1) (hG.s60 f1) hj (by omega) (fun t ht => ?_) (fun p hp => ?_) (f.trans f1)
      · show _ = _
        rw [rd]
        by_cases z : t = j
        · rw [if_pos (by omega), z]
        · rw [if_neg (by omega)]
          exact a t (by omega)
      · rw [rd, if_neg (by omega)]
        exact b p hp
    · have e : j = c := by omega
      subst e
      rw [if_pos (Int32.le_refl _), lI_succ, ← lI_S]
      exact ⟨σ, rfl, a, b, f, hT, hG⟩
theorem prep_l {T : aT} {L : aL} {n m l0 c h s : Nat} {G : aG} {x4 : Int32} {r56 : Int32 → Int32 → Int32 → bS → Option bS} {σ0 : bS} (hn : 500 ≤ n) (hI : InvT T L) (hm : m < tM T) (hc : c ≤ 14) (hh : h + 20 < 2 ^ 31) (hh2 : G 0 0 = nI h) (hs : s < 128) (hb : s.testBit m = true) : ∀ (k l : Nat) (σ : bS), CT T L σ → CG 27 G σ → σ.1 59 10 = nI s → l0 ≤ l → l ≤ tB T + 1 → tB T + 1 < l + k → (∀ l' t, l0 ≤ l' → l' < l → t < c → isW T L G h σ m l' t) → (∀ p, (p < 98 * m ∨ 98 * m + 98 ≤ p) → σ.2.1 60 p = σ0.2.1 60 p) → frC sc60 σ0 σ → ∃ σ', cRows_prepare_b67 n r56 k x4 (nI c) (nI m) (lI l) σ = cRows_prepare_b152 n r56 x4 (nI c) (nI m) σ' ∧ (∀ l' t, l0 ≤ l' → l' ≤ tB T → t < c → isW T L G h σ' m l' t) ∧ (∀ p, (p < 98 * m ∨ 98 * m + 98 ≤ p) → σ'.2.1 60 p = σ0.2.1 60 p) ∧ frC sc60 σ0 σ' ∧ CT T L σ' ∧ CG 27 G σ'
  | 0, l, σ, hT, hG, h59, h0, h1, h2, a, b, f => by omega
  | k + 1, l, σ, hT, hG, h59, h0, h1, h2, a, b, f => by
    have hB := hI.1
    have hM := hI.2.2.2.1
    have e59 : sI σ 59 10 = nI s := h59
    rw [cRows_prepare_b67, sI_d, hT.1.1, e59, bit_eq (by omega) (by omega), if_pos hb]
    by_cases hl : l ≤ tB T
    · have nle : ¬ nI (tB T) ≤ lI l := by
        unfold lI
        split
        · exact fun z => nI_pos (show tB T < 2 ^ 31 by omega) (Int32.lt_of_le_of_lt z (by decide))
        · exact nI_ge (by omega) (by omega)
      rw [if_neg nle, if_pos (show (1 : Int32) = ci_1 by decide)]
      obtain ⟨σ1, c1, c2, c3, c4, c5, c6⟩ := prep_t (x4 := x4) (r56 := r56) (r67 := cRows_prepare_b67 n r56 k) (σ0 := σ) (l := l) hn hI hm (by omega) hc hh hh2 n 0 σ hT hG (by omega) (by omega) (fun t ht => by omega) (fun _ _ => rfl) frC.rf
      rw [show cRows_prepare_b98 n r56 (cRows_prepare_b67 n r56 k) n x4 (nI c) (nI m) (lI l) ci_0 σ = _ from c1]
      refine prep_l hn hI hm hc hh hh2 hs hb k (l + 1) σ1 c5 c6 (by rw [(c4 59 (by decide)).1]; exact h59) (by omega) (by omega) (by omega) (fun l' t x1 x2 x3 => ?_) (fun p hp => ?_) (f.trans c4)
      · by_cases z : l' = l
        · subst z
          exact c2 t x3
        · show _ = _
          rw [c3 _ (by omega)]
          exact a l' t x1 (by omega) x3
      · rw [c3 p (by omega)]
        exact b p hp
    · have e : l = tB T + 1 := by omega
      subst e
      rw [if_pos (by rw [lI_S]; exact Int32.le_refl _)]
      exact ⟨σ, rfl, fun l' t x1 x2 x3 => a l' t x1 (by omega) x3, b, f, hT, hG⟩
theorem prep_m {T : aT} {L : aL} {n l0 c h s : Nat} {G : aG} {σ0 : bS} (hn : 500 ≤ n) (hI : InvT T L) (hl0 : l0 ≤ 1) (hl1 : l0 ≤ tB T + 1) (hc : c ≤ 14) (hh : h + 20 < 2 ^ 31) (hh2 : G 0 0 = nI h) (hs : s < 2 ^ tM T) : ∀ (k m : Nat) (σ : bS), CT T L σ → CG 27 G σ → σ.1 59 10 = nI s → m ≤ 7 → 7 < m + k → (∀ m' l' t, m' < m → s.testBit m' = true → l0 ≤ l' → l' ≤ tB T → t < c → isW T L G h σ m' l' t) → frC sc60 σ0 σ → ∃ σ', cRows_prepare_b56 n k (lI l0) (nI c) (nI m) σ = some σ' ∧ (∀ m' l' t, s.testBit m' = true → l0 ≤ l' → l' ≤ tB T → t < c → isW T L G h σ' m' l' t) ∧ frC sc60 σ0 σ' ∧ CT T L σ' ∧ CG 27 G σ'
  | 0, m, σ, hT, hG, h59, h1, h2, a, f => by omega
  | k + 1, m, σ, hT, hG, h59, h1, h2, a, f => by
    have hB := hI.1
    have hM := hI.2.2.2.1
    have h7 : (2 : Nat) ^ tM T ≤ 2 ^ 7 := Nat.pow_le_pow_right (by decide) hM
    have e59 : sI σ 59 10 = nI s := h59
    rw [cRows_prepare_b56, cb7_nI]
    by_cases hm : m < 7
    · rw [if_neg (nI_ge hm (by omega))]
      cases e : s.testBit m
      · have key : cRows_prepare_b67 n (cRows_prepare_b56 n k) n (lI l0) (nI c) (nI m) (lI l0) σ = cRows_prepare_b152 n (cRows_prepare_b56 n k) (lI l0) (nI c) (nI m) σ := by
          rw [show n = (n - 1) + 1 by omega, cRows_prepare_b67, e59, bit_eq (by omega) (by omega), e, if_neg (show ¬ (if false = true then (1 : Int32) else 0) = ci_1 by decide)]
          split <;> rfl
        rw [key, cRows_prepare_b152, ci1_nI, nI_add]
        exact prep_m hn hI hl0 hl1 hc hh hh2 hs k (m + 1) σ hT hG h59 (by omega) (by omega) (fun m' l' t x1 x2 x3 x4 x5 => by
          by_cases z : m' = m
          · subst z
            rw [e] at x2
            cases x2
          · exact a m' l' t (by omega) x2 x3 x4 x5) f
      · have hmM := bit_lt hs e
        obtain ⟨σ1, c1, c2, c3, c4, c5, c6⟩ := prep_l (l0 := l0) (x4 := lI l0) (r56 := cRows_prepare_b56 n k) (σ0 := σ) hn hI hmM hc hh hh2 (by omega) e n l0 σ hT hG h59 (Nat.le_refl _) hl1 (by omega) (fun l' t x1 x2 => by omega) (fun _ _ => rfl) frC.rf
        rw [c1, cRows_prepare_b152, ci1_nI, nI_add]
        exact prep_m hn hI hl0 hl1 hc hh hh2 hs k (m + 1) σ1 c5 c6 (by rw [(c4 59 (by decide)).1]; exact h59) (by omega) (by omega) (fun m' l' t x1 x2 x3 x4 x5 => by
          by_cases z : m' = m
          · subst z
            exact c2 l' t x3 x4 x5
          · show _ = _
            rw [c3 _ (by omega)]
            exact a m' l' t (by omega) x2 x3 x4 x5) (f.trans c4)
    · have e : m = 7 := by omega
      subst e
      rw [if_pos (Int32.le_refl _)]
      exact ⟨σ, rfl, fun m' l' t x2 x3 x4 x5 => a m' l' t (by have := bit_lt hs x2; omega) x2 x3 x4 x5, f, hT, hG⟩
/-- LAST of a BRIDGE as a number from 0 on -/
theorem lI_of {B : Nat} {x : Int32} (hB : B < 2 ^ 31) (h : orN B x) : ∃ l, l ≤ B ∧ x = lI l ∧ (0 ≤ x ↔ ¬ l = 0) := by
  rcases h with rfl | ⟨j, hj, rfl⟩
  · exact ⟨0, by omega, rfl, ⟨fun z => absurd z (by decide), fun z => absurd rfl z⟩⟩
  · exact ⟨j + 1, by omega, (lI_S j).symm, ⟨fun _ => by omega, fun _ => nI_pos' (by omega)⟩⟩
abbrev sc59 : Nat → Prop := fun a => a = 12 ∨ a = 13 ∨ a = 59 ∨ a = 60
/-- prepare(): x times as long as the row -/
theorem c_prep {T : aT} {L : aL} {n b s x h : Nat} {G : aG} {σ : bS} (hn : 500 ≤ n) (hI : InvT T L) (hT : CT T L σ) (hG : CG 27 G σ) (hla : orN (tB T) (G 3 b)) (hb : b < tG T) (hs : s < 2 ^ tM T) (hx : x ≤ 2) (hh : h + 20 < 2 ^ 31) (hh2 : G 0 0 = nI h) : ∃ l σ', l ≤ tB T ∧ G 3 b = lI l ∧ cRows_prepare n (nI b) (nI s) (nI x) σ = some σ' ∧ σ'.1 59 10 = nI s ∧ σ'.1 59 11 = nI (pc s) ∧ σ'.1 59 12 = G 3 b ∧ (∀ m' l' t, s.testBit m' = true → (l = 0 ∨ 1 ≤ l') → l' ≤ tB T → t < 14 → t < pc s * x → isW T L G h σ' m' l' t) ∧ frC sc59 σ σ' ∧ CT T L σ' ∧ CG 27 G σ' := by
  have hB := hI.1
  have hM := hI.2.2.2.1
  have hGG := hI.2.2.1
  have h7 : (2 : Nat) ^ tM T ≤ 2 ^ 7 := Nat.pow_le_pow_right (by decide) hM
  have hp := pc_le (s := s)
  obtain ⟨l, hl, el, e0⟩ := lI_of (by omega) hla
  have hpx : pc s * x ≤ 7 * 2 := Nat.mul_le_mul hp hx
  obtain ⟨σ1, s1⟩ : ∃ y, y = uI (uI (uI σ 59 10 (nI s)) 59 11 (nI (pc s))) 59 12 (G 3 b) := ⟨_, rfl⟩
  have f1 : frC (fun a => a = 59) σ σ1 := by
    rw [s1]
    exact frCaI (frCaI (frCaI frC.rf rfl) rfl) rfl
  have i1 : ∀ k, σ1.1 59 k = if k = 12 then G 3 b else if k = 11 then nI (pc s) else if k = 10 then nI s else σ.1 59 k := fun k => by
    rw [s1, uI_1, uI_1, uI_1]
    simp
  have hT1 : CT T L σ1 := hT.fr f1 (fun a x y => by omega)
  have hG1 : CG 27 G σ1 := hG.go f1 (fun a x y => by omega)
  have e1 : sA (uI (uI σ 59 10 (nI s)) 59 11 (nI (pc s))) 28 (nI b) = G 3 b := (sA_n _ _ (by omega)).trans (hG.2.1 b (by omega)).1
  have e2 : sI σ1 59 12 = G 3 b := by rw [sI_d, i1]; rfl
  have e3 : sI σ1 59 11 = nI (pc s) := by rw [sI_d, i1]; rfl
  have e4 : cj_min n cb_14 (nI (pc s) * nI x) σ1 = some (nI (pc s * x), σ1) := by
    unfold cj_min
    rw [nI_mul, cb_14_n]
    by_cases z : pc s * x < 14
    · rw [if_pos ((nI_ltI (by omega) (by omega)).mpr z)]; rfl
    · rw [if_neg (fun y => z ((nI_ltI (by omega) (by omega)).mp y)), show pc s * x = 14 by omega]; rfl
  have key : ∀ l0, l0 ≤ 1 → l0 ≤ tB T + 1 → ∃ σ', cRows_prepare_b38 n (nI x) (lI l0) σ1 = some σ' ∧ (∀ m' l' t, s.testBit m' = true → l0 ≤ l' → l' ≤ tB T → t < pc s * x → isW T L G h σ' m' l' t) ∧ frC sc60 σ1 σ' ∧ CT T L σ' ∧ CG 27 G σ' := fun l0 y1 y2 => by
    obtain ⟨σ2, c1, c2, c3, c4, c5⟩ := prep_m (n := n) (l0 := l0) (c := pc s * x) (h := h) (s := s) (σ0 := σ1) hn hI y1 y2 (by omega) hh hh2 hs n 0 σ1 hT1 hG1 (by rw [i1]; rfl) (by omega) (by omega) (fun m' l' t x1 => by omega) frC.rf
    refine ⟨σ2, ?_, c2, c3, c4, c5⟩
    unfold cRows_prepare_b38
    rw [e3, e4, ob_def]
    exact c1
  have top : ∀ (l0 : Nat) σ', (if 0 ≤ G 3 b then lI 1 else lI 0) = lI l0 → cRows_prepare_b38 n (nI x) (lI l0) σ1 = some σ' → cRows_prepare n (nI b) (nI s) (nI x) σ = some σ' := fun l0 σ' y1 y2 => by
    unfold cRows_prepare
    rw [pc_eq (by omega), ob_def, bin_nI (by omega) (by decide)]
    show (if 0 ≤ sI (uI (uI (uI σ 59 10 (nI s)) 59 11 (nI (pc s))) 59 12 (sA (uI (uI σ 59 10 (nI s)) 59 11 (nI (pc s))) 28 (nI b))) 59 12 then cRows_prepare_b38 n (nI x) ci_0 (uI (uI (uI σ 59 10 (nI s)) 59 11 (nI (pc s))) 59 12 (sA (uI (uI σ 59 10 (nI s)) 59 11 (nI (pc s))) 28 (nI b))) else cRows_prepare_b38 n (nI x) ci_m1 (uI (uI (uI σ 59 10 (nI s)) 59 11 (nI (pc s))) 59 12 (sA (uI (uI σ 59 10 (nI s)) 59 11 (nI (pc s))) 28 (nI b)))) = some σ'
    rw [e1, ← s1, e2, ← y2, ← y1]
    by_cases z : 0 ≤ G 3 b
    · rw [if_pos z, if_pos z]; rfl
    · rw [if_neg z, if_neg z, cim1]; rfl
  have fin : ∀ σ', frC sc60 σ1 σ' → σ'.1 59 10 = nI s ∧ σ'.1 59 11 = nI (pc s) ∧ σ'.1 59 12 = G 3 b ∧ frC sc59 σ σ' := fun σ' f2 => by
    rw [(f2 59 (by decide)).1, i1, i1, i1]
    exact ⟨rfl, rfl, rfl, (f1.mono (fun a z => by unfold sc59; omega)).trans (f2.mono (fun a z => by unfold sc59; unfold sc60 at z; omega))⟩
  by_cases z : l = 0
  · obtain ⟨σ2, c1, c2, c3, c4, c5⟩ := key 0 (by omega) (by omega)
    obtain ⟨g1, g2, g3, g4⟩ := fin σ2 c3
    refine ⟨l, σ2, hl, el, top 0 σ2 (by rw [if_neg (fun y => (e0.mp y) z)]) c1, g1, g2, g3, fun m' l' t x1 _ x3 _ x5 => c2 m' l' t x1 (by omega) x3 x5, g4, c4, c5⟩
  · obtain ⟨σ2, c1, c2, c3, c4, c5⟩ := key 1 (by omega) (by omega)
    obtain ⟨g1, g2, g3, g4⟩ := fin σ2 c3
    refine ⟨l, σ2, hl, el, top 1 σ2 (by rw [if_pos (e0.mpr z)]) c1, g1, g2, g3, fun m' l' t x1 x2 x3 _ x5 => c2 m' l' t x1 (by omega) x3 x5, g4, c4, c5⟩
