/-! RINGS: what both sides draw -/
def wTo (T : aT) (L : aL) (G : aG) (b h m : Nat) : Nat := if 0 ≤ sWish T L G m (G 3 b) h then (sWish T L G m (G 3 b) h).toNatClampNeg else tHome T m
theorem wTo_is {T : aT} {L : aL} {G : aG} {b h m : Nat} (hI : InvT T L) (hm : m < tM T) : wTo T L G b h m < tB T ∧ (0 ≤ sWish T L G m (G 3 b) h → sWish T L G m (G 3 b) h = nI (wTo T L G b h m)) ∧ (¬ 0 ≤ sWish T L G m (G 3 b) h → wTo T L G b h m = tHome T m) := by
  have hB := hI.1
  unfold wTo
  rcases sWish_in (L := L) (G := G) (la := G 3 b) (h := h) hI hm with e | ⟨j, hj, e⟩
  · rw [e, if_neg (by decide)]
    exact ⟨hI.2.2.2.2.2.1 m hm, fun z => absurd z (by decide), fun _ => rfl⟩
  · rw [e, if_pos (nI_pos' (by omega)), nI_clamp (by omega)]
    exact ⟨hj, fun _ => rfl, fun z => absurd (nI_pos' (by omega)) z⟩
theorem pc_pos0 : ∀ s : Fin 128, ∀ m : Fin 7, s.val.testBit m.val = true → 0 < pc s.val := by decide +kernel
theorem pc_pos {s m : Nat} (hs : s < 128) (hm : m < 7) (h : s.testBit m = true) : 0 < pc s := pc_pos0 ⟨s, hs⟩ ⟨m, hm⟩ h
def Ar (x y v : Nat) (o i p : Nat → Nat) (σ : bS) : Prop := ∀ k, k < 6 → σ.2.1 x k = nI (o k) ∧ σ.2.1 y k = nI (i k) ∧ σ.2.1 v k = nI (p k)
theorem c_join_l {n t f0 : Nat} {p : Nat → Nat} (hp : ∀ x, x < 6 → p x < 6) (ht : t < 6) : ∀ (k j : Nat) (σ : bS), (∀ x, x < 6 → σ.2.1 66 x = nI (if x < j then (if p x = t then f0 else p x) else p x)) → j ≤ 6 → 6 < j + k → ∃ σ', cRows_join_b2 n k (nI f0) (nI t) (nI j) σ = some σ' ∧ (∀ x, x < 6 → σ'.2.1 66 x = nI (if p x = t then f0 else p x)) ∧ frC (fun a => a = 66) σ σ'
  | 0, j, σ, a, h1, h2 => by omega
  | k + 1, j, σ, a, h1, h2 => by
    rw [cRows_join_b2, cb_6_n]
    by_cases hj : j < 6
    · have e : sA σ 66 (nI j) = nI (p j) := (sA_n _ _ (by omega)).trans ((a j hj).trans (by rw [if_neg (by omega)]))
      have := hp j hj
      rw [if_neg (nI_ge hj (by omega)), bin_nI hj (by decide), e]
      by_cases z : p j = t
      · rw [if_pos (by rw [z]), bin_nI hj (by decide), cRows_join_b25, ci1_nI, nI_add]
        obtain ⟨σ2, c1, c2, c3⟩ := c_join_l (n := n) (f0 := f0) hp ht k (j + 1) (uA σ 66 (nI j) (nI f0)) (fun x hx => by
          rw [uA_2, nI_clamp (by omega)]
          by_cases y : x = j
          · subst y
            rw [if_pos ⟨rfl, rfl⟩, if_pos (by omega), if_pos z]
          · rw [if_neg (fun u => y u.2), a x hx]
            by_cases u : x < j
            · rw [if_pos u, if_pos (show x < j + 1 by omega)]
            · rw [if_neg u, if_neg (show ¬ x < j + 1 by omega)]) hj (by omega)
        exact ⟨σ2, c1, c2, frC.trans (frC.uA (P := fun a => a = 66) rfl) c3⟩
      · rw [if_neg (fun u => z (nI_inj (by omega) (by omega) u)), cRows_join_b25, ci1_nI, nI_add]
        exact c_join_l hp ht k (j + 1) σ (fun x hx => by
          rw [a x hx]
          by_cases y : x = j
          · subst y
            rw [if_neg (by omega), if_pos (show x < x + 1 by omega), if_neg z]
          · by_cases u : x < j
            · rw [if_pos u, if_pos (show x < j + 1 by omega)]
            · rw [if_neg u, if_neg (show ¬ x < j + 1 by omega)]) hj (by omega)
    · have e : j = 6 := by omega
      subst e
      rw [if_pos (Int32.le_refl _)]
      exact ⟨σ, rfl, fun x hx => by rw [a x hx, if_pos hx], frC.rf⟩
theorem m_join_l {n t f0 : Nat} {p : Nat → Nat} (hp : ∀ x, x < 6 → p x < 6) (ht : t < 6) : ∀ (k j : Nat) (σ : bS), (∀ x, x < 6 → σ.2.1 40 x = nI (if x < j then (if p x = t then f0 else p x) else p x)) → j ≤ 6 → 6 < j + k → ∃ σ', m_joins_b18 n k (nI t) (nI f0) (nI j) σ = some σ' ∧ (∀ x, x < 6 → σ'.2.1 40 x = nI (if p x = t then f0 else p x)) ∧ frM (fun _ => False) (fun a => a = 40) σ σ'
  | 0, j, σ, a, h1, h2 => by omega
  | k + 1, j, σ, a, h1, h2 => by
    rw [m_joins_b18, cb_6_n]
    by_cases hj : j < 6
    · have e : sA σ 40 (nI j) = nI (p j) := (sA_n _ _ (by omega)).trans ((a j hj).trans (by rw [if_neg (by omega)]))
      have := hp j hj
      rw [if_neg (nI_ge hj (by omega)), bin_nI hj (by decide), e]
      by_cases z : p j = t
      · rw [if_pos (by rw [z]), bin_nI hj (by decide), m_joins_b45, ci1_nI, nI_add]
        obtain ⟨σ2, c1, c2, c3⟩ := m_join_l (n := n) (f0 := f0) hp ht k (j + 1) (uA σ 40 (nI j) (nI f0)) (fun x hx => by
          rw [uA_2, nI_clamp (by omega)]
          by_cases y : x = j
          · subst y
            rw [if_pos ⟨rfl, rfl⟩, if_pos (by omega), if_pos z]
          · rw [if_neg (fun u => y u.2), a x hx]
            by_cases u : x < j
            · rw [if_pos u, if_pos (show x < j + 1 by omega)]
            · rw [if_neg u, if_neg (show ¬ x < j + 1 by omega)]) hj (by omega)
        exact ⟨σ2, c1, c2, frM.trans (frM.uA (PI := fun _ => False) (PA := fun a => a = 40) rfl) c3⟩
      · rw [if_neg (fun u => z (nI_inj (by omega) (by omega) u)), m_joins_b45, ci1_nI, nI_add]
        exact m_join_l hp ht k (j + 1) σ (fun x hx => by
          rw [a x hx]
          by_cases y : x = j
          · subst y
            rw [if_neg (by omega), if_pos (show x < x + 1 by omega), if_neg z]
          · by_cases u : x < j
            · rw [if_pos u, if_pos (show x < j + 1 by omega)]
            · rw [if_neg u, if_neg (show ¬ x < j + 1 by omega)]) hj (by omega)
    · have e : j = 6 := by omega
      subst e
      rw [if_pos (Int32.le_refl _)]
      exact ⟨σ, rfl, fun x hx => by rw [a x hx, if_pos hx], frM.rf⟩
abbrev sc64 : Nat → Prop := fun a => 64 ≤ a ∧ a ≤ 66
theorem c_arc {n m s x y : Nat} {fr to : Nat → Nat} {r37 : Int32 → bS → Option bS} {σ : bS} (hn : 20 ≤ n) (hf : ∀ m, s.testBit m = true → fr m < 6) (e : s.testBit m = true) (hx : fr m = x) (hy : to m = y) (ht : y < 6) (hA : Ar 64 65 66 (oA fr s m) (oA to s m) (pA fr to s m) σ) : ∃ σ', cRows_drawArcs_b81 n r37 (nI m) (nI x) (nI y) σ = r37 (nI (m + 1)) σ' ∧ Ar 64 65 66 (oA fr s (m + 1)) (oA to s (m + 1)) (pA fr to s (m + 1)) σ' ∧ frC sc64 σ σ' := by
  have h6 := hf m e
  have hx6 : x < 6 := by omega
  obtain ⟨σ1, s1⟩ : ∃ q, q = uA σ 64 (nI x) (nI (oA fr s m x + 1)) := ⟨_, rfl⟩
  obtain ⟨σ2, s2⟩ : ∃ q, q = uA σ1 65 (nI y) (nI (oA to s m y + 1)) := ⟨_, rfl⟩
  have e64 : sA σ 64 (nI x) = nI (oA fr s m x) := (sA_n _ _ (by omega)).trans (hA x hx6).1
  have e65 : sA σ1 65 (nI y) = nI (oA to s m y) := by
    rw [sA_n _ _ (by omega), s1, uA_o _ _ _ _ (by decide)]
    exact (hA y ht).2.1
  have f2 : frC sc64 σ σ2 := by
    rw [s2, s1]
    exact frCaA (frCaA frC.rf ⟨by omega, by omega⟩) ⟨by omega, by omega⟩
  have p66 : ∀ k, k < 6 → σ2.2.1 66 k = nI (pA fr to s m k) := fun k hk => by
    rw [s2, s1, uA_o _ _ _ _ (by decide), uA_o _ _ _ _ (by decide)]
    exact (hA k hk).2.2
  have l1 : sA σ2 66 (nI x) = nI (pA fr to s m x) := (sA_n _ _ (by omega)).trans (p66 x hx6)
  have l2 : sA σ2 66 (nI y) = nI (pA fr to s m y) := (sA_n _ _ (by omega)).trans (p66 y ht)
  obtain ⟨σ3, c1, c2, c3⟩ := c_join_l (n := n) (t := pA fr to s m y) (f0 := pA fr to s m x) (p := pA fr to s m) (fun k hk => pA_lt hf m k hk) (pA_lt hf m y ht) n 0 σ2 (fun k hk => by rw [if_neg (by omega)]; exact p66 k hk) (by omega) (by omega)
  refine ⟨σ3, ?_, fun k hk => ?_, f2.trans (c3.mono (fun a z => by unfold sc64; omega))⟩
  · unfold cRows_drawArcs_b81 cRows_drawArcs_b121
    rw [bin_nI hx6 (by decide), bin_nI hx6 (by decide), bin_nI ht (by decide), bin_nI ht (by decide), bin_nI hx6 (by decide), bin_nI ht (by decide), e64, ci1_nI, nI_add, ← s1, e65, nI_add, ← s2, l1, l2]
    rw [show cRows_join n (nI (pA fr to s m x)) (nI (pA fr to s m y)) σ2 = some σ3 from c1, ob_def, nI_add]
  · rw [(c3 64 (by decide)).2.1, (c3 65 (by decide)).2.1, c2 k hk, oA, oA, pA, if_pos e, if_pos e, if_pos e, hx, hy]
    refine ⟨?_, ?_, rfl⟩
    · rw [s2, uA_o _ _ _ _ (by decide), s1, uA_2, nI_clamp (by omega)]
      by_cases z : k = x
      · subst z
        rw [if_pos ⟨rfl, rfl⟩, if_pos rfl]
      · rw [if_neg (fun u => z u.2), if_neg z]
        exact (hA k hk).1
    · rw [s2, uA_2, nI_clamp (by omega)]
      by_cases z : k = y
      · subst z
        rw [if_pos ⟨rfl, rfl⟩, if_pos rfl]
      · rw [if_neg (fun u => z u.2), if_neg z, s1, uA_o _ _ _ _ (by decide)]
        exact (hA k hk).2.1
theorem c_draw_l {T : aT} {L : aL} {n b h s l0 : Nat} {G : aG} (hn : 20 ≤ n) (hI : InvT T L) (hs : s < 2 ^ tM T) : ∀ (k m : Nat) (σ : bS), CT T L σ → Prep T L G b h s l0 1 σ → Ar 64 65 66 (oA (tHome T) s m) (oA (wTo T L G b h) s m) (pA (tHome T) (wTo T L G b h) s m) σ → m ≤ 7 → 7 < m + k → ∃ σ', cRows_drawArcs_b37 n k (nI m) σ = some σ' ∧ Ar 64 65 66 (oA (tHome T) s 7) (oA (wTo T L G b h) s 7) (pA (tHome T) (wTo T L G b h) s 7) σ' ∧ frC sc64 σ σ'
  | 0, m, σ, hT, hP, hA, h1, h2 => by omega
  | k + 1, m, σ, hT, hP, hA, h1, h2 => by
    have hM := hI.2.2.2.1
    have hB := hI.1
    have h7 : (2 : Nat) ^ tM T ≤ 2 ^ 7 := Nat.pow_le_pow_right (by decide) hM
    have hf : ∀ m, s.testBit m = true → tHome T m < 6 := fun m hm => by have := hI.2.2.2.2.2.1 m (bit_lt hs hm); omega
    have e10 : sI σ 59 10 = nI s := hP.1
    have e12 : sI σ 59 12 = lI l0 := hP.2.2.1.trans hP.2.2.2.1
    rw [cRows_drawArcs_b37, cb7_nI]
    by_cases hm : m < 7
    · rw [if_neg (nI_ge hm (by omega)), e10]
      by_cases e : s.testBit m = true
      · have hmM := bit_lt hs e
        have hw := hP.2.2.2.2.2 m l0 0 e (by omega) hP.2.2.2.2.1 (by omega) (by have := pc_pos (by omega) hm e; omega)
        rw [← hP.2.2.2.1] at hw
        simp only [Nat.add_zero] at hw
        obtain ⟨t1, t2, t3⟩ := wTo_is (L := L) (G := G) (b := b) (h := h) hI hmM
        have e6 : sA σ 6 (nI m) = nI (tHome T m) := (sA_n _ _ (by omega)).trans (hT.2.2.2.1 m hmM)
        obtain ⟨σ1, c1, c2, c3⟩ := c_arc (n := n) (r37 := cRows_drawArcs_b37 n k) (fr := tHome T) (to := wTo T L G b h) hn hf e rfl rfl (by omega) hA
        have l6 := hP.2.2.2.2.1
        have ew : cRows_wishAt n (nI m) (lI l0) ci_0 σ = some (sWish T L G m (G 3 b) h, σ) := by
          unfold cRows_wishAt
          rw [ci0_nI, cell_eq, ob_def, bin_nI (by omega) (by decide), sA_n _ _ (by omega)]
          show some (σ.2.1 60 ((7 * m + l0) * 14), σ) = _
          rw [hw]
        rw [if_pos ((bit_is (by omega) hm).mpr e)]
        unfold cRows_homeOf
        rw [bin_nI hm (by decide), e6, ob_def]
        simp only [e12]
        rw [ew, ob_def]
        have key : (if 0 ≤ sWish T L G m (G 3 b) h then cRows_drawArcs_b81 n (cRows_drawArcs_b37 n k) (nI m) (nI (tHome T m)) (sWish T L G m (G 3 b) h) σ else cRows_drawArcs_b81 n (cRows_drawArcs_b37 n k) (nI m) (nI (tHome T m)) (nI (tHome T m)) σ) = cRows_drawArcs_b81 n (cRows_drawArcs_b37 n k) (nI m) (nI (tHome T m)) (nI (wTo T L G b h m)) σ := by
          by_cases z : 0 ≤ sWish T L G m (G 3 b) h
          · rw [if_pos z, ← t2 z]
          · rw [if_neg z, t3 z]
        show ∃ σ', (if 0 ≤ sWish T L G m (G 3 b) h then cRows_drawArcs_b81 n (cRows_drawArcs_b37 n k) (nI m) (nI (tHome T m)) (sWish T L G m (G 3 b) h) σ else cRows_drawArcs_b81 n (cRows_drawArcs_b37 n k) (nI m) (nI (tHome T m)) (nI (tHome T m)) σ) = _ ∧ _
        rw [key, c1]
        obtain ⟨σ2, d1, d2, d3⟩ := c_draw_l hn hI hs k (m + 1) σ1 (hT.fr c3 (fun a x y => by unfold sc64; omega)) (hP.fr c3 (by decide) (by decide)) c2 hm (by omega)
        exact ⟨σ2, d1, d2, c3.trans d3⟩
      · rw [if_neg (fun z => e ((bit_is (by omega) hm).mp z)), cRows_drawArcs_b121, ci1_nI, nI_add]
        refine c_draw_l hn hI hs k (m + 1) σ hT hP ?_ hm (by omega)
        intro k hk
        rw [oA, oA, pA, if_neg e, if_neg e, if_neg e]
        exact hA k hk
    · have e : m = 7 := by omega
      subst e
      rw [if_pos (Int32.le_refl _)]
      exact ⟨σ, rfl, hA, frC.rf⟩
theorem c_draw0_l {n : Nat} : ∀ (k j : Nat) (σ : bS), (∀ x, x < j → σ.2.1 64 x = nI 0 ∧ σ.2.1 65 x = nI 0 ∧ σ.2.1 66 x = nI x) → j ≤ 6 → 6 < j + k → ∃ σ', cRows_drawArcs_b2 n k (nI j) σ = cRows_drawArcs_b37 n n ci_0 σ' ∧ Ar 64 65 66 (fun _ => 0) (fun _ => 0) (fun x => x) σ' ∧ frC sc64 σ σ'
  | 0, j, σ, a, h1, h2 => by omega
  | k + 1, j, σ, a, h1, h2 => by
    rw [cRows_drawArcs_b2, cb_6_n]
    by_cases hj : j < 6
    · rw [if_neg (nI_ge hj (by omega)), bin_nI hj (by decide), bin_nI hj (by decide), bin_nI hj (by decide), ci1_nI, nI_add, ci0_nI]
      obtain ⟨σ2, c1, c2, c3⟩ := c_draw0_l (n := n) k (j + 1) (uA (uA (uA σ 64 (nI j) (nI 0)) 65 (nI j) (nI 0)) 66 (nI j) (nI j)) (fun x hx => by
        have q1 : (uA (uA (uA σ 64 (nI j) (nI 0)) 65 (nI j) (nI 0)) 66 (nI j) (nI j)).2.1 64 x = if x = j then nI 0 else σ.2.1 64 x := by
          rw [uA_o _ _ _ _ (by decide), uA_o _ _ _ _ (by decide), uA_2, nI_clamp (by omega)]
          simp
        have q2 : (uA (uA (uA σ 64 (nI j) (nI 0)) 65 (nI j) (nI 0)) 66 (nI j) (nI j)).2.1 65 x = if x = j then nI 0 else σ.2.1 65 x := by
          rw [uA_o _ _ _ _ (by decide), uA_2, nI_clamp (by omega), uA_o _ _ _ _ (by decide)]
          simp
        have q3 : (uA (uA (uA σ 64 (nI j) (nI 0)) 65 (nI j) (nI 0)) 66 (nI j) (nI j)).2.1 66 x = if x = j then nI j else σ.2.1 66 x := by
          rw [uA_2, nI_clamp (by omega), uA_o _ _ _ _ (by decide), uA_o _ _ _ _ (by decide)]
          simp
        rw [q1, q2, q3]
        by_cases z : x = j
        · subst z
          rw [if_pos rfl, if_pos rfl, if_pos rfl]
          exact ⟨rfl, rfl, rfl⟩
        · rw [if_neg z, if_neg z, if_neg z]
          exact a x (by omega)) hj (by omega)
      exact ⟨σ2, c1, c2, (frCaA (frCaA (frCaA frC.rf ⟨by omega, by omega⟩) ⟨by omega, by omega⟩) ⟨by omega, by omega⟩ : frC sc64 σ _).trans c3⟩
    · have e : j = 6 := by omega
      subst e
      rw [if_pos (Int32.le_refl _)]
      exact ⟨σ, rfl, fun x hx => a x hx, frC.rf⟩
/-! the reference's -/
abbrev sc38 : Nat → Prop := fun a => a = 31 ∨ a = 32 ∨ (38 ≤ a ∧ a ≤ 40)
theorem m_arc {T : aT} {L : aL} {n m s x y b : Nat} {fr to : Nat → Nat} {r42 : Int32 → Int32 → Int32 → bS → Option bS} {σ : bS} (hn : 20 ≤ n) (hT : MTx T L σ) (hm : m < tM T) (hM : tM T ≤ 7) (hf : ∀ m, s.testBit m = true → to m < 6) (hx6 : x < 6) (e : s.testBit m = true) (hx : fr m = x) (hxT : tHome T m = x) (hy : to m = y) (ht : y < 6) (hA : Ar 38 39 40 (oA fr s m) (oA to s m) (pA to fr s m) σ) : ∃ σ', m_laysArcs_b87 n r42 (nI b) (nI s) (nI m) (nI y) σ = r42 (nI b) (nI s) (nI (m + 1)) σ' ∧ Ar 38 39 40 (oA fr s (m + 1)) (oA to s (m + 1)) (pA to fr s (m + 1)) σ' ∧ frM (fun _ => False) (fun a => 38 ≤ a ∧ a ≤ 40) σ σ' := by
  obtain ⟨σ1, s1⟩ : ∃ q, q = uA σ 38 (nI x) (nI (oA fr s m x + 1)) := ⟨_, rfl⟩
  obtain ⟨σ2, s2⟩ : ∃ q, q = uA σ1 39 (nI y) (nI (oA to s m y + 1)) := ⟨_, rfl⟩
  have e22 : sA σ 22 (nI m) = nI x := (sA_n _ _ (by omega)).trans ((hT.2.2.2.1 m hm).trans (by rw [hxT]))
  have e22' : sA σ2 22 (nI m) = nI x := by
    rw [sA_n _ _ (by omega), s2, s1, uA_o _ _ _ _ (by decide), uA_o _ _ _ _ (by decide), hT.2.2.2.1 m hm, hxT]
  have e64 : sA σ 38 (nI x) = nI (oA fr s m x) := (sA_n _ _ (by omega)).trans (hA x hx6).1
  have e65 : sA σ1 39 (nI y) = nI (oA to s m y) := by
    rw [sA_n _ _ (by omega), s1, uA_o _ _ _ _ (by decide)]
    exact (hA y ht).2.1
  have f2 : frM (fun _ => False) (fun a => 38 ≤ a ∧ a ≤ 40) σ σ2 := by
    rw [s2, s1]
    exact frMaA (frMaA frM.rf ⟨by omega, by omega⟩) ⟨by omega, by omega⟩
  have p66 : ∀ k, k < 6 → σ2.2.1 40 k = nI (pA to fr s m k) := fun k hk => by
    rw [s2, s1, uA_o _ _ _ _ (by decide), uA_o _ _ _ _ (by decide)]
    exact (hA k hk).2.2
  have l1 : sA σ2 40 (nI x) = nI (pA to fr s m x) := (sA_n _ _ (by omega)).trans (p66 x hx6)
  have l2 : sA σ2 40 (nI y) = nI (pA to fr s m y) := (sA_n _ _ (by omega)).trans (p66 y ht)
  obtain ⟨σ3, c1, c2, c3⟩ := m_join_l (n := n) (t := pA to fr s m x) (f0 := pA to fr s m y) (p := pA to fr s m) (fun k hk => pA_lt hf m k hk) (pA_lt hf m x hx6) n 0 σ2 (fun k hk => by rw [if_neg (by omega)]; exact p66 k hk) (by omega) (by omega)
  refine ⟨σ3, ?_, fun k hk => ?_, f2.trans (c3.mono (fun a z => z) (fun a z => by omega))⟩
  · unfold m_laysArcs_b87 m_laysArcs_b127
    rw [bin_nI (show m < 14 by omega) (by decide), e22, bin_nI hx6 (by decide), bin_nI hx6 (by decide), bin_nI ht (by decide), bin_nI ht (by decide), bin_nI (show m < 14 by omega) (by decide), e64, ci1_nI, nI_add, ← s1, e65, nI_add, ← s2, e22']
    unfold m_joins
    rw [bin_nI hx6 (by decide), bin_nI ht (by decide), l1, l2]
    rw [show m_joins_b18 n n (nI (pA to fr s m x)) (nI (pA to fr s m y)) ci_0 σ2 = some σ3 from c1, ob_def, nI_add]
  · rw [c3.2.1 38 (by decide), c3.2.1 39 (by decide), c2 k hk, oA, oA, pA, if_pos e, if_pos e, if_pos e, hx, hy]
    refine ⟨?_, ?_, rfl⟩
    · rw [s2, uA_o _ _ _ _ (by decide), s1, uA_2, nI_clamp (by omega)]
      by_cases z : k = x
      · subst z
        rw [if_pos ⟨rfl, rfl⟩, if_pos rfl]
      · rw [if_neg (fun u => z u.2), if_neg z]
        exact (hA k hk).1
    · rw [s2, uA_2, nI_clamp (by omega)]
      by_cases z : k = y
      · subst z
        rw [if_pos ⟨rfl, rfl⟩, if_pos rfl]
      · rw [if_neg (fun u => z u.2), if_neg z, s1, uA_o _ _ _ _ (by decide)]
        exact (hA k hk).2.1
theorem m_arcs_l {T : aT} {L : aL} {i n b h s : Nat} {G : aG} (hn : 1000 ≤ n) (hI : InvT T L) (hi : InvG T i G) (hh : h < 2 ^ 31) (hh2 : G 0 0 = nI h) (hb : b < tG T) (hs : s < 2 ^ tM T) (hf : ∀ m, s.testBit m = true → m < tM T ∧ G 5 m = nI (tFoot T b)) : ∀ (k m : Nat) (σ : bS), MTx T L σ → MG T 0 G σ → σ.1 0 40 = nI 0 → Ar 38 39 40 (oA (tHome T) s m) (oA (wTo T L G b h) s m) (pA (wTo T L G b h) (tHome T) s m) σ → m ≤ tM T → tM T < m + k → ∃ σ', m_laysArcs_b42 n k (nI b) (nI s) (nI m) σ = some σ' ∧ Ar 38 39 40 (oA (tHome T) s (tM T)) (oA (wTo T L G b h) s (tM T)) (pA (wTo T L G b h) (tHome T) s (tM T)) σ' ∧ frM sc46 sc38 σ σ'
  | 0, m, σ, hT, hG, hw, hA, h1, h2 => by omega
  | k + 1, m, σ, hT, hG, hw, hA, h1, h2 => by
    have hM := hI.2.2.2.1
    have hB := hI.1
    have h7 : (2 : Nat) ^ tM T ≤ 2 ^ 7 := Nat.pow_le_pow_right (by decide) hM
    have hf6 : ∀ m, s.testBit m = true → wTo T L G b h m < 6 := fun m hm => by have := (wTo_is (L := L) (G := G) (b := b) (h := h) hI (bit_lt hs hm)).1; omega
    rw [m_laysArcs_b42, bin_c0 (by decide) (by decide), sA_c0, hT.1.2.2.2]
    by_cases hm : m < tM T
    · rw [if_neg (nI_ge hm (by omega)), bit_eq (by omega) (by omega)]
      by_cases e : s.testBit m = true
      · obtain ⟨t1, t2, t3⟩ := wTo_is (L := L) (G := G) (b := b) (h := h) hI hm
        have hho := hI.2.2.2.2.2.1 m hm
        obtain ⟨σ0, w1, w2⟩ := m_wishOf_eq (n := n) (w := 0) hn hI hT hG hw (by omega) hm hb hh hh2 (hI.2.2.2.2.1 b hb) (hf m e).2 (hi.2.1 b hb)
        have hT0 := hT.scr w2
        obtain ⟨σ1, c1, c2, c3⟩ := m_arc (n := n) (b := b) (r42 := m_laysArcs_b42 n k) (fr := tHome T) (to := wTo T L G b h) (σ := σ0) (by omega) hT0 hm hM hf6 (by omega) e rfl rfl rfl (by omega) (fun x hx => by rw [w2.2.1 38 (by decide), w2.2.1 39 (by decide), w2.2.1 40 (by decide)]; exact hA x hx)
        have e22 : sA σ0 22 (nI m) = nI (tHome T m) := (sA_n _ _ (by omega)).trans (hT0.2.2.2.1 m hm)
        have key : (if 0 ≤ md (sWish T L G m (G 3 b) h) then m_laysArcs_b87 n (m_laysArcs_b42 n k) (nI b) (nI s) (nI m) (md (sWish T L G m (G 3 b) h)) σ0 else bin_ (nI m) 14 (m_laysArcs_b87 n (m_laysArcs_b42 n k) (nI b) (nI s) (nI m) (sA σ0 22 (nI m)) σ0)) = m_laysArcs_b87 n (m_laysArcs_b42 n k) (nI b) (nI s) (nI m) (nI (wTo T L G b h m)) σ0 := by
          by_cases z : 0 ≤ sWish T L G m (G 3 b) h
          · rw [t2 z, md_n (by omega), if_pos (nI_pos' (by omega))]
          · rw [if_neg (fun y => z (Int32.not_lt.mp (fun u => Int32.not_lt.mpr y (md_lt.mpr u)))), bin_nI (by omega) (by decide), e22, t3 z]
        rw [if_pos e, if_neg one_ne, w1, ob_def]
        show ∃ σ', (if 0 ≤ md (sWish T L G m (G 3 b) h) then m_laysArcs_b87 n (m_laysArcs_b42 n k) (nI b) (nI s) (nI m) (md (sWish T L G m (G 3 b) h)) σ0 else bin_ (nI m) 14 (m_laysArcs_b87 n (m_laysArcs_b42 n k) (nI b) (nI s) (nI m) (sA σ0 22 (nI m)) σ0)) = _ ∧ _
        rw [key, c1]
        have f1 : frM sc46 sc38 σ σ1 := (w2.mono (fun _ z => z) (fun a z => by unfold sc38; omega)).trans (c3.mono (fun _ z => z.elim) (fun a z => by unfold sc38; omega))
        obtain ⟨σ2, d1, d2, d3⟩ := m_arcs_l hn hI hi hh hh2 hb hs hf k (m + 1) σ1 (hT.of (fun a x y => f1.2.1 a (by unfold sc38; omega))) (by unfold MG; rw [f1.2.1 29 (by decide)]; exact hG) ((f1.1 40 (by decide)).trans hw) c2 hm (by omega)
        exact ⟨σ2, d1, d2, f1.trans d3⟩
      · rw [if_neg e, if_pos rfl, m_laysArcs_b127, ci1_nI, nI_add]
        refine m_arcs_l hn hI hi hh hh2 hb hs hf k (m + 1) σ hT hG hw ?_ hm (by omega)
        intro k hk
        rw [oA, oA, pA, if_neg e, if_neg e, if_neg e]
        exact hA k hk
    · have e : m = tM T := by omega
      subst e
      rw [if_pos (Int32.le_refl _)]
      exact ⟨σ, rfl, hA, frM.rf⟩
theorem m_arcs0_l {n : Nat} {x1 x2 : Int32} : ∀ (k j : Nat) (σ : bS), (∀ x, x < j → σ.2.1 38 x = nI 0 ∧ σ.2.1 39 x = nI 0 ∧ σ.2.1 40 x = nI x) → j ≤ 6 → 6 < j + k → ∃ σ', m_laysArcs_b2 n k x1 x2 (nI j) σ = m_laysArcs_b42 n n x1 x2 ci_0 (uI σ' 0 40 ci_0) ∧ Ar 38 39 40 (fun _ => 0) (fun _ => 0) (fun x => x) σ' ∧ frM (fun _ => False) (fun a => 38 ≤ a ∧ a ≤ 40) σ σ'
  | 0, j, σ, a, h1, h2 => by omega
  | k + 1, j, σ, a, h1, h2 => by
    rw [m_laysArcs_b2, cb_6_n]
    by_cases hj : j < 6
    · rw [if_neg (nI_ge hj (by omega)), bin_nI hj (by decide), bin_nI hj (by decide), bin_nI hj (by decide), ci1_nI, nI_add, ci0_nI]
      obtain ⟨σ2, c1, c2, c3⟩ := m_arcs0_l (n := n) (x1 := x1) (x2 := x2) k (j + 1) (uA (uA (uA σ 38 (nI j) (nI 0)) 39 (nI j) (nI 0)) 40 (nI j) (nI j)) (fun x hx => by
        have q1 : (uA (uA (uA σ 38 (nI j) (nI 0)) 39 (nI j) (nI 0)) 40 (nI j) (nI j)).2.1 38 x = if x = j then nI 0 else σ.2.1 38 x := by
          rw [uA_o _ _ _ _ (by decide), uA_o _ _ _ _ (by decide), uA_2, nI_clamp (by omega)]
          simp
        have q2 : (uA (uA (uA σ 38 (nI j) (nI 0)) 39 (nI j) (nI 0)) 40 (nI j) (nI j)).2.1 39 x = if x = j then nI 0 else σ.2.1 39 x := by
          rw [uA_o _ _ _ _ (by decide), uA_2, nI_clamp (by omega), uA_o _ _ _ _ (by decide)]
          simp
        have q3 : (uA (uA (uA σ 38 (nI j) (nI 0)) 39 (nI j) (nI 0)) 40 (nI j) (nI j)).2.1 40 x = if x = j then nI j else σ.2.1 40 x := by
          rw [uA_2, nI_clamp (by omega), uA_o _ _ _ _ (by decide), uA_o _ _ _ _ (by decide)]
          simp
        rw [q1, q2, q3]
        by_cases z : x = j
        · subst z
          rw [if_pos rfl, if_pos rfl, if_pos rfl]
          exact ⟨rfl, rfl, rfl⟩
        · rw [if_neg z, if_neg z, if_neg z]
          exact a x (by omega)) hj (by omega)
      exact ⟨σ2, c1, c2, (frMaA (frMaA (frMaA frM.rf ⟨by omega, by omega⟩) ⟨by omega, by omega⟩) ⟨by omega, by omega⟩ : frM (fun _ => False) (fun a => 38 ≤ a ∧ a ≤ 40) σ _).trans c3⟩
    · have e : j = 6 := by omega
      subst e
      rw [if_pos (Int32.le_refl _)]
      exact ⟨σ, rfl, fun x hx => a x hx, frM.rf⟩
