/-! WAYS: the class -/
def KS (K : Nat → Nat) (σ : bS) : Prop := ∀ a, a < 96 → σ.2.1 57 a = nI (K a)
/-- costs while one spot is gone on from: the edges Dn are done -/
def RP (T : aT) (ll : Nat → Nat) (x w : Nat) (K0 K : Nat → Nat) (Dn : Nat → Nat → Nat → Prop) : Prop := (∀ v, v < 96 → K v ≤ K0 v) ∧ (∀ v, v < 96 → K v = K0 v ∨ ∃ h c, Ed T ll x v h c ∧ K v = K0 x + w * h + c) ∧ ∀ v h c, Dn v h c → v < 96 → K v ≤ K0 x + w * h + c
theorem RP.weak {T : aT} {ll : Nat → Nat} {x w : Nat} {K0 K : Nat → Nat} {Dn Dn' : Nat → Nat → Nat → Prop} (R : RP T ll x w K0 K Dn) (h : ∀ v h c, Dn' v h c → Dn v h c) : RP T ll x w K0 K Dn' := ⟨R.1, R.2.1, fun v a c d => R.2.2 v a c (h v a c d)⟩
theorem RP.self {T : aT} {L : aL} {ll : Nat → Nat} {x w : Nat} {K0 K : Nat → Nat} {Dn : Nat → Nat → Nat → Prop} (hI : InvT T L) (hw : 0 < w) (hx : x < 96) (R : RP T ll x w K0 K Dn) : K x = K0 x := by
  rcases R.2.1 x hx with e | ⟨h, c, e, q⟩
  · exact e
  · have := R.1 x hx
    have := (e.bd hI).1
    have : w * 1 ≤ w * h := Nat.mul_le_mul_left w this
    omega
def mnK (K : Nat → Nat) (v x : Nat) : Nat → Nat := fun a => if a = v then (if x < K a then x else K a) else K a
theorem RP.come {T : aT} {L : aL} {ll : Nat → Nat} {x w v h c : Nat} {K0 K : Nat → Nat} {Dn : Nat → Nat → Nat → Prop} (R : RP T ll x w K0 K Dn) (e : Ed T ll x v h c) : RP T ll x w K0 (mnK K v (K0 x + w * h + c)) (fun v' h' c' => Dn v' h' c' ∨ (v' = v ∧ h' = h ∧ c' = c)) := by
  unfold mnK
  refine ⟨fun a ha => ?_, fun a ha => ?_, fun a h' c' d ha => ?_⟩
  · have := R.1 a ha
    show (if a = v then (if K0 x + w * h + c < K a then K0 x + w * h + c else K a) else K a) ≤ _
    split
    · split <;> omega
    · exact this
  · show (if a = v then (if K0 x + w * h + c < K a then K0 x + w * h + c else K a) else K a) = _ ∨ ∃ h' c', _ ∧ (if a = v then (if K0 x + w * h + c < K a then K0 x + w * h + c else K a) else K a) = _
    by_cases z : a = v
    · rw [if_pos z]
      by_cases y : K0 x + w * h + c < K a
      · rw [if_pos y]
        exact Or.inr ⟨h, c, by rw [z]; exact e, rfl⟩
      · rw [if_neg y]
        exact R.2.1 a ha
    · rw [if_neg z]
      exact R.2.1 a ha
  · show (if a = v then (if K0 x + w * h + c < K a then K0 x + w * h + c else K a) else K a) ≤ _
    rcases d with d | ⟨d1, d2, d3⟩
    · have := R.2.2 a h' c' d ha
      split
      · split <;> omega
      · exact this
    · subst d1 d2 d3
      rw [if_pos rfl]
      split <;> omega
theorem c_come {n bk st x : Nat} {K : Nat → Nat} {σ : bS} (hb : 16 * bk + st < 96) (hx : x < 2 ^ 31) (hK : ∀ a, a < 96 → K a < 2 ^ 31) (H : KS K σ) : ∃ σ', cWays_come n (nI bk) (nI st) (nI x) σ = some σ' ∧ KS (mnK K (16 * bk + st) x) σ' ∧ frC (fun a => a = 57) σ σ' := by
  have hk := hK _ hb
  have e57 : sA σ 57 (nI (16 * bk + st)) = nI (K (16 * bk + st)) := (sA_n _ _ (by omega)).trans (H _ hb)
  have em : cj_min n (nI (K (16 * bk + st))) (nI x) σ = some (nI (if x < K (16 * bk + st) then x else K (16 * bk + st)), σ) := by
    unfold cj_min
    by_cases z : x < K (16 * bk + st)
    · rw [if_pos ((nI_ltI hx hk).mpr z), if_pos z]; rfl
    · rw [if_neg (fun u => z ((nI_ltI hx hk).mp u)), if_neg z]; rfl
  refine ⟨uA σ 57 (nI (16 * bk + st)) (nI (if x < K (16 * bk + st) then x else K (16 * bk + st))), ?_, fun a ha => ?_, frC.uA rfl⟩
  · unfold cWays_come
    rw [cb_16_n, nI_mul, nI_add, show bk * 16 + st = 16 * bk + st by omega, bin_nI hb (by decide), e57, em, ob_def, bin_nI hb (by decide)]
  · rw [uA_2, nI_clamp (by omega)]
    unfold mnK
    by_cases z : a = 16 * bk + st
    · rw [if_pos ⟨rfl, z⟩, if_pos z, z]
    · rw [if_neg (fun u => z u.2), if_neg z]
      exact H a ha
abbrev Dp (T : aT) (x j : Nat) : Nat → Nat → Nat → Prop := fun v h c => ∃ to, to < j ∧ 0 < tWalk T (x / 16) to ∧ v = 16 * to + x % 16 ∧ h = tWalk T (x / 16) to ∧ c = 0
abbrev Db (T : aT) (ll : Nat → Nat) (x g : Nat) (i : Nat) : Nat → Nat → Nat → Prop := fun v h c => ∃ to, to < i ∧ tFoot T g = x / 16 ∧ ((ll g = to + 1 ∧ (x % 16).testBit g = false) ∨ ((x % 16).testBit g = true ∧ ¬ ll g = 0)) ∧ v = 16 * to + (x % 16 ||| 2 ^ g) ∧ h = 1 ∧ c = 1
theorem c_paths_l {T : aT} {L : aL} {ll : Nat → Nat} {n x : Nat} {K0 : Nat → Nat} (hI : InvT T L) (hx : x < 96) (k0 : ∀ a, a < 96 → K0 a ≤ FRC) : ∀ (k j : Nat) (σ : bS) (K : Nat → Nat), CT T L σ → KS K σ → RP T ll x 1024 K0 K (Dp T x j) → j ≤ tB T → tB T < j + k → ∃ σ' K', cWays_goByPaths_1_b2 n k (nI x) (nI j) σ = some σ' ∧ KS K' σ' ∧ RP T ll x 1024 K0 K' (Dp T x (tB T)) ∧ frC (fun a => a = 57) σ σ'
  | 0, j, σ, K, hT, H, R, h1, h2 => by omega
  | k + 1, j, σ, K, hT, H, R, h1, h2 => by
    have hB := hI.1
    have fr : FRC = 1073741824 := rfl
    rw [cWays_goByPaths_1_b2, sI_d, hT.1.1]
    by_cases hj : j < tB T
    · have w9 := hI.2.2.2.2.2.2.2.2.1 (x / 16) j
      have ew : cTold_pathHours n (nI x / cb_16) (nI j) σ = some (nI (tWalk T (x / 16) j), σ) := by
        unfold cTold_pathHours
        rw [cb_16_n, nI_div (by omega) (by decide) (by decide), cb_6_n, nI_mul, nI_add, bin_nI (by omega) (by decide), sA_n _ _ (by omega), show x / 16 * 6 + j = 6 * (x / 16) + j by omega, hT.2.2.2.2.1 _ _ (by omega) (by omega)]
      rw [if_neg (nI_ge hj (by omega)), if_neg (show ¬ cb_16 = 0 by decide), ew, ob_def]
      by_cases z : tWalk T (x / 16) j = 0
      · rw [z, if_pos (show (nI 0 : Int32) ≤ 0 from Int32.le_refl _), cWays_goByPaths_1_b48, ci1_nI, nI_add]
        exact c_paths_l hI hx k0 k (j + 1) σ K hT H (R.weak (fun v h c ⟨to, a1, a2, a3⟩ => ⟨to, by
          by_cases y : to = j
          · subst y
            omega
          · omega, a2, a3⟩)) hj (by omega)
      · have ks := R.self hI (by decide) hx
        have kx := k0 x hx
        have e57 : sA σ 57 (nI x) = nI (K0 x) := (sA_n _ _ (by omega)).trans ((H x hx).trans (by rw [ks]))
        obtain ⟨σ1, c1, c2, c3⟩ := c_come (n := n) (bk := j) (st := x % 16) (x := K0 x + 1024 * tWalk T (x / 16) j + 0) (K := K) (by omega) (by omega) (fun a ha => by have := R.1 a ha; have := k0 a ha; omega) H
        rw [if_neg (show ¬ nI (tWalk T (x / 16) j) ≤ 0 from nI_ge (a := 0) (by omega) (by omega)), if_neg (show ¬ cb_16 = 0 by decide), bin_nI hx (by decide)]
        show ∃ σ' K', (ob (cWays_come n (nI j) (brem (nI x) cb_16) ((sA σ 57 (nI x)) + (nI (tWalk T (x / 16) j) * cs_1024)) σ) fun q2 => cWays_goByPaths_1_b48 n (cWays_goByPaths_1_b2 n k) (nI x) (nI j) q2) = _ ∧ _
        rw [e57, cb_16_n, brem_n (by omega) (by decide) (by decide), cs_1024_n, nI_mul, nI_add, show K0 x + tWalk T (x / 16) j * 1024 = K0 x + 1024 * tWalk T (x / 16) j + 0 by omega, c1, ob_def, cWays_goByPaths_1_b48, ci1_nI, nI_add]
        have R1 := R.come (L := L) (e := Or.inl ⟨j, hj, by omega, rfl, rfl, rfl⟩)
        obtain ⟨σ2, K2, d1, d2, d3, d4⟩ := c_paths_l (n := n) hI hx k0 k (j + 1) σ1 _ (hT.fr c3 (fun a x y => by omega)) c2 (R1.weak (fun v h c ⟨to, a1, a2, a3, a4, a5⟩ => by
          by_cases y : to = j
          · subst y
            exact Or.inr ⟨a3, a4, a5⟩
          · exact Or.inl ⟨to, by omega, a2, a3, a4, a5⟩)) hj (by omega)
        exact ⟨σ2, K2, d1, d2, d3, c3.trans d4⟩
    · have e : j = tB T := by omega
      subst e
      rw [if_pos (Int32.le_refl _)]
      exact ⟨σ, K, rfl, H, R, frC.rf⟩
theorem or_bit {s g : Nat} (h : s.testBit g = true) : s ||| 2 ^ g = s := by
  apply Nat.eq_of_testBit_eq
  intro j
  rw [Nat.testBit_or, Nat.testBit_two_pow]
  by_cases z : g = j
  · subst z
    rw [h]
    rfl
  · rw [decide_eq_false z, Bool.or_false]
theorem c_free_l {T : aT} {L : aL} {ll : Nat → Nat} {n x g : Nat} {K0 : Nat → Nat} {Dn : Nat → Nat → Nat → Prop} {r23 : Int32 → Int32 → Int32 → Int32 → bS → Option bS} {x3 : Int32} (hI : InvT T L) (hx : x < 96) (hg : g < tG T) (hfo : tFoot T g = x / 16) (bit : (x % 16).testBit g = true) (hl : ¬ ll g = 0) (k0 : ∀ a, a < 96 → K0 a ≤ FRC) : ∀ (k j : Nat) (σ : bS) (K : Nat → Nat), CT T L σ → KS K σ → RP T ll x 1024 K0 K (fun v h c => Dn v h c ∨ Db T ll x g j v h c) → j ≤ tB T → tB T < j + k → ∃ σ' K', cWays_goByBridges_1_28_b89 n r23 k x3 (nI (K0 x + 1024 * 1 + 1)) (nI (x % 16)) (nI g) (nI j) σ = r23 x3 (nI (K0 x + 1024 * 1 + 1)) (nI (x % 16)) (nI (g + 1)) σ' ∧ KS K' σ' ∧ RP T ll x 1024 K0 K' (fun v h c => Dn v h c ∨ Db T ll x g (tB T) v h c) ∧ frC (fun a => a = 57) σ σ'
  | 0, j, σ, K, hT, H, R, h1, h2 => by omega
  | k + 1, j, σ, K, hT, H, R, h1, h2 => by
    have hB := hI.1
    have fr : FRC = 1073741824 := rfl
    have kx := k0 x hx
    rw [cWays_goByBridges_1_28_b89, sI_d, hT.1.1]
    by_cases hj : j < tB T
    · have eo := or_bit bit
      obtain ⟨σ1, c1, c2, c3⟩ := c_come (n := n) (bk := j) (st := x % 16) (x := K0 x + 1024 * 1 + 1) (K := K) (by omega) (by omega) (fun a ha => by have := R.1 a ha; have := k0 a ha; omega) H
      rw [if_neg (nI_ge hj (by omega)), c1, ob_def, ci1_nI, nI_add]
      have R1 := R.come (L := L) (v := 16 * j + x % 16) (h := 1) (c := 1) (e := Or.inr ⟨g, j, hg, hj, hfo, Or.inr ⟨bit, hl⟩, by rw [eo], rfl, rfl⟩)
      obtain ⟨σ2, K2, d1, d2, d3, d4⟩ := c_free_l (n := n) (r23 := r23) (x3 := x3) (Dn := Dn) hI hx hg hfo bit hl k0 k (j + 1) σ1 _ (hT.fr c3 (fun a x y => by omega)) c2 (R1.weak (fun v h c d => by
        rcases d with d | ⟨to, a1, a2, a3, a4, a5, a6⟩
        · exact Or.inl (Or.inl d)
        · by_cases y : to = j
          · subst y
            rw [eo] at a4
            exact Or.inr ⟨a4, a5, a6⟩
          · exact Or.inl (Or.inr ⟨to, by omega, a2, a3, a4, a5, a6⟩))) hj (by omega)
      exact ⟨σ2, K2, d1, d2, d3, c3.trans d4⟩
    · have e : j = tB T := by omega
      subst e
      rw [if_pos (Int32.le_refl _), cWays_goByBridges_1_28_b114, ci1_nI, nI_add]
      exact ⟨σ, K, rfl, H, R, frC.rf⟩
abbrev Dg (T : aT) (ll : Nat → Nat) (x j : Nat) : Nat → Nat → Nat → Prop := fun v h c => Dp T x (tB T) v h c ∨ ∃ g, g < j ∧ Db T ll x g (tB T) v h c
theorem c_brid_l {T : aT} {L : aL} {ll : Nat → Nat} {n x : Nat} {K0 : Nat → Nat} {G : aG} (hn : 20 ≤ n) (hI : InvT T L) (hx : x < 96) (hll : ∀ g, g < tG T → G 3 g = lI (ll g) ∧ ll g ≤ tB T) (k0 : ∀ a, a < 96 → K0 a ≤ FRC) : ∀ (k j : Nat) (σ : bS) (K : Nat → Nat), CT T L σ → CG 27 G σ → KS K σ → RP T ll x 1024 K0 K (Dg T ll x j) → j ≤ tG T → tG T < j + k → ∃ σ' K', cWays_goByBridges_1_28_b23 n k (nI x) (nI (K0 x + 1024 * 1 + 1)) (nI (x % 16)) (nI j) σ = some σ' ∧ KS K' σ' ∧ RP T ll x 1024 K0 K' (Dg T ll x (tG T)) ∧ frC (fun a => a = 57) σ σ'
  | 0, j, σ, K, hT, hG, H, R, h1, h2 => by omega
  | k + 1, j, σ, K, hT, hG, H, R, h1, h2 => by
    have hB := hI.1
    have hGG := hI.2.2.1
    have fr : FRC = 1073741824 := rfl
    have kx := k0 x hx
    rw [cWays_goByBridges_1_28_b23, sI_d, hT.1.2.2.1]
    by_cases hj : j < tG T
    · have e3 : sA σ 3 (nI j) = nI (tFoot T j) := (sA_n _ _ (by omega)).trans (hT.2.2.1 j hj)
      have e28 : sA σ 28 (nI j) = lI (ll j) := by
        rw [sA_n _ _ (by omega), ← (hll j hj).1]
        exact (hG.2.1 j (by omega)).1
      have fo := hI.2.2.2.2.1 j hj
      have lb := (hll j hj).2
      have skip : (∀ v h c, ¬ Db T ll x j (tB T) v h c) → ∃ σ' K', cWays_goByBridges_1_28_b114 n (cWays_goByBridges_1_28_b23 n k) (nI x) (nI (K0 x + 1024 * 1 + 1)) (nI (x % 16)) (nI j) σ = some σ' ∧ KS K' σ' ∧ RP T ll x 1024 K0 K' (Dg T ll x (tG T)) ∧ frC (fun a => a = 57) σ σ' := fun no => by
        rw [cWays_goByBridges_1_28_b114, ci1_nI, nI_add]
        exact c_brid_l hn hI hx hll k0 k (j + 1) σ K hT hG H (R.weak (fun v h c d => by
          rcases d with d | ⟨g, hg, d⟩
          · exact Or.inl d
          · by_cases y : g = j
            · subst y
              exact absurd d (no v h c)
            · exact Or.inr ⟨g, by omega, d⟩)) hj (by omega)
      rw [if_neg (nI_ge hj (by omega)), bin_nI (by omega) (by decide), if_neg (show ¬ cb_16 = 0 by decide), e3, cb_16_n, nI_div (by omega) (by decide) (by decide)]
      by_cases z : tFoot T j = x / 16
      · rw [if_pos (by rw [z]), bin_nI (by omega) (by decide), e28]
        by_cases y : ll j = 0
        · rw [if_neg (fun u => (lI_ge (by omega)).mp u y)]
          exact skip (fun v h c ⟨to, a1, a2, a3, a4⟩ => by
            rcases a3 with a3 | a3
            · omega
            · exact a3.2 y)
        · rw [if_pos ((lI_ge (by omega)).mpr y), bit_eq (by omega) (by omega)]
          by_cases w : (x % 16).testBit j = true
          · rw [if_pos w, if_neg one_ne]
            obtain ⟨σ1, K1, c1, c2, c3, c4⟩ := c_free_l (n := n) (ll := ll) (r23 := cWays_goByBridges_1_28_b23 n k) (x3 := nI x) (Dn := Dg T ll x j) hI hx hj z w y k0 n 0 σ K hT H (R.weak (fun v h c d => by
              rcases d with d | ⟨to, a1, -⟩
              · exact d
              · omega)) (by omega) (by omega)
            rw [show cWays_goByBridges_1_28_b89 n (cWays_goByBridges_1_28_b23 n k) n (nI x) (nI (K0 x + 1024 * 1 + 1)) (nI (x % 16)) (nI j) ci_0 σ = _ from c1]
            obtain ⟨σ2, K2, d1, d2, d3, d4⟩ := c_brid_l (n := n) hn hI hx hll k0 k (j + 1) σ1 K1 (hT.fr c4 (fun a x y => by omega)) (hG.go c4 (fun a x y => by omega)) c2 (c3.weak (fun v h c d => by
              rcases d with d | ⟨g, hg, d⟩
              · exact Or.inl (Or.inl d)
              · by_cases t : g = j
                · subst t
                  exact Or.inr d
                · exact Or.inl (Or.inr ⟨g, by omega, d⟩))) hj (by omega)
            exact ⟨σ2, K2, d1, d2, d3, c4.trans d4⟩
          · have w0 : (x % 16).testBit j = false := by
              cases q : (x % 16).testBit j
              · rfl
              · exact absurd q w
            have o16 := or16 (s := x % 16) (g := j) (by omega) (by omega)
            obtain ⟨σ1, c1, c2, c3⟩ := c_come (n := n) (bk := ll j - 1) (st := x % 16 ||| 2 ^ j) (x := K0 x + 1024 * 1 + 1) (K := K) (by omega) (by omega) (fun a ha => by have := R.1 a ha; have := k0 a ha; omega) H
            rw [if_neg w, if_pos rfl, bin_nI (by omega) (by decide), show lI (ll j) = nI (ll j - 1) from if_neg y, ci1_1, one_shl (by omega), nI_or, c1, ob_def, cWays_goByBridges_1_28_b114, show (nI j + ci_1 : Int32) = nI (j + 1) from nI_add j 1]
            have R1 := R.come (L := L) (v := 16 * (ll j - 1) + (x % 16 ||| 2 ^ j)) (h := 1) (c := 1) (e := Or.inr ⟨j, ll j - 1, hj, by omega, z, Or.inl ⟨by omega, w0⟩, rfl, rfl, rfl⟩)
            obtain ⟨σ2, K2, d1, d2, d3, d4⟩ := c_brid_l (n := n) hn hI hx hll k0 k (j + 1) σ1 _ (hT.fr c3 (fun a x y => by omega)) (hG.go c3 (fun a x y => by omega)) c2 (R1.weak (fun v h c d => by
              rcases d with d | ⟨g, hg, d⟩
              · exact Or.inl (Or.inl d)
              · by_cases t : g = j
                · subst t
                  obtain ⟨to, a1, a2, a3, a4, a5, a6⟩ := d
                  rcases a3 with ⟨a3, -⟩ | ⟨a3, -⟩
                  · exact Or.inr ⟨by rw [a4, a3]; rfl, a5, a6⟩
                  · rw [w0] at a3
                    cases a3
                · exact Or.inl (Or.inr ⟨g, by omega, d⟩))) hj (by omega)
            exact ⟨σ2, K2, d1, d2, d3, c3.trans d4⟩
      · rw [if_neg (fun u => z (nI_inj (by omega) (by omega) u))]
        exact skip (fun v h c ⟨to, a1, a2, a3⟩ => z a2)
    · have e : j = tG T := by omega
      subst e
      rw [if_pos (Int32.le_refl _)]
      exact ⟨σ, K, rfl, H, R, frC.rf⟩
/-- one spot is gone on from -/
theorem c_relax {T : aT} {L : aL} {ll : Nat → Nat} {n x : Nat} {K0 : Nat → Nat} {G : aG} {σ : bS} (hn : 20 ≤ n) (hI : InvT T L) (hx : x < 96) (hll : ∀ g, g < tG T → G 3 g = lI (ll g) ∧ ll g ≤ tB T) (k0 : ∀ a, a < 96 → K0 a ≤ FRC) (hT : CT T L σ) (hG : CG 27 G σ) (H : KS K0 σ) : ∃ σ1 σ' K', cWays_goByPaths_1 n (nI x) σ = some σ1 ∧ cWays_goByBridges_1_28 n (nI x) σ1 = some σ' ∧ KS K' σ' ∧ Rlx T ll x 1024 K0 K' ∧ frC (fun a => a = 57) σ σ' := by
  have hB := hI.1
  have hGG := hI.2.2.1
  have fr : FRC = 1073741824 := rfl
  have kx := k0 x hx
  obtain ⟨σ1, K1, a1, a2, a3, a4⟩ := c_paths_l (n := n) (ll := ll) hI hx k0 n 0 σ K0 hT H ⟨fun v hv => Nat.le_refl _, fun v hv => Or.inl rfl, fun v h c ⟨to, a, _⟩ => by omega⟩ (by omega) (by omega)
  have ks := a3.self hI (by decide) hx
  have e57 : sA σ1 57 (nI x) = nI (K0 x) := (sA_n _ _ (by omega)).trans ((a2 x hx).trans (by rw [ks]))
  obtain ⟨σ2, K2, b1, b2, b3, b4⟩ := c_brid_l (n := n) (ll := ll) hn hI hx hll k0 n 0 σ1 K1 (hT.fr a4 (fun a x y => by omega)) (hG.go a4 (fun a x y => by omega)) a2 (a3.weak (fun v h c d => by
    rcases d with d | ⟨g, hg, -⟩
    · exact d
    · omega)) (by omega) (by omega)
  refine ⟨σ1, σ2, K2, a1, ?_, b2, ⟨b3.1, b3.2.1, fun v h c e => ?_⟩, a4.trans b4⟩
  · unfold cWays_goByBridges_1_28
    rw [bin_nI hx (by decide), if_neg (show ¬ cb_16 = 0 by decide), e57, cs_1024_n, nI_add, ci1_nI, nI_add, cb_16_n, brem_n (by omega) (by decide) (by decide)]
    exact b1
  · have hv := (e.bd hI).2.2.2.1
    refine b3.2.2 v h c ?_ hv
    rcases e with e | ⟨g, to, q1, q2, q3, q4, q5, q6, q7⟩
    · exact Or.inl e
    · exact Or.inr ⟨g, q1, to, q2, q3, q4, q5, q6, q7⟩
/-! the nearest spot that isn't settled -/
def ZS (Z : Nat → Bool) (σ : bS) : Prop := ∀ a, a < 96 → σ.2.1 58 a = if Z a = true then 1 else 0
/-- found among the first j: 0 is none -/
def Fnd (K : Nat → Nat) (Z : Nat → Bool) (j f : Nat) : Prop := (f = 0 ∧ ∀ v, v < j → Z v = false → FRC ≤ K v) ∨ (0 < f ∧ f ≤ j ∧ Z (f - 1) = false ∧ K (f - 1) < FRC ∧ ∀ v, v < j → Z v = false → K (f - 1) ≤ K v)
theorem c_near_l {n : Nat} {K : Nat → Nat} {Z : Nat → Bool} {σ : bS} (k0 : ∀ a, a < 96 → K a ≤ FRC) (H : KS K σ) (hZ : ZS Z σ) : ∀ (k j f : Nat), Fnd K Z j f → j ≤ 96 → 96 < j + k → ∃ f', cWays_nearest_b4 n k (lI f) (nI j) σ = some (lI f', σ) ∧ Fnd K Z 96 f'
  | 0, j, f, F, h1, h2 => by omega
  | k + 1, j, f, F, h1, h2 => by
    have fr : FRC = 1073741824 := rfl
    rw [cWays_nearest_b4, cb_96_n]
    by_cases hj : j < 96
    · have e58 : sA σ 58 (nI j) = if Z j = true then 1 else 0 := (sA_n _ _ (by omega)).trans (hZ j hj)
      have e57 : sA σ 57 (nI j) = nI (K j) := (sA_n _ _ (by omega)).trans (H j hj)
      have kj := k0 j hj
      rw [if_neg (nI_ge hj (by omega)), bin_nI hj (by decide), e58]
      by_cases z : Z j = true
      · rw [if_pos z, if_neg one_ne, cWays_nearest_b45, ci1_nI, nI_add]
        refine c_near_l k0 H hZ k (j + 1) f ?_ (by omega) (by omega)
        have zj : ∀ v, v < j + 1 → Z v = false → v < j := fun v hv zv => by
          by_cases y : v = j
          · subst y
            rw [z] at zv
            cases zv
          · omega
        rcases F with ⟨f0, F⟩ | ⟨f0, f1, f2, f3, f4⟩
        · exact Or.inl ⟨f0, fun v hv zv => F v (zj v hv zv) zv⟩
        · exact Or.inr ⟨f0, by omega, f2, f3, fun v hv zv => f4 v (zj v hv zv) zv⟩
      · have z0 : Z j = false := by
          cases q : Z j
          · rfl
          · exact absurd q z
        rw [if_neg z, if_pos rfl, bin_nI hj (by decide), e57]
        rcases F with ⟨f0, F⟩ | ⟨f0, f1, f2, f3, f4⟩
        · subst f0
          rw [if_neg (show ¬ 0 ≤ lI 0 by decide), cWays_nearest_b40]
          by_cases y : K j < FRC
          · rw [if_neg (show ¬ (1073741824 : Int32) ≤ nI (K j) from fun u => by
              have u : nI 1073741824 ≤ nI (K j) := u
              have := (nI_leI (by omega) (by omega)).mp u
              omega), cWays_nearest_b45, ← lI_S, show lI (j + 1) + ci_1 = lI (j + 1 + 1) by rw [lI_S, lI_S, ci1_nI, nI_add]]
            rw [lI_S (j + 1)]
            refine c_near_l k0 H hZ k (j + 1) (j + 1) (Or.inr ⟨by omega, by omega, by rw [show j + 1 - 1 = j by omega]; exact z0, by rw [show j + 1 - 1 = j by omega]; exact y, fun v hv zv => ?_⟩) (by omega) (by omega)
            rw [show j + 1 - 1 = j by omega]
            by_cases t : v = j
            · subst t
              omega
            · have := F v (by omega) zv
              omega
          · rw [if_pos (show (1073741824 : Int32) ≤ nI (K j) from (nI_leI (a := 1073741824) (by omega) (by omega)).mpr (by omega)), cWays_nearest_b45, ci1_nI, nI_add]
            refine c_near_l k0 H hZ k (j + 1) 0 (Or.inl ⟨rfl, fun v hv zv => ?_⟩) (by omega) (by omega)
            by_cases t : v = j
            · subst t
              omega
            · exact F v (by omega) zv
        · have el : lI f = nI (f - 1) := if_neg (by omega)
          have e57f : sA σ 57 (nI (f - 1)) = nI (K (f - 1)) := (sA_n _ _ (by omega)).trans (H _ (by omega))
          rw [el, if_pos (nI_pos' (by omega)), bin_nI (by omega) (by decide), e57f, cWays_nearest_b40]
          by_cases y : K (f - 1) ≤ K j
          · rw [if_pos ((nI_leI (by omega) (by omega)).mpr y), cWays_nearest_b45, ci1_nI, nI_add, ← el]
            refine c_near_l k0 H hZ k (j + 1) f (Or.inr ⟨f0, by omega, f2, f3, fun v hv zv => ?_⟩) (by omega) (by omega)
            by_cases t : v = j
            · subst t
              exact y
            · exact f4 v (by omega) zv
          · rw [if_neg (fun u => y ((nI_leI (by omega) (by omega)).mp u)), cWays_nearest_b45, ci1_nI, nI_add, ← lI_S]
            refine c_near_l k0 H hZ k (j + 1) (j + 1) (Or.inr ⟨by omega, by omega, by rw [show j + 1 - 1 = j by omega]; exact z0, by rw [show j + 1 - 1 = j by omega]; omega, fun v hv zv => ?_⟩) (by omega) (by omega)
            rw [show j + 1 - 1 = j by omega]
            by_cases t : v = j
            · subst t
              exact Nat.le_refl _
            · have := f4 v (by omega) zv
              omega
    · have e : j = 96 := by omega
      subst e
      rw [if_pos (Int32.le_refl _)]
      exact ⟨f, rfl, F⟩
abbrev sc57 : Nat → Prop := fun a => a = 57 ∨ a = 58
theorem c_srch_l {T : aT} {L : aL} {ll : Nat → Nat} {n s0 : Nat} {G : aG} {σ0 : bS} (hn : 100 ≤ n) (hI : InvT T L) (h0 : s0 < 96) (hll : ∀ g, g < tG T → G 3 g = lI (ll g) ∧ ll g ≤ tB T) : ∀ (k j : Nat) (σ : bS) (K : Nat → Nat) (Z : Nat → Bool), CT T L σ → CG 27 G σ → KS K σ → ZS Z σ → DI T ll s0 j K Z → frC sc57 σ0 σ → j ≤ 96 → 96 < j + k → ∃ σ' K', cWays_search_1_28_b30 n k (nI j) σ = some σ' ∧ KS K' σ' ∧ KC T ll s0 K' ∧ frC sc57 σ0 σ'
  | 0, j, σ, K, Z, hT, hG, H, hZ, D, f, h1, h2 => by omega
  | k + 1, j, σ, K, Z, hT, hG, H, hZ, D, f, h1, h2 => by
    rw [cWays_search_1_28_b30, cb_96_n]
    by_cases hj : j < 96
    · obtain ⟨x, c1, c2⟩ := c_near_l (n := n) D.2.1 H hZ n 0 0 (Or.inl ⟨rfl, fun v hv => by omega⟩) (by omega) (by omega)
      rw [if_neg (nI_ge hj (by omega))]
      unfold cWays_nearest
      rw [cim1, show cWays_nearest_b4 n n (-1) ci_0 σ = some (lI x, σ) from c1, ob_def]
      rcases c2 with ⟨f0, F⟩ | ⟨f0, f1, f2, f3, f4⟩
      · subst f0
        rw [if_neg (show ¬ 0 ≤ lI 0 by decide)]
        exact ⟨σ, K, rfl, H, D.kc h1 (fun u hu ku => by
          cases q : Z u
          · have := F u hu q
            omega
          · rfl), f⟩
      · have el : lI x = nI (x - 1) := if_neg (by omega)
        have fz : frC sc57 σ (uA σ 58 (nI (x - 1)) ci_1) := frC.uA (Or.inr rfl)
        obtain ⟨σ1, σ2, K2, d1, d2, d3, d4, d5⟩ := c_relax (n := n) (σ := uA σ 58 (nI (x - 1)) ci_1) (K0 := K) (by omega) hI (show x - 1 < 96 by omega) hll D.2.1 (hT.fr fz (fun a x y => by unfold sc57; omega)) (hG.go fz (fun a x y => by unfold sc57; omega)) (fun a ha => by rw [uA_o _ _ _ _ (by decide)]; exact H a ha)
        have D2 := D.step hI h0 h1 (by omega) f2 f3 f4 d4
        have f2' : frC sc57 σ σ2 := fz.trans (d5.mono (fun a z => Or.inl z))
        rw [el, if_pos (nI_pos' (by omega)), bin_nI (by omega) (by decide), d1, ob_def, d2, ob_def, ci1_nI, nI_add]
        exact c_srch_l hn hI h0 hll k (j + 1) σ2 K2 _ (hT.fr f2' (fun a x y => by unfold sc57; omega)) (hG.go f2' (fun a x y => by unfold sc57; omega)) d3 (fun a ha => by
          rw [(d5 58 (by decide)).2.1, uA_2, nI_clamp (by omega)]
          show _ = if (if a = x - 1 then true else Z a) = true then 1 else 0
          by_cases z : a = x - 1
          · rw [if_pos ⟨rfl, z⟩, if_pos z]
            rfl
          · rw [if_neg (fun u => z u.2), if_neg z]
            exact hZ a ha) D2 (f.trans f2') (by omega) (by omega)
    · have e : j = 96 := by omega
      subst e
      rw [if_pos (Int32.le_refl _)]
      exact ⟨σ, K, rfl, H, D.kc (Nat.le_refl _) (fun u hu _ => D.full u hu), f⟩
theorem c_search {T : aT} {L : aL} {ll : Nat → Nat} {n bk : Nat} {G : aG} {σ : bS} (hn : 100 ≤ n) (hI : InvT T L) (hb : bk < tB T) (hll : ∀ g, g < tG T → G 3 g = lI (ll g) ∧ ll g ≤ tB T) (hT : CT T L σ) (hG : CG 27 G σ) : ∃ σ' K', cWays_search_1_28 n (nI bk) σ = some σ' ∧ KS K' σ' ∧ KC T ll (16 * bk) K' ∧ frC sc57 σ σ' := by
  have hB := hI.1
  have fr : FRC = 1073741824 := rfl
  obtain ⟨σ1, a1, a2, a3⟩ := f_fill_57 (n := n) (by omega) (1073741824 : Int32) σ
  obtain ⟨σ2, b1, b2, b3⟩ := f_fill_58 (n := n) (by omega) ci_0 σ1
  have f3 : frC sc57 σ (uA σ2 57 (nI (16 * bk)) ci_0) := frCaA ((a3.mono (fun a z => Or.inl z)).trans (b3.mono (fun a z => Or.inr z))) (Or.inl rfl)
  obtain ⟨σ3, K3, c1, c2, c3, c4⟩ := c_srch_l (n := n) (ll := ll) (s0 := 16 * bk) (σ0 := σ) hn hI (by omega) hll n 0 (uA σ2 57 (nI (16 * bk)) ci_0) (fun a => if a = 16 * bk then 0 else FRC) (fun _ => false) (hT.fr f3 (fun a x y => by unfold sc57; omega)) (hG.go f3 (fun a x y => by unfold sc57; omega)) (fun a ha => by
    rw [uA_2, nI_clamp (by omega)]
    show _ = nI (if a = 16 * bk then 0 else FRC)
    by_cases z : a = 16 * bk
    · rw [if_pos ⟨rfl, z⟩, if_pos z]
      rfl
    · rw [if_neg (fun u => z u.2), if_neg z, (b3 57 (by decide)).2.1, a2 a ha]
      rfl) (fun a ha => by
    rw [uA_o _ _ _ _ (by decide), b2 a ha, if_neg Bool.false_ne_true]
    rfl) ⟨if_pos rfl, fun a ha => by
      show (if a = 16 * bk then 0 else FRC) ≤ FRC
      split <;> omega, fun a ha ka => by
      have ka : (if a = 16 * bk then 0 else FRC) < FRC := ka
      by_cases z : a = 16 * bk
      · exact ⟨0, 0, 0, by omega, ⟨z, rfl, rfl⟩, if_pos z⟩
      · rw [if_neg z] at ka
        omega, fun u hu zu => absurd zu Bool.false_ne_true, fun u v hu hv zu => absurd zu Bool.false_ne_true, sm_zero 96 (fun k hk => if_neg Bool.false_ne_true), fun u hu zu => absurd zu Bool.false_ne_true⟩ f3 (by omega) (by omega)
  refine ⟨σ3, K3, ?_, c2, c3, c4⟩
  unfold cWays_search_1_28
  rw [a1, ob_def, b1, ob_def, cb_16_n, nI_mul, Nat.mul_comm, bin_nI (by omega) (by decide)]
  exact c1
theorem c_cost_l {n bk : Nat} {K : Nat → Nat} {σ : bS} (hb : bk < 6) (k0 : ∀ a, a < 96 → K a ≤ FRC) (H : KS K σ) : ∀ (k j : Nat), j ≤ 16 → 16 < j + k → cWays_costTo_b5 n k (nI bk) (nI (lsS K FRC bk j)) (nI j) σ = some (nI (lsS K FRC bk 16), σ)
  | 0, j, h1, h2 => by omega
  | k + 1, j, h1, h2 => by
    have fr : FRC = 1073741824 := rfl
    rw [cWays_costTo_b5, cb_16_n]
    by_cases hj : j < 16
    · have kj := k0 (16 * bk + j) (by omega)
      have lf := lsS_far K FRC bk j
      have e57 : sA σ 57 (nI (16 * bk + j)) = nI (K (16 * bk + j)) := (sA_n _ _ (by omega)).trans (H _ (by omega))
      have em : cj_min n (nI (lsS K FRC bk j)) (nI (K (16 * bk + j))) σ = some (nI (lsS K FRC bk (j + 1)), σ) := by
        unfold cj_min
        rw [lsS]
        by_cases z : K (16 * bk + j) < lsS K FRC bk j
        · rw [if_pos ((nI_ltI (by omega) (by omega)).mpr z), if_pos z]; rfl
        · rw [if_neg (fun u => z ((nI_ltI (by omega) (by omega)).mp u)), if_neg z]; rfl
      rw [if_neg (nI_ge hj (by omega)), nI_mul, nI_add, show bk * 16 + j = 16 * bk + j by omega, bin_nI (by omega) (by decide), e57, em, ob_def, ci1_nI, nI_add]
      exact c_cost_l hb k0 H k (j + 1) hj (by omega)
    · have e : j = 16 := by omega
      subst e
      rw [if_pos (Int32.le_refl _)]
theorem c_cost {n bk : Nat} {K : Nat → Nat} {σ : bS} (hn : 20 ≤ n) (hb : bk < 6) (k0 : ∀ a, a < 96 → K a ≤ FRC) (H : KS K σ) : cWays_costTo n (nI bk) σ = some (nI (lsS K FRC bk 16), σ) := c_cost_l hb k0 H n 0 (by omega) (by omega)
