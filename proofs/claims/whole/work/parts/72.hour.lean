/-- a lot of n -/
def sStir (x y : Int32) : Int32 := (((x ^^^ y) * (1103515245 : Int32)) + cs_12345) ^^^ (bush (((x ^^^ y) * (1103515245 : Int32)) + cs_12345) cb_15)
def sLot (s x n : Int32) : Int32 := brem (bush (sStir (sStir s cb_47) x) ci_1) n
theorem bush1 (x : Int32) : ∃ r, r < 2 ^ 31 ∧ bush x ci_1 = nI r := by
  have e : (ci_1.toUInt32 &&& Int32.toUInt32 31) = 1 := by decide
  refine ⟨(x.toUInt32 >>> 1).toNat, ?_, ?_⟩
  · have h := x.toUInt32.toNat_lt
    rw [UInt32.toNat_shiftRight]
    have e1 : (1 : UInt32).toNat % 32 = 1 := by decide
    rw [e1, Nat.shiftRight_eq_div_pow]
    omega
  · show (x.toUInt32 >>> (ci_1.toUInt32 &&& Int32.toUInt32 31)).toInt32 = _
    rw [e]
    show UInt32.toInt32 _ = UInt32.toInt32 (UInt32.ofNat _)
    rw [UInt32.ofNat_toNat]
theorem sLot_in (s x : Int32) {n : Nat} (h0 : 0 < n) (hn : n < 2 ^ 31) : ∃ q, q < n ∧ sLot s x (nI n) = nI q := by
  obtain ⟨r, hr, e⟩ := bush1 (sStir (sStir s cb_47) x)
  refine ⟨r % n, Nat.mod_lt _ h0, ?_⟩
  unfold sLot
  rw [e, brem_n hr hn h0]
theorem m_lot_eq {n w : Nat} {x1 : Int32} {c : Nat} {σ : bS} (hw : σ.1 0 40 = nI w) (hw2 : w ≤ 2000) (h0 : 0 < c) (hc : c < 2 ^ 31) : m_lot n x1 (nI c) σ = some (sLot (σ.2.1 29 (w + 46)) x1 (nI c), σ) := by
  unfold m_lot
  rw [sI_d, hw, cb_46_n, nI_add, bin_nI (by omega) (by decide), sA_n _ _ (by omega)]
  unfold m_mixed
  rw [ob_def, ob_def, if_neg (nI_ne0 h0 hc)]
  rfl
/-- a PILGRIM of a BRIDGE, at hour H -/
def pl (S H P B : Int32) (i : Nat) (x : Int32) : Int32 := if sLot S (((cb_100 * H) + cb_10) + nI i) cb_100 < P then sLot S (((cb_100 * H) + cb_20) + nI i) B else x
def dw (S H B : Int32) (i : Nat) : Int32 := sLot S ((cb_100 * H) + nI i) B
def sHour (T : aT) (G : aG) (h : Nat) : aG := fun t i => if t = 0 then (if i = 0 then nI (h + 1) else G 0 i) else if t = 3 then (if i < tG T then pl (G 10 0) (nI (h + 1)) (tPil T) (nI (tB T)) i (if tDawn T = nI ((h + 1) % 24) then dw (G 10 0) (nI (h + 1)) (nI (tB T)) i else G 3 i) else G 3 i) else G t i
theorem sHour_inv {T : aT} {L : aL} {i i1 h : Nat} {G : aG} (hI : InvT T L) (hG : InvG T i G) (hh : h + 1 ≤ 34 * i1) : InvG T i1 (sHour T G h) := by
  have hB := hI.1
  refine ⟨⟨h + 1, hh, rfl⟩, fun b hb => ?_, hG.2.2⟩
  have h0 : 0 < tB T := by have := hI.2.2.2.2.1 b hb; omega
  show orN _ (if b < tG T then _ else _)
  rw [if_pos hb]
  unfold pl
  split
  · exact Or.inr (sLot_in _ _ h0 (by omega))
  · split
    · exact Or.inr (sLot_in _ _ h0 (by omega))
    · exact hG.2.1 b hb
theorem sHour_h {T : aT} {G : aG} {h : Nat} : sHour T G h 0 0 = nI (h + 1) := rfl
theorem sHour_s {T : aT} {G : aG} {h : Nat} : sHour T G h 10 0 = G 10 0 := rfl
/-- the hour of DAWN, seen by the class -/
theorem pl_0 {S H B : Int32} {i : Nat} {x : Int32} : pl S H 0 B i x = x := by
  unfold pl
  rw [if_neg]
  obtain ⟨q, hq, e⟩ := sLot_in S (((cb_100 * H) + cb_10) + nI i) (n := 100) (by decide) (by decide)
  rw [(congrArg (sLot S (((cb_100 * H) + cb_10) + nI i)) cb_100_n).trans e]
  exact nI_pos (by omega)
theorem c_lot {n c : Nat} {x2 : Int32} {σ : bS} (h0 : 0 < c) (hc : c < 2 ^ 31) : cGoing_lot n (nI c) x2 σ = some (sLot (σ.1 27 1) x2 (nI c), σ) := by
  unfold cGoing_lot cGoing_stirred
  rw [ob_def, ob_def, if_neg (show ¬ nI c ≤ 0 from nI_ge (a := 0) h0 hc), if_neg (nI_ne0 h0 hc)]
  rfl
theorem c_pil_l {n c nb p : Nat} {H S : Int32} {σ0 : bS} (h4 : c ≤ 4) (hB : 0 < c → 0 < nb) (hb : nb ≤ 6) (e1 : σ0.1 1 2 = nI c) (e2 : σ0.1 27 2 = H) (e3 : σ0.1 27 1 = S) (e4 : σ0.1 1 16 = nI p) (e5 : σ0.1 1 0 = nI nb) : ∀ (k j : Nat) (σ : bS), σ.1 = σ0.1 → j ≤ c → c < j + k → (∀ i, σ.2.1 28 i = if i < j then pl S H (nI p) (nI nb) i (σ0.2.1 28 i) else σ0.2.1 28 i) → frC (fun a => a = 28) σ0 σ → ∃ σ', cGoing_hourPasses_b97 n k (nI j) σ = some σ' ∧ σ'.1 = σ0.1 ∧ (∀ i, σ'.2.1 28 i = if i < c then pl S H (nI p) (nI nb) i (σ0.2.1 28 i) else σ0.2.1 28 i) ∧ frC (fun a => a = 28) σ0 σ'
  | 0, j, σ, h, h1, h2, a, f => by omega
  | k + 1, j, σ, h, h1, h2, a, f => by
    rw [cGoing_hourPasses_b97, sI_d, h, e1]
    by_cases hj : j < c
    · have l1 : cGoing_lot n cb_100 (((cb_100 * (sI σ 27 2)) + cb_10) + nI j) σ = some (sLot S (((cb_100 * H) + cb_10) + nI j) cb_100, σ) := by
        rw [cb_100_n, c_lot (by decide) (by decide), sI_d, h, e2, e3]
      have l2 : cGoing_lot n (sI σ 1 0) (((cb_100 * (sI σ 27 2)) + cb_20) + nI j) σ = some (sLot S (((cb_100 * H) + cb_20) + nI j) (nI nb), σ) := by
        rw [sI_d, h, e5, c_lot (hB (by omega)) (by omega), sI_d, h, e2, e3]
      rw [if_neg (nI_ge hj (by omega)), l1, ob_def, sI_d]
      simp only [h, e4]
      by_cases z : sLot S (((cb_100 * H) + cb_10) + nI j) cb_100 < nI p
      · rw [if_neg (Int32.not_le.mpr z)]
        rw [l2, ob_def, bin_nI (by omega) (by decide), cGoing_hourPasses_b165, ci1_nI, nI_add]
        refine c_pil_l h4 hB hb e1 e2 e3 e4 e5 k (j + 1) _ h hj (by omega) (fun i => ?_) (frCaA f rfl)
        rw [uA_2, nI_clamp (by omega), a i]
        by_cases q : i = j
        · subst q
          rw [if_pos ⟨rfl, rfl⟩, if_pos (Nat.lt_succ_self _), pl, if_pos z]
        · rw [if_neg (fun y => q y.2)]
          by_cases y : i < j
          · rw [if_pos y, if_pos (by omega)]
          · rw [if_neg y, if_neg (by omega)]
      · rw [if_pos (Int32.not_lt.mp z), cGoing_hourPasses_b165, ci1_nI, nI_add]
        refine c_pil_l h4 hB hb e1 e2 e3 e4 e5 k (j + 1) _ h hj (by omega) (fun i => ?_) f
        rw [a i]
        by_cases q : i = j
        · subst q
          rw [if_neg (Nat.lt_irrefl _), if_pos (Nat.lt_succ_self _), pl, if_neg z]
        · by_cases y : i < j
          · rw [if_pos y, if_pos (by omega)]
          · rw [if_neg y, if_neg (by omega)]
    · have e : j = c := by omega
      subst e
      rw [if_pos (Int32.le_refl _)]
      exact ⟨σ, rfl, h, a, f⟩
theorem c_dawn_l {n c nb : Nat} {H S : Int32} {σ0 : bS} (h4 : c ≤ 4) (hB : 0 < c → 0 < nb) (hb : nb ≤ 6) (e1 : σ0.1 1 2 = nI c) (e2 : σ0.1 27 2 = H) (e3 : σ0.1 27 1 = S) (e5 : σ0.1 1 0 = nI nb) : ∀ (k j : Nat) (σ : bS), σ.1 = σ0.1 → j ≤ c → c < j + k → (∀ i, σ.2.1 28 i = if i < j then dw S H (nI nb) i else σ0.2.1 28 i) → frC (fun a => a = 28) σ0 σ → ∃ σ', cGoing_hourPasses_b41 n k (nI j) σ = cGoing_hourPasses_b84 n σ' ∧ σ'.1 = σ0.1 ∧ (∀ i, σ'.2.1 28 i = if i < c then dw S H (nI nb) i else σ0.2.1 28 i) ∧ frC (fun a => a = 28) σ0 σ'
  | 0, j, σ, h, h1, h2, a, f => by omega
  | k + 1, j, σ, h, h1, h2, a, f => by
    rw [cGoing_hourPasses_b41, sI_d, h, e1]
    by_cases hj : j < c
    · have l2 : cGoing_lot n (sI σ 1 0) ((cb_100 * (sI σ 27 2)) + nI j) σ = some (dw S H (nI nb) j, σ) := by
        rw [sI_d, h, e5, c_lot (hB (by omega)) (by omega), sI_d, h, e2, e3]
        rfl
      rw [if_neg (nI_ge hj (by omega)), l2, ob_def, bin_nI (by omega) (by decide), ci1_nI, nI_add]
      refine c_dawn_l h4 hB hb e1 e2 e3 e5 k (j + 1) _ h hj (by omega) (fun i => ?_) (frCaA f rfl)
      rw [uA_2, nI_clamp (by omega), a i]
      by_cases q : i = j
      · subst q
        rw [if_pos ⟨rfl, rfl⟩, if_pos (Nat.lt_succ_self _)]
      · rw [if_neg (fun y => q y.2)]
        by_cases y : i < j
        · rw [if_pos y, if_pos (by omega)]
        · rw [if_neg y, if_neg (by omega)]
    · have e : j = c := by omega
      subst e
      rw [if_pos (Int32.le_refl _)]
      exact ⟨σ, rfl, h, a, f⟩
theorem c_pils {n c nb p : Nat} {H S : Int32} {σ0 : bS} (hn : 20 ≤ n) (hp : p ≤ 100) (h4 : c ≤ 4) (hB : 0 < c → 0 < nb) (hb : nb ≤ 6) (e1 : σ0.1 1 2 = nI c) (e2 : σ0.1 27 2 = H) (e3 : σ0.1 27 1 = S) (e4 : σ0.1 1 16 = nI p) (e5 : σ0.1 1 0 = nI nb) : ∃ σ', cGoing_hourPasses_b84 n σ0 = some σ' ∧ σ'.1 = σ0.1 ∧ (∀ i, σ'.2.1 28 i = if i < c then pl S H (nI p) (nI nb) i (σ0.2.1 28 i) else σ0.2.1 28 i) ∧ frC (fun a => a = 28) σ0 σ' := by
  unfold cGoing_hourPasses_b84
  rw [sI_d, e4]
  by_cases z : p = 0
  · subst z
    rw [if_pos (show nI 0 = 0 from rfl)]
    refine ⟨σ0, rfl, rfl, fun i => ?_, frC.rf⟩
    rw [show nI 0 = 0 from rfl, pl_0]
    split <;> rfl
  · rw [if_neg (nI_ne0 (by omega) (by omega))]
    exact c_pil_l h4 hB hb e1 e2 e3 e4 e5 n 0 σ0 rfl (by omega) (by omega) (fun i => by simp) frC.rf
theorem c_hour {T : aT} {L : aL} {n h : Nat} {G : aG} {σ : bS} (hn : 20 ≤ n) (hI : InvT T L) (hT : CT T L σ) (hG : CG 27 G σ) (hh : h + 1 < 2 ^ 31) (hh2 : G 0 0 = nI h) : ∃ σ', cGoing_hourPasses n σ = some σ' ∧ CG 27 (sHour T G h) σ' ∧ frC (scG 27) σ σ' := by
  have hB := hI.1
  have hGG := hI.2.2.1
  have hp0 : 0 < tG T → 0 < tB T := fun y => by have := hI.2.2.2.2.1 0 y; omega
  obtain ⟨p, hp, ep⟩ := hI.2.2.2.2.2.2.2.1
  have hd := hI.2.2.2.2.2.2.1
  obtain ⟨σ1, s1⟩ : ∃ y, y = uI σ 27 2 ((sI σ 27 2) + ci_1) := ⟨_, rfl⟩
  have f1 : frC (scG 27) σ σ1 := by
    rw [s1]
    exact frC.uI (by unfold scG; omega)
  have i1 : ∀ k, σ1.1 27 k = if k = 2 then nI (h + 1) else σ.1 27 k := fun k => by
    rw [s1, uI_1, sI_d, hG.1.1, hh2, ci1_nI, nI_add]
    by_cases z : k = 2 <;> simp [z]
  have i2 : σ1.1 1 = σ.1 1 := (f1 1 (by unfold scG; omega)).1
  have a1 : σ1.2 = σ.2 := by rw [s1]; rfl
  have fin : ∀ σ2 : bS, σ2.1 = σ1.1 → frC (fun a => a = 28) σ1 σ2 → (∀ b, b < 4 → σ2.2.1 28 b = if b < tG T then (if tDawn T = nI ((h + 1) % 24) then dw (G 10 0) (nI (h + 1)) (nI (tB T)) b else G 3 b) else G 3 b) → ∃ σ', cGoing_hourPasses_b84 n σ2 = some σ' ∧ CG 27 (sHour T G h) σ' ∧ frC (scG 27) σ σ' := fun σ2 b1 b2 b3 => by
    obtain ⟨σ3, c1, c2, c3, c4⟩ := c_pils (n := n) (c := tG T) (nb := tB T) (p := p) (H := nI (h + 1)) (S := G 10 0) (σ0 := σ2) hn hp hGG hp0 hB (by rw [b1, i2]; exact hT.1.2.2.1) (by rw [b1, i1]; rfl) (by rw [b1, i1]; exact hG.1.2.2.2) (by rw [b1, i2]; exact hT.2.1.2.1.trans ep) (by rw [b1, i2]; exact hT.1.1)
    refine ⟨σ3, c1, ⟨⟨?_, ?_, ?_, ?_⟩, fun b hb => ⟨?_, ?_⟩, fun m hm => ?_⟩, f1.trans ((b2.trans c4).mono (fun a h => by unfold scG; omega))⟩
    · rw [c2, b1, i1]; rfl
    · rw [c2, b1, i1]; exact hG.1.2.1
    · rw [c2, b1, i1]; exact hG.1.2.2.1
    · rw [c2, b1, i1]; exact hG.1.2.2.2
    · rw [c3 b, b3 b hb]
      show _ = (if b < tG T then pl (G 10 0) (nI (h + 1)) (tPil T) (nI (tB T)) b _ else _)
      rw [ep]
      by_cases y : b < tG T
      · rw [if_pos y, if_pos y, if_pos y]
      · rw [if_neg y, if_neg y, if_neg y]
    · rw [(c4 29 (by decide)).2.1, (b2 29 (by decide)).2.1, a1]; exact (hG.2.1 b hb).2
    · rw [(c4 30 (by decide)).2.1, (b2 30 (by decide)).2.1, (c4 31 (by decide)).2.1, (b2 31 (by decide)).2.1, (c4 32 (by decide)).2.1, (b2 32 (by decide)).2.1, (c4 33 (by decide)).2.1, (b2 33 (by decide)).2.1, (c4 34 (by decide)).2.1, (b2 34 (by decide)).2.1, a1]; exact hG.2.2 m hm
  have d1 : sI σ1 1 15 = tDawn T := by rw [sI_d, i2]; exact hT.2.1.1
  have d2 : sI σ1 27 2 = nI (h + 1) := by rw [sI_d, i1]; rfl
  unfold cGoing_hourPasses
  rw [← s1, d1, d2]
  have no : ¬ tDawn T = nI ((h + 1) % 24) → ∃ σ', cGoing_hourPasses_b84 n σ1 = some σ' ∧ CG 27 (sHour T G h) σ' ∧ frC (scG 27) σ σ' := fun z => by
    refine fin σ1 rfl frC.rf (fun b hb => ?_)
    rw [if_neg z, a1]
    split <;> exact (hG.2.1 b hb).1
  by_cases y : tDawn T < 0
  · rw [if_pos y]
    exact no (fun z => nI_pos (n := (h + 1) % 24) (by omega) (by rw [← z]; exact y))
  · rw [if_neg y, fmod_n (by omega), ob_def]
    show ∃ σ', (if nI ((h + 1) % 24) = sI σ1 1 15 then _ else _) = _ ∧ _
    rw [d1]
    by_cases z : tDawn T = nI ((h + 1) % 24)
    · rw [if_pos z.symm]
      obtain ⟨σ2, b1, b2, b3, b4⟩ := c_dawn_l (n := n) (c := tG T) (nb := tB T) (H := nI (h + 1)) (S := G 10 0) (σ0 := σ1) hGG hp0 hB (by rw [i2]; exact hT.1.2.2.1) (by rw [i1]; rfl) (by rw [i1]; exact hG.1.2.2.2) (by rw [i2]; exact hT.1.1) n 0 σ1 rfl (by omega) (by omega) (fun i => by simp) frC.rf
      rw [show cGoing_hourPasses_b41 n n ci_0 σ1 = _ from b1]
      refine fin σ2 b2 b4 (fun b hb => ?_)
      rw [if_pos z, b3 b, a1, (hG.2.1 b hb).1]
    · rw [if_neg (fun q => z q.symm)]
      exact no z
theorem c_lot_d {n c : Nat} {x2 : Int32} {σ : bS} (h0 : 0 < c) (hc : c < 2 ^ 31) : cGoing_lot_d n (nI c) x2 σ = some (sLot (σ.1 35 1) x2 (nI c), σ) := by
  unfold cGoing_lot_d cGoing_stirred
  rw [ob_def, ob_def, if_neg (show ¬ nI c ≤ 0 from nI_ge (a := 0) h0 hc), if_neg (nI_ne0 h0 hc)]
  rfl
theorem c_pil_d_l {n c nb p : Nat} {H S : Int32} {σ0 : bS} (h4 : c ≤ 4) (hB : 0 < c → 0 < nb) (hb : nb ≤ 6) (e1 : σ0.1 1 2 = nI c) (e2 : σ0.1 35 2 = H) (e3 : σ0.1 35 1 = S) (e4 : σ0.1 1 16 = nI p) (e5 : σ0.1 1 0 = nI nb) : ∀ (k j : Nat) (σ : bS), σ.1 = σ0.1 → j ≤ c → c < j + k → (∀ i, σ.2.1 36 i = if i < j then pl S H (nI p) (nI nb) i (σ0.2.1 36 i) else σ0.2.1 36 i) → frC (fun a => a = 36) σ0 σ → ∃ σ', cGoing_hourPasses_d_b97 n k (nI j) σ = some σ' ∧ σ'.1 = σ0.1 ∧ (∀ i, σ'.2.1 36 i = if i < c then pl S H (nI p) (nI nb) i (σ0.2.1 36 i) else σ0.2.1 36 i) ∧ frC (fun a => a = 36) σ0 σ'
  | 0, j, σ, h, h1, h2, a, f => by omega
  | k + 1, j, σ, h, h1, h2, a, f => by
    rw [cGoing_hourPasses_d_b97, sI_d, h, e1]
    by_cases hj : j < c
    · have l1 : cGoing_lot_d n cb_100 (((cb_100 * (sI σ 35 2)) + cb_10) + nI j) σ = some (sLot S (((cb_100 * H) + cb_10) + nI j) cb_100, σ) := by
        rw [cb_100_n, c_lot_d (by decide) (by decide), sI_d, h, e2, e3]
      have l2 : cGoing_lot_d n (sI σ 1 0) (((cb_100 * (sI σ 35 2)) + cb_20) + nI j) σ = some (sLot S (((cb_100 * H) + cb_20) + nI j) (nI nb), σ) := by
        rw [sI_d, h, e5, c_lot_d (hB (by omega)) (by omega), sI_d, h, e2, e3]
      rw [if_neg (nI_ge hj (by omega)), l1, ob_def, sI_d]
      simp only [h, e4]
      by_cases z : sLot S (((cb_100 * H) + cb_10) + nI j) cb_100 < nI p
      · rw [if_neg (Int32.not_le.mpr z)]
        rw [l2, ob_def, bin_nI (by omega) (by decide), cGoing_hourPasses_d_b165, ci1_nI, nI_add]
        refine c_pil_d_l h4 hB hb e1 e2 e3 e4 e5 k (j + 1) _ h hj (by omega) (fun i => ?_) (frCaA f rfl)
        rw [uA_2, nI_clamp (by omega), a i]
        by_cases q : i = j
        · subst q
          rw [if_pos ⟨rfl, rfl⟩, if_pos (Nat.lt_succ_self _), pl, if_pos z]
        · rw [if_neg (fun y => q y.2)]
          by_cases y : i < j
          · rw [if_pos y, if_pos (by omega)]
          · rw [if_neg y, if_neg (by omega)]
      · rw [if_pos (Int32.not_lt.mp z), cGoing_hourPasses_d_b165, ci1_nI, nI_add]
        refine c_pil_d_l h4 hB hb e1 e2 e3 e4 e5 k (j + 1) _ h hj (by omega) (fun i => ?_) f
        rw [a i]
        by_cases q : i = j
        · subst q
          rw [if_neg (Nat.lt_irrefl _), if_pos (Nat.lt_succ_self _), pl, if_neg z]
        · by_cases y : i < j
          · rw [if_pos y, if_pos (by omega)]
          · rw [if_neg y, if_neg (by omega)]
    · have e : j = c := by omega
      subst e
      rw [if_pos (Int32.le_refl _)]
      exact ⟨σ, rfl, h, a, f⟩
theorem c_dawn_d_l {n c nb : Nat} {H S : Int32} {σ0 : bS} (h4 : c ≤ 4) (hB : 0 < c → 0 < nb) (hb : nb ≤ 6) (e1 : σ0.1 1 2 = nI c) (e2 : σ0.1 35 2 = H) (e3 : σ0.1 35 1 = S) (e5 : σ0.1 1 0 = nI nb) : ∀ (k j : Nat) (σ : bS), σ.1 = σ0.1 → j ≤ c → c < j + k → (∀ i, σ.2.1 36 i = if i < j then dw S H (nI nb) i else σ0.2.1 36 i) → frC (fun a => a = 36) σ0 σ → ∃ σ', cGoing_hourPasses_d_b41 n k (nI j) σ = cGoing_hourPasses_d_b84 n σ' ∧ σ'.1 = σ0.1 ∧ (∀ i, σ'.2.1 36 i = if i < c then dw S H (nI nb) i else σ0.2.1 36 i) ∧ frC (fun a => a = 36) σ0 σ'
  | 0, j, σ, h, h1, h2, a, f => by omega
  | k + 1, j, σ, h, h1, h2, a, f => by
    rw [cGoing_hourPasses_d_b41, sI_d, h, e1]
    by_cases hj : j < c
    · have l2 : cGoing_lot_d n (sI σ 1 0) ((cb_100 * (sI σ 35 2)) + nI j) σ = some (dw S H (nI nb) j, σ) := by
        rw [sI_d, h, e5, c_lot_d (hB (by omega)) (by omega), sI_d, h, e2, e3]
        rfl
      rw [if_neg (nI_ge hj (by omega)), l2, ob_def, bin_nI (by omega) (by decide), ci1_nI, nI_add]
      refine c_dawn_d_l h4 hB hb e1 e2 e3 e5 k (j + 1) _ h hj (by omega) (fun i => ?_) (frCaA f rfl)
      rw [uA_2, nI_clamp (by omega), a i]
      by_cases q : i = j
      · subst q
        rw [if_pos ⟨rfl, rfl⟩, if_pos (Nat.lt_succ_self _)]
      · rw [if_neg (fun y => q y.2)]
        by_cases y : i < j
        · rw [if_pos y, if_pos (by omega)]
        · rw [if_neg y, if_neg (by omega)]
    · have e : j = c := by omega
      subst e
      rw [if_pos (Int32.le_refl _)]
      exact ⟨σ, rfl, h, a, f⟩
theorem c_pils_d {n c nb p : Nat} {H S : Int32} {σ0 : bS} (hn : 20 ≤ n) (hp : p ≤ 100) (h4 : c ≤ 4) (hB : 0 < c → 0 < nb) (hb : nb ≤ 6) (e1 : σ0.1 1 2 = nI c) (e2 : σ0.1 35 2 = H) (e3 : σ0.1 35 1 = S) (e4 : σ0.1 1 16 = nI p) (e5 : σ0.1 1 0 = nI nb) : ∃ σ', cGoing_hourPasses_d_b84 n σ0 = some σ' ∧ σ'.1 = σ0.1 ∧ (∀ i, σ'.2.1 36 i = if i < c then pl S H (nI p) (nI nb) i (σ0.2.1 36 i) else σ0.2.1 36 i) ∧ frC (fun a => a = 36) σ0 σ' := by
  unfold cGoing_hourPasses_d_b84
  rw [sI_d, e4]
  by_cases z : p = 0
  · subst z
    rw [if_pos (show nI 0 = 0 from rfl)]
    refine ⟨σ0, rfl, rfl, fun i => ?_, frC.rf⟩
    rw [show nI 0 = 0 from rfl, pl_0]
    split <;> rfl
  · rw [if_neg (nI_ne0 (by omega) (by omega))]
    exact c_pil_d_l h4 hB hb e1 e2 e3 e4 e5 n 0 σ0 rfl (by omega) (by omega) (fun i => by simp) frC.rf
theorem c_hour_d {T : aT} {L : aL} {n h : Nat} {G : aG} {σ : bS} (hn : 20 ≤ n) (hI : InvT T L) (hT : CT T L σ) (hG : CG 35 G σ) (hh : h + 1 < 2 ^ 31) (hh2 : G 0 0 = nI h) : ∃ σ', cGoing_hourPasses_d n σ = some σ' ∧ CG 35 (sHour T G h) σ' ∧ frC (scG 35) σ σ' := by
  have hB := hI.1
  have hGG := hI.2.2.1
  have hp0 : 0 < tG T → 0 < tB T := fun y => by have := hI.2.2.2.2.1 0 y; omega
  obtain ⟨p, hp, ep⟩ := hI.2.2.2.2.2.2.2.1
  have hd := hI.2.2.2.2.2.2.1
  obtain ⟨σ1, s1⟩ : ∃ y, y = uI σ 35 2 ((sI σ 35 2) + ci_1) := ⟨_, rfl⟩
  have f1 : frC (scG 35) σ σ1 := by
    rw [s1]
    exact frC.uI (by unfold scG; omega)
  have i1 : ∀ k, σ1.1 35 k = if k = 2 then nI (h + 1) else σ.1 35 k := fun k => by
    rw [s1, uI_1, sI_d, hG.1.1, hh2, ci1_nI, nI_add]
    by_cases z : k = 2 <;> simp [z]
  have i2 : σ1.1 1 = σ.1 1 := (f1 1 (by unfold scG; omega)).1
  have a1 : σ1.2 = σ.2 := by rw [s1]; rfl
  have fin : ∀ σ2 : bS, σ2.1 = σ1.1 → frC (fun a => a = 36) σ1 σ2 → (∀ b, b < 4 → σ2.2.1 36 b = if b < tG T then (if tDawn T = nI ((h + 1) % 24) then dw (G 10 0) (nI (h + 1)) (nI (tB T)) b else G 3 b) else G 3 b) → ∃ σ', cGoing_hourPasses_d_b84 n σ2 = some σ' ∧ CG 35 (sHour T G h) σ' ∧ frC (scG 35) σ σ' := fun σ2 b1 b2 b3 => by
    obtain ⟨σ3, c1, c2, c3, c4⟩ := c_pils_d (n := n) (c := tG T) (nb := tB T) (p := p) (H := nI (h + 1)) (S := G 10 0) (σ0 := σ2) hn hp hGG hp0 hB (by rw [b1, i2]; exact hT.1.2.2.1) (by rw [b1, i1]; rfl) (by rw [b1, i1]; exact hG.1.2.2.2) (by rw [b1, i2]; exact hT.2.1.2.1.trans ep) (by rw [b1, i2]; exact hT.1.1)
    refine ⟨σ3, c1, ⟨⟨?_, ?_, ?_, ?_⟩, fun b hb => ⟨?_, ?_⟩, fun m hm => ?_⟩, f1.trans ((b2.trans c4).mono (fun a h => by unfold scG; omega))⟩
    · rw [c2, b1, i1]; rfl
    · rw [c2, b1, i1]; exact hG.1.2.1
    · rw [c2, b1, i1]; exact hG.1.2.2.1
    · rw [c2, b1, i1]; exact hG.1.2.2.2
    · rw [c3 b, b3 b hb]
      show _ = (if b < tG T then pl (G 10 0) (nI (h + 1)) (tPil T) (nI (tB T)) b _ else _)
      rw [ep]
      by_cases y : b < tG T
      · rw [if_pos y, if_pos y, if_pos y]
      · rw [if_neg y, if_neg y, if_neg y]
    · rw [(c4 37 (by decide)).2.1, (b2 37 (by decide)).2.1, a1]; exact (hG.2.1 b hb).2
    · rw [(c4 38 (by decide)).2.1, (b2 38 (by decide)).2.1, (c4 39 (by decide)).2.1, (b2 39 (by decide)).2.1, (c4 40 (by decide)).2.1, (b2 40 (by decide)).2.1, (c4 41 (by decide)).2.1, (b2 41 (by decide)).2.1, (c4 42 (by decide)).2.1, (b2 42 (by decide)).2.1, a1]; exact hG.2.2 m hm
  have d1 : sI σ1 1 15 = tDawn T := by rw [sI_d, i2]; exact hT.2.1.1
  have d2 : sI σ1 35 2 = nI (h + 1) := by rw [sI_d, i1]; rfl
  unfold cGoing_hourPasses_d
  rw [← s1, d1, d2]
  have no : ¬ tDawn T = nI ((h + 1) % 24) → ∃ σ', cGoing_hourPasses_d_b84 n σ1 = some σ' ∧ CG 35 (sHour T G h) σ' ∧ frC (scG 35) σ σ' := fun z => by
    refine fin σ1 rfl frC.rf (fun b hb => ?_)
    rw [if_neg z, a1]
    split <;> exact (hG.2.1 b hb).1
  by_cases y : tDawn T < 0
  · rw [if_pos y]
    exact no (fun z => nI_pos (n := (h + 1) % 24) (by omega) (by rw [← z]; exact y))
  · rw [if_neg y, fmod_n (by omega), ob_def]
    show ∃ σ', (if nI ((h + 1) % 24) = sI σ1 1 15 then _ else _) = _ ∧ _
    rw [d1]
    by_cases z : tDawn T = nI ((h + 1) % 24)
    · rw [if_pos z.symm]
      obtain ⟨σ2, b1, b2, b3, b4⟩ := c_dawn_d_l (n := n) (c := tG T) (nb := tB T) (H := nI (h + 1)) (S := G 10 0) (σ0 := σ1) hGG hp0 hB (by rw [i2]; exact hT.1.2.2.1) (by rw [i1]; rfl) (by rw [i1]; exact hG.1.2.2.2) (by rw [i2]; exact hT.1.1) n 0 σ1 rfl (by omega) (by omega) (fun i => by simp) frC.rf
      rw [show cGoing_hourPasses_d_b41 n n ci_0 σ1 = _ from b1]
      refine fin σ2 b2 b4 (fun b hb => ?_)
      rw [if_pos z, b3 b, a1, (hG.2.1 b hb).1]
    · rw [if_neg (fun q => z q.symm)]
      exact no z
theorem m_pil_l {n c nb p w : Nat} {H S : Int32} {σ0 : bS} (hw2 : w ≤ 2000) (h4 : c ≤ 4) (hB : 0 < c → 0 < nb) (hb : nb ≤ 6) (hw : σ0.1 0 40 = nI w) (e1 : σ0.2.1 17 0 = nI c) (e3 : σ0.2.1 29 (w + 46) = S) (e4 : σ0.2.1 24 1 = nI p) (e5 : σ0.2.1 12 0 = nI nb) : ∀ (k j : Nat) (σ : bS), frR w σ0 σ → j ≤ c → c < j + k → (∀ i, σ.2.1 29 i = if w + 1 ≤ i ∧ i < w + 1 + j then pl S H (nI p) (nI nb) (i - (w + 1)) (σ0.2.1 29 i) else σ0.2.1 29 i) → ∃ σ', m_hourGoes_b94 n k H (nI j) σ = some σ' ∧ frR w σ0 σ' ∧ (∀ i, σ'.2.1 29 i = if w + 1 ≤ i ∧ i < w + 1 + c then pl S H (nI p) (nI nb) (i - (w + 1)) (σ0.2.1 29 i) else σ0.2.1 29 i)
  | 0, j, σ, h, h1, h2, a => by omega
  | k + 1, j, σ, h, h1, h2, a => by
    have g1 : σ.2.1 17 0 = nI c := (congrFun (h.2.1 17 (by decide)) 0).trans e1
    have g4 : σ.2.1 24 1 = nI p := (congrFun (h.2.1 24 (by decide)) 1).trans e4
    have g5 : σ.2.1 12 0 = nI nb := (congrFun (h.2.1 12 (by decide)) 0).trans e5
    have gw : σ.1 0 40 = nI w := (h.1 40 (by decide)).trans hw
    have g3 : σ.2.1 29 (w + 46) = S := by rw [a, if_neg (by omega)]; exact e3
    rw [m_hourGoes_b94, bin_c0 (by decide) (by decide), sA_c0, g1]
    by_cases hj : j < c
    · have l1 : m_lot n (((cb_100 * H) + cb_10) + nI j) cb_100 σ = some (sLot S (((cb_100 * H) + cb_10) + nI j) cb_100, σ) := by
        rw [← g3]
        exact cb_100_n ▸ m_lot_eq gw hw2 (by decide) (by decide)
      have l2 : m_lot n (((cb_100 * H) + cb_20) + nI j) (nI nb) σ = some (sLot S (((cb_100 * H) + cb_20) + nI j) (nI nb), σ) := by
        rw [← g3]
        exact m_lot_eq gw hw2 (hB (by omega)) (by omega)
      have e24 : sA σ 24 ci_1 = nI p := (sA_n σ 24 (j := 1) (by decide)).trans g4
      rw [if_neg (nI_ge hj (by omega)), l1, ob_def, ci1_nI, bin_nI (by decide) (by decide), ← ci1_nI]
      show ∃ σ', (if sA σ 24 ci_1 ≤ sLot S (((cb_100 * H) + cb_10) + nI j) cb_100 then m_hourGoes_b160 n (m_hourGoes_b94 n k) H (nI j) σ else bin_ ci_0 2 (ob (m_lot n (((cb_100 * H) + cb_20) + nI j) (sA σ 12 ci_0) σ) _)) = _ ∧ _
      rw [e24]
      by_cases z : sLot S (((cb_100 * H) + cb_10) + nI j) cb_100 < nI p
      · rw [if_neg (Int32.not_le.mpr z), bin_c0 (by decide) (by decide), sA_c0, g5, l2, ob_def, sI_d, gw, ci1_nI, nI_add, nI_add, bin_nI (by omega) (by decide), m_hourGoes_b160, ci1_nI, nI_add]
        refine m_pil_l hw2 h4 hB hb hw e1 e3 e4 e5 k (j + 1) _ (frRa h (by omega) (by omega) (by omega)) hj (by omega) (fun i => ?_)
        rw [uA_2, nI_clamp (by omega), a i]
        by_cases q : i = w + 1 + j
        · subst q
          rw [if_pos ⟨rfl, rfl⟩, if_pos (by omega), pl, show w + 1 + j - (w + 1) = j by omega, if_pos z]
        · rw [if_neg (fun y => q y.2)]
          by_cases y : w + 1 ≤ i ∧ i < w + 1 + j
          · rw [if_pos y, if_pos (by omega)]
          · rw [if_neg y, if_neg (by omega)]
      · rw [if_pos (Int32.not_lt.mp z), m_hourGoes_b160, ci1_nI, nI_add]
        refine m_pil_l hw2 h4 hB hb hw e1 e3 e4 e5 k (j + 1) _ h hj (by omega) (fun i => ?_)
        rw [a i]
        by_cases q : i = w + 1 + j
        · subst q
          rw [if_neg (by omega), if_pos (by omega), pl, show w + 1 + j - (w + 1) = j by omega, if_neg z]
        · by_cases y : w + 1 ≤ i ∧ i < w + 1 + j
          · rw [if_pos y, if_pos (by omega)]
          · rw [if_neg y, if_neg (by omega)]
    · have e : j = c := by omega
      subst e
      rw [if_pos (Int32.le_refl _)]
      exact ⟨σ, rfl, h, a⟩
theorem m_dawn_l {n c nb w : Nat} {H S : Int32} {σ0 : bS} (hw2 : w ≤ 2000) (h4 : c ≤ 4) (hB : 0 < c → 0 < nb) (hb : nb ≤ 6) (hw : σ0.1 0 40 = nI w) (e1 : σ0.2.1 17 0 = nI c) (e3 : σ0.2.1 29 (w + 46) = S) (e5 : σ0.2.1 12 0 = nI nb) : ∀ (k j : Nat) (σ : bS), frR w σ0 σ → j ≤ c → c < j + k → (∀ i, σ.2.1 29 i = if w + 1 ≤ i ∧ i < w + 1 + j then dw S H (nI nb) (i - (w + 1)) else σ0.2.1 29 i) → ∃ σ', m_hourGoes_b47 n k H (nI j) σ = m_hourGoes_b92 n H σ' ∧ frR w σ0 σ' ∧ (∀ i, σ'.2.1 29 i = if w + 1 ≤ i ∧ i < w + 1 + c then dw S H (nI nb) (i - (w + 1)) else σ0.2.1 29 i)
  | 0, j, σ, h, h1, h2, a => by omega
  | k + 1, j, σ, h, h1, h2, a => by
    have g1 : σ.2.1 17 0 = nI c := (congrFun (h.2.1 17 (by decide)) 0).trans e1
    have g5 : σ.2.1 12 0 = nI nb := (congrFun (h.2.1 12 (by decide)) 0).trans e5
    have gw : σ.1 0 40 = nI w := (h.1 40 (by decide)).trans hw
    have g3 : σ.2.1 29 (w + 46) = S := by rw [a, if_neg (by omega)]; exact e3
    rw [m_hourGoes_b47, bin_c0 (by decide) (by decide), sA_c0, g1]
    by_cases hj : j < c
    · have l2 : m_lot n ((cb_100 * H) + nI j) (nI nb) σ = some (dw S H (nI nb) j, σ) := by
        rw [← g3]
        exact m_lot_eq gw hw2 (hB (by omega)) (by omega)
      rw [if_neg (nI_ge hj (by omega)), bin_c0 (by decide) (by decide), sA_c0, g5, l2, ob_def, sI_d, gw, ci1_nI, nI_add, nI_add, bin_nI (by omega) (by decide), nI_add]
      refine m_dawn_l hw2 h4 hB hb hw e1 e3 e5 k (j + 1) _ (frRa h (by omega) (by omega) (by omega)) hj (by omega) (fun i => ?_)
      rw [uA_2, nI_clamp (by omega), a i]
      by_cases q : i = w + 1 + j
      · subst q
        rw [if_pos ⟨rfl, rfl⟩, if_pos (by omega), show w + 1 + j - (w + 1) = j by omega]
      · rw [if_neg (fun y => q y.2)]
        by_cases y : w + 1 ≤ i ∧ i < w + 1 + j
        · rw [if_pos y, if_pos (by omega)]
        · rw [if_neg y, if_neg (by omega)]
    · have e : j = c := by omega
      subst e
      rw [if_pos (Int32.le_refl _)]
      exact ⟨σ, rfl, h, a⟩
theorem sLot_md {s x : Int32} {n : Nat} (h0 : 0 < n) (hn : n ≤ 6) : md (sLot s x (nI n)) = sLot s x (nI n) := by
  obtain ⟨q, hq, e⟩ := sLot_in s x h0 (by omega)
  rw [e, md_n (by omega)]
theorem m_hour {T : aT} {L : aL} {n h w : Nat} {G : aG} {σ : bS} (hn : 20 ≤ n) (hI : InvT T L) (hT : MTx T L σ) (hG : MG T w G σ) (hw : σ.1 0 40 = nI w) (hw2 : w ≤ 2000) (hh : h + 1 < 2 ^ 31) (hh2 : G 0 0 = nI h) : ∃ σ', m_hourGoes n σ = some σ' ∧ MG T w (sHour T G h) σ' ∧ frR w σ σ' := by
  have hB := hI.1
  have hGG := hI.2.2.1
  have hMM := hI.2.2.2.1
  have hp0 : 0 < tG T → 0 < tB T := fun y => by have := hI.2.2.2.2.1 0 y; omega
  obtain ⟨p, hp, ep⟩ := hI.2.2.2.2.2.2.2.1
  have hd := hI.2.2.2.2.2.2.1
  have w0 : sI σ 0 40 = nI w := hw
  have r0 : sA σ 29 (nI w) = nI h := (sA_n _ _ (by omega)).trans (hG.1.1.trans hh2)
  obtain ⟨σ1, s1⟩ : ∃ y, y = uA σ 29 (nI w) (nI (h + 1)) := ⟨_, rfl⟩
  have f1 : frR w σ σ1 := by
    rw [s1]
    exact frRa frR.rf (by omega) (by omega) (by omega)
  have i1 : ∀ k, σ1.2.1 29 k = if k = w then nI (h + 1) else σ.2.1 29 k := fun k => by
    rw [s1, uA_2, nI_clamp (by omega)]
    by_cases z : k = w <;> simp [z]
  have hT1 := hT.go f1
  have w1 : sI σ1 0 40 = nI w := (f1.1 40 (by decide)).trans hw
  have fin : ∀ σ2 : bS, frR w σ1 σ2 → (∀ b, b < tG T → σ2.2.1 29 (w + 1 + b) = md (if tDawn T = nI ((h + 1) % 24) then dw (G 10 0) (nI (h + 1)) (nI (tB T)) b else G 3 b)) → (∀ i, (i < w + 1 ∨ w + 5 ≤ i) → σ2.2.1 29 i = σ1.2.1 29 i) → ∃ σ', m_hourGoes_b92 n (nI (h + 1)) σ2 = some σ' ∧ MG T w (sHour T G h) σ' ∧ frR w σ σ' := fun σ2 b2 b3 b4 => by
    have hT2 := hT1.go b2
    obtain ⟨σ3, c1, c2, c3⟩ := m_pil_l (n := n) (c := tG T) (nb := tB T) (p := p) (w := w) (H := nI (h + 1)) (S := G 10 0) (σ0 := σ2) hw2 hGG hp0 hB ((b2.1 40 (by decide)).trans w1) hT2.1.2.2.1 (by rw [b4 _ (by omega), i1, if_neg (by omega)]; exact hG.1.2.2.2) (hT2.2.1.2.1.trans ep) hT2.1.1 n 0 σ2 frR.rf (by omega) (by omega) (fun i => by rw [if_neg (by omega)])
    have rd : ∀ i, (i < w + 1 ∨ w + 5 ≤ i) → ¬ i = w → σ3.2.1 29 i = σ.2.1 29 i := fun i hi h2 => by
      rw [c3, if_neg (by omega), b4 i hi, i1, if_neg h2]
    refine ⟨σ3, c1, ⟨⟨?_, ?_, ?_, ?_⟩, fun b hb => ⟨?_, ?_⟩, fun m hm => ⟨?_, ?_, ?_, ?_, ?_⟩⟩, (f1.trans b2).trans c2⟩
    · rw [c3, if_neg (by omega), b4 w (by omega), i1, if_pos rfl]; rfl
    · rw [rd _ (by omega) (by omega)]; exact hG.1.2.1
    · rw [rd _ (by omega) (by omega)]; exact hG.1.2.2.1
    · rw [rd _ (by omega) (by omega)]; exact hG.1.2.2.2
    · rw [c3, if_pos (by omega), b3 b hb, show w + 1 + b - (w + 1) = b by omega]
      show _ = md (if b < tG T then pl (G 10 0) (nI (h + 1)) (tPil T) (nI (tB T)) b _ else _)
      rw [ep, if_pos hb]
      unfold pl
      split
      · rw [sLot_md (hp0 (by omega)) hB]
      · rfl
    · rw [rd _ (by omega) (by omega)]; exact (hG.2.1 b hb).2
    · rw [rd _ (by omega) (by omega)]; exact (hG.2.2 m hm).1
    · rw [rd _ (by omega) (by omega)]; exact (hG.2.2 m hm).2.1
    · rw [rd _ (by omega) (by omega)]; exact (hG.2.2 m hm).2.2.1
    · rw [rd _ (by omega) (by omega)]; exact (hG.2.2 m hm).2.2.2.1
    · rw [rd _ (by omega) (by omega)]; exact (hG.2.2 m hm).2.2.2.2
  have d1 : sA σ1 24 ci_0 = md (tDawn T) := (sA_c0 _ _).trans hT1.2.1.1
  have d2 : sA σ1 29 (nI w) = nI (h + 1) := by rw [sA_n _ _ (by omega), i1, if_pos rfl]
  unfold m_hourGoes
  rw [w0, r0, ci1_nI, nI_add, ← s1, w1, d1, d2, bin_nI (by omega) (by decide), bin_nI (by omega) (by decide), bin_nI (by omega) (by decide), bin_c0 (by decide) (by decide), if_neg (show ¬ cb_24 = 0 by decide), bin_c0 (by decide) (by decide), cb_24_n, brem_n (by omega) (by decide) (by decide)]
  have no : ¬ tDawn T = nI ((h + 1) % 24) → ∃ σ', m_hourGoes_b92 n (nI (h + 1)) σ1 = some σ' ∧ MG T w (sHour T G h) σ' ∧ frR w σ σ' := fun z => by
    refine fin σ1 frR.rf (fun b hb => ?_) (fun _ _ => rfl)
    rw [if_neg z, i1, if_neg (by omega)]
    exact (hG.2.1 b hb).1
  by_cases y : tDawn T < 0
  · rw [if_pos (md_lt.mpr y)]
    exact no (fun z => nI_pos (n := (h + 1) % 24) (by omega) (by rw [← z]; exact y))
  · rw [if_neg (fun q => y (md_lt.mp q))]
    rcases hd with z0 | ⟨d, hd1, hd2⟩
    · exact absurd (by rw [z0]; decide) y
    · have em : md (tDawn T) = tDawn T := by rw [hd2, md_n (by omega)]
      rw [em]
      by_cases z : tDawn T = nI ((h + 1) % 24)
      · rw [if_pos z.symm]
        obtain ⟨σ2, b1, b2, b3⟩ := m_dawn_l (n := n) (c := tG T) (nb := tB T) (w := w) (H := nI (h + 1)) (S := G 10 0) (σ0 := σ1) hw2 hGG hp0 hB w1 hT1.1.2.2.1 (by rw [i1, if_neg (by omega)]; exact hG.1.2.2.2) hT1.1.1 n 0 σ1 frR.rf (by omega) (by omega) (fun i => by rw [if_neg (by omega)])
        rw [show m_hourGoes_b47 n n (nI (h + 1)) ci_0 σ1 = _ from b1]
        refine fin σ2 b2 (fun b hb => ?_) (fun i hi => ?_)
        · rw [if_pos z, b3, if_pos (by omega), show w + 1 + b - (w + 1) = b by omega, dw, sLot_md (hp0 (by omega)) hB]
        · rw [b3, if_neg (by omega)]
      · rw [if_neg (fun q => z q.symm)]
        exact no z
