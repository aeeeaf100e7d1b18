/-! PRICES: the class -/
theorem c_fancy {T : aT} {L : aL} {n m h bk t : Nat} {G : aG} {σ : bS} (hn : 500 ≤ n) (hI : InvT T L) (hT : CT T L σ) (hG : CG 27 G σ) (hm : m < tM T) (hh : h + t < 2 ^ 31) : ∃ σ', cGoing_fancyAs n (nI m) (nI bk) (nI (h + t)) σ = some (fan T L G h m bk t, σ') ∧ frC sc12 σ σ' := by
  have hl := hT.2.2.2.2.2.2.2.2.2
  have e14 : sI σ 1 14 = σ.1 1 14 := rfl
  unfold cGoing_fancyAs fan
  cases hL : L 13 with
  | none =>
    rw [hL] at hl
    have hl : σ.1 1 14 = -1 := hl
    rw [e14, hl, if_neg (by decide)]
    exact ⟨σ, rfl, frC.rf⟩
  | some f =>
    rw [hL] at hl
    obtain ⟨σ1, a1, a2, a3⟩ := c_look (n := n) (la := nI bk) (h := h + t) hI hT hG hm hh
    obtain ⟨σ3, b1, b2⟩ := hl.2 n σ1 hn (a3 11 (by decide)).2.1 (by rw [(a3 10 (by decide)).1])
    rw [hI.2.2.2.2.2.2.2.2.2.2 13 f hL _ _ a2] at b1
    have e3 : sI σ1 1 14 = σ.1 1 14 := by rw [sI_d, (a3 1 (by decide)).1]
    refine ⟨σ3, ?_, (a3.mono (fun a h => Or.inr h)).trans (b2.mono (fun a h => Or.inl h))⟩
    rw [e14, if_pos hl.1, a1, ob_def, e3, b1, ob_def, held_eq (by decide), ob_def]
theorem fB0 (s m : Nat) : fB s 0 false m = s.testBit m := by
  unfold fB
  rw [Nat.zero_testBit]
  cases s.testBit m <;> rfl
theorem rowL0 (s : Nat) : rowL 7 s 0 = fL s 0 false 7 := by
  have e : ∀ j, fL s 0 true j = [] := fun j => by
    unfold fL
    rw [List.filter_eq_nil_iff]
    intro m _
    unfold fB
    rw [Nat.zero_testBit]
    cases s.testBit m <;> decide
  unfold rowL
  rw [e, List.append_nil]
def RowC (l : List Nat) (σ : bS) : Prop := σ.1 71 5 = nI l.length ∧ ∀ q, q < l.length → σ.2.1 74 q = nI (l.getD q 0)
abbrev sc71 : Nat → Prop := fun a => a = 71 ∨ a = 74
theorem c_line_l {n s : Nat} (hs : s < 128) : ∀ (k j : Nat) (σ : bS), RowC (fL s 0 false j) σ → j ≤ 7 → 7 < j + k → ∃ σ', cMarket_lineUp_b7 n k (nI s) (nI j) σ = some σ' ∧ RowC (fL s 0 false 7) σ' ∧ frC sc71 σ σ'
  | 0, j, σ, hr, h1, h2 => by omega
  | k + 1, j, σ, hr, h1, h2 => by
    rw [cMarket_lineUp_b7, cb7_nI]
    by_cases hj : j < 7
    · have e5 : sI σ 71 5 = nI (fL s 0 false j).length := hr.1
      rw [if_neg (nI_ge hj (by omega))]
      by_cases e : s.testBit j = true
      · have hl := fL_len s 0 j
        rw [if_pos ((bit_is (by omega) hj).mpr e)]
        simp only [sI_uA, e5]
        rw [bin_nI (by omega) (by decide), cMarket_lineUp_b42, ci1_nI, nI_add, nI_add]
        have f1 : frC sc71 σ (uI (uA σ 74 (nI (fL s 0 false j).length) (nI j)) 71 5 (nI ((fL s 0 false j).length + 1))) := frCaI (frCaA frC.rf (Or.inr rfl)) (Or.inl rfl)
        obtain ⟨σ2, c1, c2, c3⟩ := c_line_l (n := n) hs k (j + 1) (uI (uA σ 74 (nI (fL s 0 false j).length) (nI j)) 71 5 (nI ((fL s 0 false j).length + 1))) (by
          rw [fL_S, fB0, if_pos e]
          refine ⟨?_, fun q hq => ?_⟩
          · rw [uI_1, if_pos ⟨rfl, rfl⟩, List.length_append]
            rfl
          · rw [List.length_append] at hq
            have hq2 : q < (fL s 0 false j).length + 1 := hq
            show (uA σ 74 (nI (fL s 0 false j).length) (nI j)).2.1 74 q = _
            rw [uA_2, nI_clamp (by omega)]
            by_cases z : q = (fL s 0 false j).length
            · subst z
              rw [if_pos ⟨rfl, rfl⟩]
              simp [List.getD]
            · rw [if_neg (fun u => z u.2), getD_pre (by omega)]
              exact hr.2 q (by omega)) hj (by omega)
        exact ⟨σ2, c1, c2, f1.trans c3⟩
      · rw [if_neg (fun z => e ((bit_is (by omega) hj).mp z)), cMarket_lineUp_b42, ci1_nI, nI_add]
        exact c_line_l hs k (j + 1) σ (by
          rw [fL_S, fB0, if_neg e, List.append_nil]
          exact hr) hj (by omega)
    · have e : j = 7 := by omega
      subst e
      rw [if_pos (Int32.le_refl _)]
      exact ⟨σ, rfl, hr, frC.rf⟩
/-- the row stands, its homes, and that each is in bounds -/
theorem c_need_l {T : aT} {L : aL} {n c : Nat} {R : Nat → Nat} (hM : tM T ≤ 7) (hc : c ≤ 7) (hR : ∀ q, q < c → R q < tM T) : ∀ (k j : Nat) (σ : bS), CT T L σ → σ.1 71 5 = nI c → (∀ q, q < c → σ.2.1 74 q = nI (R q)) → (∀ q, q < j → σ.2.1 73 q = if q + 1 < c then nI (tHome T (R (q + 1))) else -1) → j ≤ c → c < j + k → ∃ σ', cMarket_findNeeds_b61 n k (nI j) σ = some (1, σ') ∧ (∀ q, q < c → σ'.2.1 73 q = if q + 1 < c then nI (tHome T (R (q + 1))) else -1) ∧ frC (fun a => a = 73) σ σ'
  | 0, j, σ, hT, h5, h74, a, h1, h2 => by omega
  | k + 1, j, σ, hT, h5, h74, a, h1, h2 => by
    have e5 : sI σ 71 5 = nI c := h5
    rw [cMarket_findNeeds_b61, e5]
    by_cases hj : j < c
    · rw [if_neg (nI_ge hj (by omega)), ci1_nI, nI_add]
      have go : ∀ v, v = (if j + 1 < c then nI (tHome T (R (j + 1))) else -1) → ∃ σ', cMarket_findNeeds_b98 n (cMarket_findNeeds_b61 n k) (nI j) (nI j) v σ = some (1, σ') ∧ (∀ q, q < c → σ'.2.1 73 q = if q + 1 < c then nI (tHome T (R (q + 1))) else -1) ∧ frC (fun a => a = 73) σ σ' := fun v hv => by
        have f1 : frC (fun a => a = 73) σ (uA σ 73 (nI j) v) := frC.uA rfl
        obtain ⟨σ2, c1, c2, c3⟩ := c_need_l (n := n) hM hc hR k (j + 1) (uA σ 73 (nI j) v) (hT.fr f1 (fun a x y => by omega)) h5 (fun q hq => by rw [uA_o _ _ _ _ (by decide)]; exact h74 q hq) (fun q hq => by
          rw [uA_2, nI_clamp (by omega)]
          by_cases z : q = j
          · subst z
            rw [if_pos ⟨rfl, rfl⟩, hv]
          · rw [if_neg (fun u => z u.2)]
            exact a q (by omega)) hj (by omega)
        refine ⟨σ2, ?_, c2, f1.trans c3⟩
        unfold cMarket_findNeeds_b98
        rw [bin_nI (by omega) (by decide), ci1_nI, nI_add]
        exact c1
      by_cases z : j + 1 < c
      · have e74 : sA σ 74 (nI (j + 1)) = nI (R (j + 1)) := (sA_n _ _ (by omega)).trans (h74 _ z)
        have hm := hR _ z
        have e6 : sA σ 6 (nI (R (j + 1))) = nI (tHome T (R (j + 1))) := (sA_n _ _ (by omega)).trans (hT.2.2.2.1 _ hm)
        rw [if_neg (nI_ge z (by omega)), bin_nI (by omega) (by decide), e74, bin_nI (by omega) (by decide), e6]
        exact go _ (by rw [if_pos z])
      · rw [if_pos ((nI_leI (by omega) (by omega)).mpr (by omega)), cim1]
        exact go _ (by rw [if_neg z])
    · have e : j = c := by omega
      subst e
      rw [if_pos (Int32.le_refl _)]
      exact ⟨σ, rfl, a, frC.rf⟩
/-- whether the first one can come home at all -/
abbrev stP (T : aT) (R : Nat → Nat) (l0 c : Nat) : Prop := (¬ l0 = 0 → tHome T (R 0) + 1 = l0) ∧ (l0 = 0 → 2 ≤ c ∧ tHome T (R 0) = tHome T (R 1))
theorem c_needs {T : aT} {L : aL} {n c l0 : Nat} {R : Nat → Nat} {σ : bS} (hn : 20 ≤ n) (hI : InvT T L) (hc0 : 0 < c) (hc : c ≤ 7) (hl0 : l0 ≤ tB T) (hR : ∀ q, q < c → R q < tM T) (hT : CT T L σ) (h5 : σ.1 71 5 = nI c) (h74 : ∀ q, q < c → σ.2.1 74 q = nI (R q)) : (stP T R l0 c ∧ ∃ σ', cMarket_findNeeds n (lI l0) σ = some (1, σ') ∧ (∀ q, q < c → σ'.2.1 73 q = if q + 1 < c then nI (tHome T (R (q + 1))) else -1) ∧ frC (fun a => a = 73) σ σ') ∨ (¬ stP T R l0 c ∧ cMarket_findNeeds n (lI l0) σ = some (0, σ)) := by
  have hM := hI.2.2.2.1
  have hB := hI.1
  have hm0 := hR 0 hc0
  have hh0 := hI.2.2.2.2.2.1 _ hm0
  have e5 : sI σ 71 5 = nI c := h5
  have e74 : sA σ 74 ci_0 = nI (R 0) := (sA_c0 _ _).trans (h74 0 hc0)
  have e6 : sA σ 6 (nI (R 0)) = nI (tHome T (R 0)) := (sA_n _ _ (by omega)).trans (hT.2.2.2.1 _ hm0)
  have go := c_need_l (n := n) (R := R) hM hc hR n 0 σ hT h5 h74 (fun q hq => by omega) (by omega) (by omega)
  have go : ∃ σ', cMarket_findNeeds_b61 n n ci_0 σ = some (1, σ') ∧ (∀ q, q < c → σ'.2.1 73 q = if q + 1 < c then nI (tHome T (R (q + 1))) else -1) ∧ frC (fun a => a = 73) σ σ' := go
  obtain ⟨σ', g1, g2, g3⟩ := go
  unfold cMarket_findNeeds cMarket_findNeeds_b59 cMarket_findNeeds_b57
  by_cases z : l0 = 0
  · subst z
    rw [if_neg (show ¬ 0 ≤ lI 0 by decide), e5, ci_2_n]
    by_cases y : c < 2
    · right
      rw [if_pos ((nI_ltI (by omega) (by omega)).mpr y)]
      exact ⟨fun u => by have := (u.2 rfl).1; omega, rfl⟩
    · have hm1 := hR 1 (by omega)
      have hh1 := hI.2.2.2.2.2.1 _ hm1
      have e741 : sA σ 74 ci_1 = nI (R 1) := by
        rw [ci1_nI, sA_n _ _ (by omega)]
        exact h74 1 (by omega)
      have e61 : sA σ 6 (nI (R 1)) = nI (tHome T (R 1)) := (sA_n _ _ (by omega)).trans (hT.2.2.2.1 _ hm1)
      rw [if_neg (fun u => y ((nI_ltI (by omega) (by omega)).mp u)), bin_c0 (by decide) (by decide), e74, bin_nI (by omega) (by decide), e741, show bin_ ci_1 7 = bin_ (nI 1) 7 from rfl, bin_nI (by decide) (by decide), bin_nI (by omega) (by decide), e6, e61]
      by_cases w : tHome T (R 0) = tHome T (R 1)
      · left
        rw [if_pos (by rw [w])]
        exact ⟨⟨fun u => absurd rfl u, fun _ => ⟨by omega, w⟩⟩, σ', g1, g2, g3⟩
      · right
        rw [if_neg (fun u => w (nI_inj (by omega) (by omega) u))]
        exact ⟨fun u => w (u.2 rfl).2, rfl⟩
  · have el : lI l0 = nI (l0 - 1) := if_neg z
    rw [if_pos ((lI_ge (by omega)).mpr z), bin_c0 (by decide) (by decide), e74, bin_nI (by omega) (by decide), e6, el]
    by_cases w : tHome T (R 0) + 1 = l0
    · left
      rw [if_pos (by congr 1; omega)]
      exact ⟨⟨fun _ => w, fun u => absurd u z⟩, σ', g1, g2, g3⟩
    · right
      rw [if_neg (fun u => w (by have := nI_inj (by omega) (by omega) u; omega))]
      exact ⟨fun u => w (u.1 z), rfl⟩
abbrev sc72 : Nat → Prop := fun a => a = 12 ∨ a = 13 ∨ a = 72
theorem c_ask_b {T : aT} {L : aL} {n h c i : Nat} {R : Nat → Nat} {G : aG} {r2 : Int32 → bS → Option bS} {σ0 : bS} (hn : 500 ≤ n) (hI : InvT T L) (hh : h + 20 < 2 ^ 31) (hh2 : G 0 0 = nI h) (hc : c ≤ 7) (hi : i < c) (hR : ∀ q, q < c → R q < tM T) : ∀ (k j : Nat) (σ : bS), CT T L σ → CG 27 G σ → σ.1 71 6 = nI (tB T) → (∀ q, q < c → σ.2.1 74 q = nI (R q)) → (∀ bk, bk < j → σ.2.1 72 (6 * i + bk) = fan T L G h (R i) bk i) → (∀ p, p < 6 * i → σ.2.1 72 p = σ0.2.1 72 p) → frC sc72 σ0 σ → j ≤ tB T → tB T < j + k → ∃ σ', cMarket_askFancies_b12 n r2 k (nI i) (nI j) σ = r2 (nI (i + 1)) σ' ∧ (∀ bk, bk < tB T → σ'.2.1 72 (6 * i + bk) = fan T L G h (R i) bk i) ∧ (∀ p, p < 6 * i → σ'.2.1 72 p = σ0.2.1 72 p) ∧ frC sc72 σ0 σ'
  | 0, j, σ, hT, hG, h6, h74, a, b, f, h1, h2 => by omega
  | k + 1, j, σ, hT, hG, h6, h74, a, b, f, h1, h2 => by
    have hB := hI.1
    have e6 : sI σ 71 6 = nI (tB T) := h6
    rw [cMarket_askFancies_b12, e6]
    by_cases hj : j < tB T
    · have e74 : sA σ 74 (nI i) = nI (R i) := (sA_n _ _ (by omega)).trans (h74 i hi)
      have e2 : sI σ 27 2 = nI h := hG.1.1.trans hh2
      obtain ⟨σ1, c1, c2⟩ := c_fancy (n := n) (h := h) (bk := j) (t := i) hn hI hT hG (hR i hi) (by omega)
      rw [if_neg (nI_ge hj (by omega)), bin_nI (by omega) (by decide), e74, e2, nI_add, c1, ob_def, cb_6_n, nI_mul, nI_add, show i * 6 + j = 6 * i + j by omega, bin_nI (by omega) (by decide), ci1_nI, nI_add]
      have f1 : frC sc72 σ (uA σ1 72 (nI (6 * i + j)) (fan T L G h (R i) j i)) := frCaA (c2.mono (fun a z => by unfold sc72; unfold sc12 at z; omega)) (Or.inr (Or.inr rfl))
      have rd : ∀ p, (uA σ1 72 (nI (6 * i + j)) (fan T L G h (R i) j i)).2.1 72 p = if p = 6 * i + j then fan T L G h (R i) j i else σ.2.1 72 p := fun p => by
        rw [uA_2, nI_clamp (by omega), (c2 72 (by decide)).2.1]
        simp
      exact c_ask_b hn hI hh hh2 hc hi hR k (j + 1) _ (hT.fr f1 (fun a x y => by unfold sc72; omega)) (hG.go f1 (fun a x y => by unfold sc72; omega)) (by rw [(f1 71 (by decide)).1]; exact h6) (fun q hq => by rw [(f1 74 (by decide)).2.1]; exact h74 q hq) (fun bk hbk => by
        rw [rd]
        by_cases z : bk = j
        · subst z
          rw [if_pos rfl]
        · rw [if_neg (by omega)]
          exact a bk (by omega)) (fun p hp => by
        rw [rd, if_neg (by omega)]
        exact b p hp) (f.trans f1) hj (by omega)
    · have e : j = tB T := by omega
      subst e
      rw [if_pos (Int32.le_refl _), ci1_nI, nI_add]
      exact ⟨σ, rfl, a, b, f⟩
theorem c_ask_l {T : aT} {L : aL} {n h c : Nat} {R : Nat → Nat} {G : aG} {σ0 : bS} (hn : 500 ≤ n) (hI : InvT T L) (hh : h + 20 < 2 ^ 31) (hh2 : G 0 0 = nI h) (hc : c ≤ 7) (hR : ∀ q, q < c → R q < tM T) : ∀ (k i : Nat) (σ : bS), CT T L σ → CG 27 G σ → σ.1 71 5 = nI c → σ.1 71 6 = nI (tB T) → (∀ q, q < c → σ.2.1 74 q = nI (R q)) → (∀ q, q < i → ∀ bk, bk < tB T → σ.2.1 72 (6 * q + bk) = fan T L G h (R q) bk q) → frC sc72 σ0 σ → i ≤ c → c < i + k → ∃ σ', cMarket_askFancies_b2 n k (nI i) σ = some σ' ∧ (∀ q, q < c → ∀ bk, bk < tB T → σ'.2.1 72 (6 * q + bk) = fan T L G h (R q) bk q) ∧ frC sc72 σ0 σ'
  | 0, i, σ, hT, hG, h5, h6, h74, a, f, h1, h2 => by omega
  | k + 1, i, σ, hT, hG, h5, h6, h74, a, f, h1, h2 => by
    have hB := hI.1
    have e5 : sI σ 71 5 = nI c := h5
    rw [cMarket_askFancies_b2, e5]
    by_cases hi : i < c
    · obtain ⟨σ1, c1, c2, c3, c4⟩ := c_ask_b (r2 := cMarket_askFancies_b2 n k) (σ0 := σ) hn hI hh hh2 hc hi hR n 0 σ hT hG h6 h74 (fun bk hbk => by omega) (fun _ _ => rfl) frC.rf (by omega) (by omega)
      rw [if_neg (nI_ge hi (by omega)), show cMarket_askFancies_b12 n (cMarket_askFancies_b2 n k) n (nI i) ci_0 σ = _ from c1]
      exact c_ask_l hn hI hh hh2 hc hR k (i + 1) σ1 (hT.fr c4 (fun a x y => by unfold sc72; omega)) (hG.go c4 (fun a x y => by unfold sc72; omega)) (by rw [(c4 71 (by decide)).1]; exact h5) (by rw [(c4 71 (by decide)).1]; exact h6) (fun q hq => by rw [(c4 74 (by decide)).2.1]; exact h74 q hq) (fun q hq bk hbk => by
        by_cases z : q = i
        · subst z
          exact c2 bk hbk
        · rw [c3 _ (by omega)]
          exact a q (by omega) bk hbk) (f.trans c4) hi (by omega)
    · have e : i = c := by omega
      subst e
      rw [if_pos (Int32.le_refl _)]
      exact ⟨σ, rfl, a, f⟩
/-- what stands while prices are tried -/
def MkS (T : aT) (L : aL) (G : aG) (h c : Nat) (R : Nat → Nat) (σ : bS) : Prop := σ.1 71 5 = nI c ∧ σ.1 71 6 = nI (tB T) ∧ (∀ q, q < c → σ.2.1 73 q = if q + 1 < c then nI (tHome T (R (q + 1))) else -1) ∧ ∀ q, q < c → ∀ bk, bk < tB T → σ.2.1 72 (6 * q + bk) = fan T L G h (R q) bk q
theorem MkS.of {T : aT} {L : aL} {G : aG} {h c : Nat} {R : Nat → Nat} {σ σ' : bS} (H : MkS T L G h c R σ) (h5 : σ'.1 71 5 = σ.1 71 5) (h6 : σ'.1 71 6 = σ.1 71 6) (h73 : σ'.2.1 73 = σ.2.1 73) (h72 : σ'.2.1 72 = σ.2.1 72) : MkS T L G h c R σ' := by
  unfold MkS
  rw [h5, h6, h73, h72]
  exact H
theorem c_like {T : aT} {L : aL} {G : aG} {n h c q bk : Nat} {R : Nat → Nat} {pr : Nat → Nat} {σ : bS} (hB : tB T ≤ 6) (hc : c ≤ 7) (H : MkS T L G h c R σ) (h75 : ∀ bk, bk < tB T → σ.2.1 75 bk = nI (pr bk)) (hq : q < c) (hb : bk < tB T) : cMarket_liking n (nI q) (nI bk) σ = some (lkg T L G h pr (R q) q bk, σ) := by
  unfold cMarket_liking cMarket_liking_b18
  rw [cb_6_n, nI_mul, nI_add, show q * 6 + bk = 6 * q + bk by omega, bin_nI (by omega) (by decide), bin_nI (by omega) (by decide), sA_n _ _ (by omega), sA_n _ _ (by omega), H.2.2.2 q hq bk hb, h75 bk hb]
theorem c_fav_l {T : aT} {L : aL} {G : aG} {n h c q : Nat} {R : Nat → Nat} {pr : Nat → Nat} {σ : bS} (hB : tB T ≤ 6) (hc : c ≤ 7) (H : MkS T L G h c R σ) (h75 : ∀ bk, bk < tB T → σ.2.1 75 bk = nI (pr bk)) (hq : q < c) : ∀ (k j : Nat), 0 < j → j ≤ tB T → tB T < j + k → cMarket_favourite_b4 n k (nI q) (nI (fv (lkg T L G h pr (R q) q) j)) (nI j) σ = some (nI (fv (lkg T L G h pr (R q) q) (tB T)), σ)
  | 0, j, h0, h1, h2 => by omega
  | k + 1, j, h0, h1, h2 => by
    have e6 : sI σ 71 6 = nI (tB T) := H.2.1
    rw [cMarket_favourite_b4, e6]
    by_cases hj : j < tB T
    · have hl := fv_lt (lkg T L G h pr (R q) q) j h0
      have ih := c_fav_l (n := n) hB hc H h75 hq k (j + 1) (by omega) hj (by omega)
      rw [if_neg (nI_ge hj (by omega)), c_like hB hc H h75 hq hj, ob_def, c_like hB hc H h75 hq (by omega), ob_def]
      by_cases y : lkg T L G h pr (R q) q j ≤ lkg T L G h pr (R q) q (fv (lkg T L G h pr (R q) q) j)
      · rw [if_pos y, cMarket_favourite_b29, ci1_nI, nI_add]
        rw [show fv (lkg T L G h pr (R q) q) (j + 1) = fv (lkg T L G h pr (R q) q) j by rw [fv, if_neg (by omega), if_pos y]] at ih
        exact ih
      · rw [if_neg y, cMarket_favourite_b29, ci1_nI, nI_add]
        rw [show fv (lkg T L G h pr (R q) q) (j + 1) = j by rw [fv, if_neg (by omega), if_neg y]] at ih
        exact ih
    · have e : j = tB T := by omega
      subst e
      rw [if_pos (Int32.le_refl _)]
theorem c_leave_l {T : aT} {L : aL} {G : aG} {n h c : Nat} {R : Nat → Nat} {pr : Nat → Nat} {σ : bS} (hn : 20 ≤ n) (hI : InvT T L) (hB0 : 0 < tB T) (hc : c ≤ 7) (hR : ∀ q, q < c → R q < tM T) (H : MkS T L G h c R σ) (h75 : ∀ bk, bk < tB T → σ.2.1 75 bk = nI (pr bk)) : ∀ (k q : Nat), (∀ i, i < q → i + 1 < c → fv (lkg T L G h pr (R i) i) (tB T) = tHome T (R (i + 1))) → q ≤ c → c < q + k → ∃ r, cMarket_allLeaveWhatIsNeeded_b2 n k (nI q) σ = some (r, σ) ∧ ((r = 1 ∧ ∀ i, i + 1 < c → fv (lkg T L G h pr (R i) i) (tB T) = tHome T (R (i + 1))) ∨ (r = 0 ∧ ¬ ∀ i, i + 1 < c → fv (lkg T L G h pr (R i) i) (tB T) = tHome T (R (i + 1))))
  | 0, q, a, h1, h2 => by omega
  | k + 1, q, a, h1, h2 => by
    have hB := hI.1
    have e5 : sI σ 71 5 = nI c := H.1
    rw [cMarket_allLeaveWhatIsNeeded_b2, e5]
    by_cases hq : q < c
    · have e73 : sA σ 73 (nI q) = if q + 1 < c then nI (tHome T (R (q + 1))) else -1 := (sA_n _ _ (by omega)).trans (H.2.2.1 q hq)
      rw [if_neg (nI_ge hq (by omega)), bin_nI (by omega) (by decide), e73]
      by_cases z : q + 1 < c
      · have hh := hI.2.2.2.2.2.1 _ (hR _ z)
        have hl := fv_lt (lkg T L G h pr (R q) q) (tB T) hB0
        rw [if_pos z, if_neg (nI_pos (by omega)), show cMarket_favourite n (nI q) σ = _ from c_fav_l (pr := pr) hB hc H h75 hq n 1 (by omega) (by omega) (by omega), ob_def, bin_nI (by omega) (by decide), e73, if_pos z]
        by_cases y : fv (lkg T L G h pr (R q) q) (tB T) = tHome T (R (q + 1))
        · rw [if_pos (by rw [y]), cMarket_allLeaveWhatIsNeeded_b35, ci1_nI, nI_add]
          exact c_leave_l hn hI hB0 hc hR H h75 k (q + 1) (fun i x y' => by
            by_cases u : i = q
            · subst u
              exact y
            · exact a i (by omega) y') hq (by omega)
        · rw [if_neg (fun u => y (nI_inj (by omega) (by omega) u))]
          exact ⟨0, rfl, Or.inr ⟨rfl, fun u => y (u q z)⟩⟩
      · rw [if_neg z, if_pos (show (-1 : Int32) < 0 by decide), cMarket_allLeaveWhatIsNeeded_b35, ci1_nI, nI_add]
        exact c_leave_l hn hI hB0 hc hR H h75 k (q + 1) (fun i x y' => a i (by omega) y') hq (by omega)
    · have e : q = c := by omega
      subst e
      rw [if_pos (Int32.le_refl _)]
      exact ⟨1, rfl, Or.inl ⟨rfl, fun i hi => a i (by omega) hi⟩⟩
/-! prices tried, one after another -/
theorem c_next_l {n m B x : Nat} {σ0 : bS} (hm : m ≤ 3) (hB : B ≤ 6) : ∀ (k j : Nat) (σ : bS), (∀ bk, bk < B → σ.2.1 75 bk = if B ≤ bk + j then nI (dg (m + 1) B (x + 1) bk) else nI (dg (m + 1) B x bk)) → x / (m + 1) ^ j + 1 = (x + 1) / (m + 1) ^ j → frC (fun a => a = 75) σ0 σ → j ≤ B → B < j + k → ∃ σ', cMarket_nextPrices_b7 n k (nI m) (nI (B - j) - ci_1) σ = some σ' ∧ (∀ bk, bk < B → σ'.2.1 75 bk = nI (dg (m + 1) B (x + 1) bk)) ∧ frC (fun a => a = 75) σ0 σ'
  | 0, j, σ, a, c, f, h1, h2 => by omega
  | k + 1, j, σ, a, c, f, h1, h2 => by
    rw [cMarket_nextPrices_b7]
    by_cases hj : j < B
    · have ej : nI (B - j) - ci_1 = nI (B - j - 1) := by rw [ci1_nI, nI_sub (by omega)]
      have ed : dg (m + 1) B x (B - j - 1) = (x / (m + 1) ^ j) % (m + 1) := by
        unfold dg
        rw [show B - 1 - (B - j - 1) = j by omega]
      have ed1 : dg (m + 1) B (x + 1) (B - j - 1) = ((x + 1) / (m + 1) ^ j) % (m + 1) := by
        unfold dg
        rw [show B - 1 - (B - j - 1) = j by omega]
      have e75 : sA σ 75 (nI (B - j - 1)) = nI (dg (m + 1) B x (B - j - 1)) := by
        rw [sA_n _ _ (by omega), a _ (by omega), if_neg (by omega)]
      have dl := dg_lt (M := m + 1) (B := B) (n := x) (bk := B - j - 1) (by omega)
      rw [ej, if_neg (nI_pos (by omega)), bin_nI (by omega) (by decide), e75]
      by_cases z : dg (m + 1) B x (B - j - 1) < m
      · rw [if_neg (nI_ge z (by omega)), bin_nI (by omega) (by decide), bin_nI (by omega) (by decide), ci1_nI, nI_add]
        refine ⟨_, rfl, fun bk hbk => ?_, frCaA f rfl⟩
        rw [uA_2, nI_clamp (by omega)]
        rw [ed] at z
        have up : ∀ i, (x + 1) / (m + 1) ^ (j + 1 + i) = x / (m + 1) ^ (j + 1 + i) := fun i => by
          rw [Nat.pow_add, Nat.pow_succ, ← Nat.div_div_eq_div_mul, ← Nat.div_div_eq_div_mul, ← Nat.div_div_eq_div_mul, ← Nat.div_div_eq_div_mul, ← c]
          congr 1
          generalize x / (m + 1) ^ j = y at z
          have q := Nat.div_add_mod y (m + 1)
          exact Nat.div_eq_of_lt_le (by rw [Nat.mul_comm]; omega) (by rw [Nat.add_mul, Nat.one_mul, Nat.mul_comm]; omega)
        by_cases y : bk = B - j - 1
        · subst y
          rw [if_pos ⟨rfl, rfl⟩, ed1, ← c, ed]
          generalize x / (m + 1) ^ j = y at z
          congr 1
          rw [Nat.add_mod, Nat.mod_eq_of_lt (show 1 < m + 1 by omega), Nat.mod_eq_of_lt (show y % (m + 1) + 1 < m + 1 by omega)]
        · rw [if_neg (fun u => y u.2), a bk hbk]
          by_cases w : B ≤ bk + j
          · rw [if_pos w]
          · rw [if_neg w]
            congr 1
            unfold dg
            rw [show B - 1 - bk = j + 1 + (B - 1 - bk - (j + 1)) by omega, up]
      · have zm : dg (m + 1) B x (B - j - 1) = m := by omega
        rw [ed] at zm
        have car : x / (m + 1) ^ (j + 1) + 1 = (x + 1) / (m + 1) ^ (j + 1) ∧ ((x + 1) / (m + 1) ^ j) % (m + 1) = 0 := by
          rw [Nat.pow_succ, ← Nat.div_div_eq_div_mul, ← Nat.div_div_eq_div_mul, ← c]
          generalize x / (m + 1) ^ j = y at zm
          have q := Nat.div_add_mod y (m + 1)
          have e1 : y + 1 = (m + 1) * (y / (m + 1) + 1) := by
            rw [Nat.mul_add, Nat.mul_one]
            omega
          rw [e1, Nat.mul_div_cancel_left _ (by omega), Nat.mul_mod_right]
          exact ⟨rfl, rfl⟩
        have e2 : nI (B - j - 1) + ci_m1 = nI (B - (j + 1)) - ci_1 := by
          rw [show B - j - 1 = B - (j + 1) by omega, Int32.sub_eq_add_neg]
          rfl
        rw [if_pos ((nI_leI (by omega) (by omega)).mpr (by omega)), bin_nI (by omega) (by decide), cMarket_nextPrices_b42, e2]
        refine c_next_l hm hB k (j + 1) (uA σ 75 (nI (B - j - 1)) ci_0) (fun bk hbk => ?_) car.1 (frCaA f rfl) hj (by omega)
        rw [uA_2, nI_clamp (by omega)]
        by_cases y : bk = B - j - 1
        · subst y
          rw [if_pos ⟨rfl, rfl⟩, if_pos (by omega), ed1, car.2]
          rfl
        · rw [if_neg (fun u => y u.2), a bk hbk]
          by_cases w : B ≤ bk + j
          · rw [if_pos w, if_pos (by omega)]
          · rw [if_neg w, if_neg (by omega)]
    · have e : j = B := by omega
      subst e
      rw [Nat.sub_self, if_pos (show nI 0 - ci_1 < 0 by decide)]
      exact ⟨σ, rfl, fun bk hbk => by rw [a bk hbk, if_pos (by omega)], f⟩
/-- what is found so far -/
def MkB (T : aT) (m : Nat) (o : Option Nat) (σ : bS) : Prop := σ.1 71 8 = lst (spP T m) o (1073741824 : Int32) ∧ ∀ c, o = some c → ∀ bk, bk < tB T → σ.2.1 76 bk = nI (dg (m + 1) (tB T) c bk)
abbrev sc76 : Nat → Prop := fun a => a = 71 ∨ a = 75 ∨ a = 76
theorem c_try_l {T : aT} {L : aL} {G : aG} {n h c m x : Nat} {R : Nat → Nat} {gd : Nat → Bool} {σ : bS} (hn : 20 ≤ n) (hI : InvT T L) (hB0 : 0 < tB T) (hc : c ≤ 7) (hm : m ≤ 3) (hR : ∀ q, q < c → R q < tM T) (H : MkS T L G h c R σ) (h75 : ∀ bk, bk < tB T → σ.2.1 75 bk = nI (dg (m + 1) (tB T) x bk)) (hb : MkB T m (bs (spP T m) gd x) σ) (hgd : gd x = true ↔ ∀ i, i + 1 < c → fv (lkg T L G h (dg (m + 1) (tB T) x) (R i) i) (tB T) = tHome T (R (i + 1))) : ∀ (k j : Nat), j ≤ tB T → tB T < j + k → ∃ σ', cMarket_tryPrices_b4 n k (nI (sm (dg (m + 1) (tB T) x) j)) (nI j) σ = some σ' ∧ MkB T m (bs (spP T m) gd (x + 1)) σ' ∧ frC (fun a => a = 71 ∨ a = 76) σ σ' ∧ σ'.1 71 5 = σ.1 71 5 ∧ σ'.1 71 6 = σ.1 71 6
  | 0, j, h1, h2 => by omega
  | k + 1, j, h1, h2 => by
    have hB := hI.1
    have e6 : sI σ 71 6 = nI (tB T) := H.2.1
    have e8 : sI σ 71 8 = lst (spP T m) (bs (spP T m) gd x) (1073741824 : Int32) := hb.1
    rw [cMarket_tryPrices_b4, e6]
    by_cases hj : j < tB T
    · have e75 : sA σ 75 (nI j) = nI (dg (m + 1) (tB T) x j) := (sA_n _ _ (by omega)).trans (h75 j hj)
      rw [if_neg (nI_ge hj (by omega)), bin_nI (by omega) (by decide), e75, ci1_nI, nI_add, nI_add]
      exact c_try_l hn hI hB0 hc hm hR H h75 hb hgd k (j + 1) hj (by omega)
    · have e : j = tB T := by omega
      subst e
      have sle := fun z => spP_le (T := T) (code := z) hm
      have s1 := sle x
      rw [if_pos (Int32.le_refl _), e8]
      show ∃ σ', (if lst (spP T m) (bs (spP T m) gd x) (1073741824 : Int32) ≤ nI (spP T m x) then _ else _) = _ ∧ _
      have cond : ¬ lst (spP T m) (bs (spP T m) gd x) (1073741824 : Int32) ≤ nI (spP T m x) ↔ (match bs (spP T m) gd x with | none => true | some c => decide (spP T m x < spP T m c)) = true := by
        cases bs (spP T m) gd x with
        | none =>
          refine ⟨fun _ => rfl, fun _ u => ?_⟩
          have u : (1073741824 : Int32) ≤ nI (spP T m x) := u
          have : nI 1073741824 ≤ nI (spP T m x) := u
          have := (nI_leI (by omega) (by omega)).mp this
          omega
        | some z =>
          have s2 := sle z
          show ¬ nI (spP T m z) ≤ nI (spP T m x) ↔ decide (spP T m x < spP T m z) = true
          rw [decide_eq_true_iff]
          exact ⟨fun u => by
            by_cases w : spP T m x < spP T m z
            · exact w
            · exact absurd ((nI_leI (by omega) (by omega)).mpr (by omega)) u, fun u v => by have := (nI_leI (by omega) (by omega)).mp v; omega⟩
      by_cases look : lst (spP T m) (bs (spP T m) gd x) (1073741824 : Int32) ≤ nI (spP T m x)
      · rw [if_pos look]
        have e1 : bs (spP T m) gd (x + 1) = bs (spP T m) gd x := by rw [bs, if_neg (fun u => (cond.mpr u.1) look)]
        rw [e1]
        exact ⟨σ, rfl, hb, frC.rf, rfl, rfl⟩
      · rw [if_neg look]
        obtain ⟨r, a1, a2⟩ := c_leave_l (n := n) (R := R) (pr := dg (m + 1) (tB T) x) hn hI hB0 hc hR H h75 n 0 (fun i hi => by omega) (by omega) (by omega)
        rw [show cMarket_allLeaveWhatIsNeeded n σ = some (r, σ) from a1, ob_def]
        rcases a2 with ⟨rfl, a2⟩ | ⟨rfl, a2⟩
        · have e1 : bs (spP T m) gd (x + 1) = some x := by rw [bs, if_pos ⟨cond.mp look, hgd.mpr a2⟩]
          rw [if_neg one_ne, if_neg (by decide), e1]
          refine ⟨_, rfl, ⟨?_, fun z ez bk hbk => ?_⟩, fun a ha => ?_, ?_, ?_⟩
          · show (uI σ 71 8 (nI (spP T m x))).1 71 8 = nI (spP T m x)
            rw [uI_1, if_pos ⟨rfl, rfl⟩]
          · cases ez
            rw [uC_2, show ci_0.toNatClampNeg = 0 by decide, show cb_6.toNatClampNeg = 6 by decide, if_pos ⟨rfl, Nat.zero_le _, by omega⟩, show 0 + (bk - 0) = bk by omega]
            exact h75 bk hbk
          · exact ((frC.uI (P := fun a => a = 71 ∨ a = 76) (σ := σ) (o := 71) (k := 8) (v := nI (spP T m x)) (Or.inl rfl)).trans (frC.uC (P := fun a => a = 71 ∨ a = 76) (o := 76) (Or.inr rfl))) a ha
          · show (uI σ 71 8 (nI (spP T m x))).1 71 5 = _
            rw [uI_1, if_neg (by decide)]
          · show (uI σ 71 8 (nI (spP T m x))).1 71 6 = _
            rw [uI_1, if_neg (by decide)]
        · have e1 : bs (spP T m) gd (x + 1) = bs (spP T m) gd x := by rw [bs, if_neg (fun u => a2 (hgd.mp u.2))]
          rw [if_pos rfl, e1]
          exact ⟨σ, rfl, hb, frC.rf, rfl, rfl⟩
theorem c_search_l {T : aT} {L : aL} {G : aG} {n h c m all : Nat} {R : Nat → Nat} {gd : Nat → Bool} {σ0 : bS} (hn : 20 ≤ n) (hI : InvT T L) (hB0 : 0 < tB T) (hc : c ≤ 7) (hm : m ≤ 3) (hall : all ≤ 5000) (hR : ∀ q, q < c → R q < tM T) (hgd : ∀ x, gd x = true ↔ ∀ i, i + 1 < c → fv (lkg T L G h (dg (m + 1) (tB T) x) (R i) i) (tB T) = tHome T (R (i + 1))) : ∀ (k x : Nat) (σ : bS), MkS T L G h c R σ → (∀ bk, bk < tB T → σ.2.1 75 bk = nI (dg (m + 1) (tB T) x bk)) → MkB T m (bs (spP T m) gd x) σ → frC sc76 σ0 σ → x ≤ all → all < x + k → ∃ σ', cMarket_search_b87 n k (nI m) (nI all) (nI x) σ = some (if (bs (spP T m) gd all).isSome = true then 1 else 0, σ') ∧ MkB T m (bs (spP T m) gd all) σ' ∧ frC sc76 σ0 σ'
  | 0, x, σ, H, h75, hb, f, h1, h2 => by omega
  | k + 1, x, σ, H, h75, hb, f, h1, h2 => by
    have hB := hI.1
    rw [cMarket_search_b87]
    by_cases hx : x < all
    · obtain ⟨σ1, a1, a2, a3, a4, a5⟩ := c_try_l (n := n) (gd := gd) hn hI hB0 hc hm hR H h75 hb (hgd x) n 0 (by omega) (by omega)
      have H1 : MkS T L G h c R σ1 := H.of a4 a5 (a3 73 (by decide)).2.1 (a3 72 (by decide)).2.1
      obtain ⟨σ2, b1, b2, b3⟩ := c_next_l (n := n) (m := m) (B := tB T) (x := x) (σ0 := σ1) hm hB n 0 σ1 (fun bk hbk => by rw [if_neg (by omega), (a3 75 (by decide)).2.1]; exact h75 bk hbk) (by rw [Nat.pow_zero, Nat.div_one, Nat.div_one]) frC.rf (by omega) (by omega)
      have e6 : sI σ1 71 6 = nI (tB T) := H1.2.1
      rw [if_neg (nI_ge hx (by omega)), show cMarket_tryPrices n σ = some σ1 from a1, ob_def]
      unfold cMarket_nextPrices cMarket_nextPrices_b6
      rw [e6, show cMarket_nextPrices_b7 n n (nI m) (nI (tB T) - ci_1) σ1 = some σ2 from b1, ob_def, ci1_nI, nI_add]
      refine c_search_l hn hI hB0 hc hm hall hR hgd k (x + 1) σ2 (H1.of (by rw [(b3 71 (by decide)).1]) (by rw [(b3 71 (by decide)).1]) (b3 73 (by decide)).2.1 (b3 72 (by decide)).2.1) b2 ⟨?_, fun c ec bk hbk => ?_⟩ (f.trans ((a3.mono (fun a z => by unfold sc76; omega)).trans (b3.mono (fun a z => by unfold sc76; omega)))) hx (by omega)
      · rw [(b3 71 (by decide)).1]
        exact a2.1
      · rw [(b3 76 (by decide)).2.1]
        exact a2.2 c ec bk hbk
    · have e : x = all := by omega
      subst e
      have e8 : sI σ 71 8 = lst (spP T m) (bs (spP T m) gd x) (1073741824 : Int32) := hb.1
      rw [if_pos (Int32.le_refl _), e8]
      refine ⟨σ, ?_, hb, f⟩
      cases bs (spP T m) gd x with
      | none =>
        show (if (1073741824 : Int32) = 1073741824 then _ else _) = _
        rw [if_pos rfl]
        rfl
      | some z =>
        have s2 := spP_le (T := T) (code := z) hm
        show (if nI (spP T m z) = 1073741824 then _ else _) = _
        rw [if_neg (fun u => by
          have : nI (spP T m z) = nI 1073741824 := u
          have := nI_inj (by omega) (by omega) this
          omega)]
        rfl
theorem c_all_pl {T : aT} {n m : Nat} {σ : bS} (hB : tB T ≤ 6) (h6 : σ.1 71 6 = nI (tB T)) : ∀ (k j : Nat), j ≤ tB T → tB T < j + k → cMarket_search_b61 n k (nI m) (nI ((m + 1) ^ j)) (nI j) σ = cMarket_search_b87 n n (nI m) (nI ((m + 1) ^ tB T)) ci_0 σ
  | 0, j, h1, h2 => by omega
  | k + 1, j, h1, h2 => by
    have e6 : sI σ 71 6 = nI (tB T) := h6
    rw [cMarket_search_b61, e6]
    by_cases hj : j < tB T
    · rw [if_neg (nI_ge hj (by omega)), ci1_nI, nI_add, nI_mul, nI_add, ← Nat.pow_succ]
      exact c_all_pl hB h6 k (j + 1) hj (by omega)
    · have e : j = tB T := by omega
      subst e
      rw [if_pos (Int32.le_refl _)]
