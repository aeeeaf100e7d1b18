/-! PRICES: the reference -/
def lst (S : Nat → Nat) (o : Option Nat) (z : Int32) : Int32 := match o with
  | none => z
  | some c => nI (S c)
def anP (S : Nat → Nat) (d : Nat → Nat → Nat) (v : Int32) (o : Option Nat) : Int32 := match o with
  | none => -2
  | some c => if v = -1 then nI (S c) else nI (d c v.toNatClampNeg)
/-- all come home by the prices of a number -/
noncomputable def gdP (T : aT) (L : aL) (G : aG) (h s m l0 : Nat) (code : Nat) : Bool := okP (rP (tHome T) (fun x _ t => fv (lkg T L G h (dg (m + 1) (tB T) code) x t) (tB T) + 1) (fun q => (rowL 7 s 0).getD q 0) (fun _ => false) l0 (rowL 7 s 0).length)
abbrev spP (T : aT) (m : Nat) (code : Nat) : Nat := sm (dg (m + 1) (tB T) code) (tB T)
theorem spP_le {T : aT} {m code : Nat} (hm : m ≤ 3) : spP T m code ≤ 3 * tB T := sm_le (tB T) (fun k _ => by have := dg_lt (M := m + 1) (B := tB T) (n := code) (bk := k) (by omega); omega)
theorem m_keep_l {T : aT} {L : aL} {n code m : Nat} {r87 : Int32 → Int32 → Int32 → Int32 → Int32 → Int32 → Int32 → bS → Option (Int32 × bS)} {x1 x2 x3 x4 x5 x6 x7 : Int32} (hB : tB T ≤ 6) : ∀ (k j : Nat) (σ : bS), MTx T L σ → (∀ bk, bk < tB T → σ.2.1 36 bk = nI (dg (m + 1) (tB T) code bk)) → (∀ bk, bk < j → σ.2.1 43 bk = nI (dg (m + 1) (tB T) code bk)) → j ≤ tB T → tB T < j + k → ∃ σ', m_prices_b151 n r87 k x1 x2 x3 x4 x5 x6 x7 (nI j) σ = r87 x1 x2 x3 x4 x5 x6 (x7 + ci_1) σ' ∧ (∀ bk, bk < tB T → σ'.2.1 43 bk = nI (dg (m + 1) (tB T) code bk)) ∧ frM (fun _ => False) (fun a => a = 43) σ σ'
  | 0, j, σ, hT, a, b, h1, h2 => by omega
  | k + 1, j, σ, hT, a, b, h1, h2 => by
    rw [m_prices_b151, bin_c0 (by decide) (by decide), sA_c0, hT.1.1]
    by_cases hj : j < tB T
    · have e36 : sA σ 36 (nI j) = nI (dg (m + 1) (tB T) code j) := (sA_n _ _ (by omega)).trans (a j hj)
      rw [if_neg (nI_ge hj (by omega)), bin_nI (by omega) (by decide), bin_nI (by omega) (by decide), e36, ci1_nI, nI_add, ← ci1_nI]
      obtain ⟨σ2, c1, c2, c3⟩ := m_keep_l (n := n) (r87 := r87) (x1 := x1) (x2 := x2) (x3 := x3) (x4 := x4) (x5 := x5) (x6 := x6) (x7 := x7) hB k (j + 1) (uA σ 43 (nI j) (nI (dg (m + 1) (tB T) code j))) (hT.of (fun x y z => uA_o _ _ _ _ (by omega))) (fun bk hbk => by rw [uA_o _ _ _ _ (by decide)]; exact a bk hbk) (fun bk hbk => by
        rw [uA_2, nI_clamp (by omega)]
        by_cases z : bk = j
        · subst z
          rw [if_pos ⟨rfl, rfl⟩]
        · rw [if_neg (fun u => z u.2)]
          exact b bk (by omega)) hj (by omega)
      exact ⟨σ2, c1, c2, frM.trans (frM.uA (PI := fun _ => False) (PA := fun a => a = 43) rfl) c3⟩
    · have e : j = tB T := by omega
      subst e
      rw [if_pos (Int32.le_refl _), m_prices_b182]
      exact ⟨σ, rfl, b, frM.rf⟩
theorem rowL_pos {s z : Nat} (h0 : 0 < s) (hs : s < 128) : 0 < (rowL 7 s z).length := by
  rw [rowL_pc hs]
  by_cases q : pc s = 0
  · exfalso
    have : s % 2 = 0 ∧ s / 2 % 2 = 0 ∧ s / 4 % 2 = 0 ∧ s / 8 % 2 = 0 ∧ s / 16 % 2 = 0 ∧ s / 32 % 2 = 0 ∧ s / 64 % 2 = 0 := by
      unfold pc at q
      omega
    omega
  · omega
theorem m_pri_l {T : aT} {L : aL} {n b h s m all l0 : Nat} {v : Int32} {G : aG} {σ0 : bS} (hn : 1000 ≤ n) (hI : InvT T L) (hi : InvG T 5000 G) (hh : G 0 0 = nI h) (hx : h + 20 ≤ 170000) (hb : b < tG T) (h0 : 0 < s) (hs : s < 2 ^ tM T) (hf : ∀ m, s.testBit m = true → m < tM T ∧ G 5 m = nI (tFoot T b)) (hm : m ≤ 3) (hl0 : l0 ≤ tB T) (hG3 : G 3 b = lI l0) (hall : all ≤ 5000) (hv : v = -1 ∨ ∃ j, j < tB T ∧ v = nI j) : ∀ (k code : Nat) (σ : bS), MTx T L σ → MG T 0 G σ → frQ σ0 σ → (∀ c, bs (spP T m) (gdP T L G h s m l0) code = some c → ∀ bk, bk < tB T → σ.2.1 43 bk = nI (dg (m + 1) (tB T) c bk)) → code ≤ all → all < code + k → ∃ σ', m_prices_b87 n k (nI b) (nI s) (nI m) v (nI all) (lst (spP T m) (bs (spP T m) (gdP T L G h s m l0) code) cb_m2) (nI code) σ = some (anP (spP T m) (dg (m + 1) (tB T)) v (bs (spP T m) (gdP T L G h s m l0) all), σ') ∧ frQ σ0 σ'
  | 0, code, σ, hT, hG, f, a, h1, h2 => by omega
  | k + 1, code, σ, hT, hG, f, a, h1, h2 => by
    have hM := hI.2.2.2.1
    have hB := hI.1
    have hfo := hI.2.2.2.2.1 b hb
    have h7 : (2 : Nat) ^ tM T ≤ 2 ^ 7 := Nat.pow_le_pow_right (by decide) hM
    have hT7 : tG T ≤ 4 ∧ tM T ≤ 7 := ⟨hI.2.2.1, hM⟩
    rw [m_prices_b87]
    by_cases hc : code < all
    · obtain ⟨σ1, p1, p2, p3⟩ := m_lay_l (n := n) (m := m) (B := tB T) (code := code) hm hB (by omega) n 0 σ (fun bk x y => by omega) (by omega) (by omega)
      have p1' : m_laysPrices n (nI code) (nI m) σ = some (nI (spP T m code), σ1) := by
        unfold m_laysPrices m_laysPrices_b13
        rw [bin_c0 (by decide) (by decide), sA_c0, hT.1.1]
        rw [Nat.pow_zero, Nat.div_one, Nat.sub_zero, Nat.sub_self] at p1
        exact p1
      have q1 : frQ σ σ1 := frQ.ofM p3 (fun k z => z.elim) (fun a z => by unfold scrA; omega)
      have hT1 : MTx T L σ1 := hT.of (fun a x y => q1.2.1 a (by unfold scrA; omega))
      have hG1 : MG T 0 G σ1 := hG.of hT7 (fun j x y => q1.2.2 j (by omega))
      have sle := fun c => spP_le (T := T) (code := c) hm
      rw [if_neg (nI_ge hc (by omega)), p1', ob_def]
      -- whether these prices are looked at
      by_cases look : (match bs (spP T m) (gdP T L G h s m l0) code with | none => true | some c => decide (spP T m code < spP T m c)) = true
      · have go : (if lst (spP T m) (bs (spP T m) (gdP T L G h s m l0) code) cb_m2 < 0 then m_prices_b118 n (m_prices_b87 n k) (nI b) (nI s) (nI m) v (nI all) (lst (spP T m) (bs (spP T m) (gdP T L G h s m l0) code) cb_m2) (nI code) (nI (spP T m code)) σ1 else if nI (spP T m code) < lst (spP T m) (bs (spP T m) (gdP T L G h s m l0) code) cb_m2 then m_prices_b118 n (m_prices_b87 n k) (nI b) (nI s) (nI m) v (nI all) (lst (spP T m) (bs (spP T m) (gdP T L G h s m l0) code) cb_m2) (nI code) (nI (spP T m code)) σ1 else m_prices_b182 n (m_prices_b87 n k) (nI b) (nI s) (nI m) v (nI all) (lst (spP T m) (bs (spP T m) (gdP T L G h s m l0) code) cb_m2) (nI code) σ1) = m_prices_b118 n (m_prices_b87 n k) (nI b) (nI s) (nI m) v (nI all) (lst (spP T m) (bs (spP T m) (gdP T L G h s m l0) code) cb_m2) (nI code) (nI (spP T m code)) σ1 := by
          cases eb : bs (spP T m) (gdP T L G h s m l0) code with
          | none => exact if_pos (show cb_m2 < 0 by decide)
          | some c =>
            rw [eb] at look
            have lt : spP T m code < spP T m c := of_decide_eq_true look
            have sc := sle c
            show (if nI (spP T m c) < 0 then _ else if nI (spP T m code) < nI (spP T m c) then _ else _) = _
            rw [if_neg (nI_pos (by omega)), if_pos ((nI_ltI (by omega) (by omega)).mpr lt)]
        show ∃ σ', (if lst (spP T m) (bs (spP T m) (gdP T L G h s m l0) code) cb_m2 < 0 then m_prices_b118 n (m_prices_b87 n k) (nI b) (nI s) (nI m) v (nI all) (lst (spP T m) (bs (spP T m) (gdP T L G h s m l0) code) cb_m2) (nI code) (nI (spP T m code)) σ1 else if nI (spP T m code) < lst (spP T m) (bs (spP T m) (gdP T L G h s m l0) code) cb_m2 then m_prices_b118 n (m_prices_b87 n k) (nI b) (nI s) (nI m) v (nI all) (lst (spP T m) (bs (spP T m) (gdP T L G h s m l0) code) cb_m2) (nI code) (nI (spP T m code)) σ1 else m_prices_b182 n (m_prices_b87 n k) (nI b) (nI s) (nI m) v (nI all) (lst (spP T m) (bs (spP T m) (gdP T L G h s m l0) code) cb_m2) (nI code) σ1) = _ ∧ _
        rw [go, m_prices_b118]
        obtain ⟨σ2, r1, r2, r3, r4⟩ := m_lays_row (n := n) (z := 0) (σ := σ1) (by omega) hM (show s < 2 ^ 31 by omega) (by decide) hT1.1.2.2.2
        rw [← rowL_top hs hM] at r2
        have q2 : frQ σ1 (uI σ2 0 53 ci_1) := (frQ.ofM r4 (fun k z => by unfold scrI; omega) (fun a z => by unfold scrA; omega)).trans (frQ.uI ⟨by decide, by decide, by decide, by decide, by decide⟩)
        have hT2 : MTx T L (uI σ2 0 53 ci_1) := hT1.of (fun a x y => q2.2.1 a (by unfold scrA; omega))
        have hG2 : MG T 0 G (uI σ2 0 53 ci_1) := hG1.of hT7 (fun j x y => q2.2.2 j (by omega))
        obtain ⟨σ3, g1, g2, g3, g4, g5, g6⟩ := m_goes (n := n) (R := fun q => (rowL 7 s 0).getD q 0) (hd := fun _ => false) (W := fun x _ t => fv (lkg T L G h (dg (m + 1) (tB T) code) x t) (tB T) + 1) (σ := uI σ2 0 53 ci_1) hn hI hT2 hG2 hi hh hb (rowL_pos (z := 0) h0 (by omega)) (rowL_len (by omega)) (rowL_row7 hI hi hb hs hf) hx hl0 hG3 (fun x la t hx' hla => Or.inr ⟨_, fv_lt _ _ (by omega), rfl⟩) (fun x la t hx' hla => ⟨(lI_S _).symm, fv_lt _ _ (by omega)⟩) (wsh_price (pr := dg (m + 1) (tB T) code) hn hI hb) (fun σ σ' hq fx => ⟨(fx.1 53 (by decide)).trans hq.1, fun bk hbk => by rw [fx.2 36 (by decide)]; exact hq.2 bk hbk⟩) ⟨rfl, fun bk hbk => (congrFun (r4.2.1 36 (by decide)) bk).trans (p2 bk hbk)⟩ r2.1 (fun q hq => (r2.2 q hq).1) (fun q hq => (r2.2 q hq).2)
        have q3 := (q1.trans q2).trans g4
        rw [show m_laysRow n (nI s) ci_0 σ1 = some σ2 from r1, ob_def, g1, ob_def, g2, ob_def]
        have egd : okP (rP (tHome T) (fun x _ t => fv (lkg T L G h (dg (m + 1) (tB T) code) x t) (tB T) + 1) (fun q => (rowL 7 s 0).getD q 0) (fun _ => false) l0 (rowL 7 s 0).length) = gdP T L G h s m l0 code := rfl
        rw [egd]
        by_cases good : gdP T L G h s m l0 code = true
        · have e1 : bs (spP T m) (gdP T L G h s m l0) (code + 1) = some code := by rw [bs, if_pos ⟨look, good⟩]
          rw [if_pos good]
          simp only [if_neg one_ne]
          obtain ⟨σ4, k1, k2, k3⟩ := m_keep_l (n := n) (code := code) (m := m) (r87 := m_prices_b87 n k) (x1 := nI b) (x2 := nI s) (x3 := nI m) (x4 := v) (x5 := nI all) (x6 := nI (spP T m code)) (x7 := nI code) (L := L) hB n 0 σ3 g5 (fun bk hbk => by
            rw [g3.2 36 (by decide)]
            exact (congrFun (r4.2.1 36 (by decide)) bk).trans (p2 bk hbk)) (fun bk hbk => by omega) (by omega) (by omega)
          rw [show m_prices_b151 n (m_prices_b87 n k) n (nI b) (nI s) (nI m) v (nI all) (nI (spP T m code)) (nI code) ci_0 σ3 = _ from k1, ci1_nI, nI_add]
          have q4 := q3.trans (frQ.ofM k3 (fun k z => z.elim) (fun a z => by unfold scrA; omega))
          have ih := m_pri_l (v := v) hn hI hi hh hx hb h0 hs hf hm hl0 hG3 hall hv k (code + 1) σ4 (hT.of (fun a x y => q4.2.1 a (by unfold scrA; omega))) (hG.of hT7 (fun j x y => q4.2.2 j (by omega))) (f.trans q4) (fun c ec bk hbk => by
            rw [e1] at ec
            cases ec
            exact k2 bk hbk) hc (by omega)
          rw [e1] at ih
          exact ih
        · have e1 : bs (spP T m) (gdP T L G h s m l0) (code + 1) = bs (spP T m) (gdP T L G h s m l0) code := by rw [bs, if_neg (fun u => good u.2)]
          rw [if_neg good]
          simp only [if_true]
          rw [m_prices_b182, ci1_nI, nI_add, ← e1]
          exact m_pri_l (v := v) hn hI hi hh hx hb h0 hs hf hm hl0 hG3 hall hv k (code + 1) σ3 g5 g6 (f.trans q3) (fun c ec bk hbk => by
            rw [e1] at ec
            rw [g3.2 43 (by decide)]
            show σ2.2.1 43 bk = _
            rw [r4.2.1 43 (by decide), p3.2.1 43 (by decide)]
            exact a c ec bk hbk) hc (by omega)
      · have e1 : bs (spP T m) (gdP T L G h s m l0) (code + 1) = bs (spP T m) (gdP T L G h s m l0) code := by rw [bs, if_neg (fun u => look u.1)]
        have go : (if lst (spP T m) (bs (spP T m) (gdP T L G h s m l0) code) cb_m2 < 0 then m_prices_b118 n (m_prices_b87 n k) (nI b) (nI s) (nI m) v (nI all) (lst (spP T m) (bs (spP T m) (gdP T L G h s m l0) code) cb_m2) (nI code) (nI (spP T m code)) σ1 else if nI (spP T m code) < lst (spP T m) (bs (spP T m) (gdP T L G h s m l0) code) cb_m2 then m_prices_b118 n (m_prices_b87 n k) (nI b) (nI s) (nI m) v (nI all) (lst (spP T m) (bs (spP T m) (gdP T L G h s m l0) code) cb_m2) (nI code) (nI (spP T m code)) σ1 else m_prices_b182 n (m_prices_b87 n k) (nI b) (nI s) (nI m) v (nI all) (lst (spP T m) (bs (spP T m) (gdP T L G h s m l0) code) cb_m2) (nI code) σ1) = m_prices_b87 n k (nI b) (nI s) (nI m) v (nI all) (lst (spP T m) (bs (spP T m) (gdP T L G h s m l0) code) cb_m2) (nI (code + 1)) σ1 := by
          cases eb : bs (spP T m) (gdP T L G h s m l0) code with
          | none =>
            rw [eb] at look
            exact absurd rfl look
          | some c =>
            rw [eb] at look
            have lt : ¬ spP T m code < spP T m c := fun u => look (decide_eq_true u)
            have sc := sle c
            have sd := sle code
            show (if nI (spP T m c) < 0 then _ else if nI (spP T m code) < nI (spP T m c) then _ else _) = _
            rw [if_neg (nI_pos (by omega)), if_neg (fun u => lt ((nI_ltI (by omega) (by omega)).mp u)), m_prices_b182, ci1_nI, nI_add]
        show ∃ σ', (if lst (spP T m) (bs (spP T m) (gdP T L G h s m l0) code) cb_m2 < 0 then m_prices_b118 n (m_prices_b87 n k) (nI b) (nI s) (nI m) v (nI all) (lst (spP T m) (bs (spP T m) (gdP T L G h s m l0) code) cb_m2) (nI code) (nI (spP T m code)) σ1 else if nI (spP T m code) < lst (spP T m) (bs (spP T m) (gdP T L G h s m l0) code) cb_m2 then m_prices_b118 n (m_prices_b87 n k) (nI b) (nI s) (nI m) v (nI all) (lst (spP T m) (bs (spP T m) (gdP T L G h s m l0) code) cb_m2) (nI code) (nI (spP T m code)) σ1 else m_prices_b182 n (m_prices_b87 n k) (nI b) (nI s) (nI m) v (nI all) (lst (spP T m) (bs (spP T m) (gdP T L G h s m l0) code) cb_m2) (nI code) σ1) = _ ∧ _
        rw [go, ← e1]
        exact m_pri_l (v := v) hn hI hi hh hx hb h0 hs hf hm hl0 hG3 hall hv k (code + 1) σ1 hT1 hG1 (f.trans q1) (fun c ec bk hbk => by
          rw [e1] at ec
          rw [p3.2.1 43 (by decide)]
          exact a c ec bk hbk) hc (by omega)
    · have e : code = all := by omega
      subst e
      rw [if_pos (Int32.le_refl _)]
      refine ⟨σ, ?_, f⟩
      cases eb : bs (spP T m) (gdP T L G h s m l0) code with
      | none =>
        show (if cb_m2 < 0 then _ else _) = _
        rw [if_pos (by decide), m_prices_b199, m_prices_b211, cbm2]
        rfl
      | some c =>
        have sc := spP_le (T := T) (code := c) hm
        show (if nI (spP T m c) < 0 then _ else _) = _
        rw [if_neg (nI_pos (by omega)), cim1]
        unfold anP
        rcases hv with rfl | ⟨j, hj, rfl⟩
        · rw [if_pos rfl, m_prices_b199, m_prices_b211]
          show _ = some ((if (-1 : Int32) = -1 then nI (spP T m c) else _), σ)
          rw [if_pos rfl]
          rfl
        · show _ = some ((if nI j = -1 then nI (spP T m c) else nI (dg (m + 1) (tB T) c (nI j).toNatClampNeg)), σ)
          rw [if_neg (nI_m1 (by omega)), if_neg (nI_m1 (by omega)), bin_nI (by omega) (by decide), m_prices_b211, sA_n _ _ (by omega), nI_clamp (by omega), a c eb j hj]
theorem m_all_l {T : aT} {L : aL} {n m : Nat} {x1 x2 x4 : Int32} {σ : bS} (hB : tB T ≤ 6) (hT : MTx T L σ) : ∀ (k j : Nat), j ≤ tB T → tB T < j + k → m_prices_b55 n k x1 x2 (nI m) x4 (nI ((m + 1) ^ j)) (nI j) σ = m_prices_b87 n n x1 x2 (nI m) x4 (nI ((m + 1) ^ tB T)) cb_m2 ci_0 σ
  | 0, j, h1, h2 => by omega
  | k + 1, j, h1, h2 => by
    rw [m_prices_b55, bin_c0 (by decide) (by decide), sA_c0, hT.1.1]
    by_cases hj : j < tB T
    · rw [if_neg (nI_ge hj (by omega)), ci1_nI, nI_add, nI_mul, nI_add, ← Nat.pow_succ]
      exact m_all_l hB hT k (j + 1) hj (by omega)
    · have e : j = tB T := by omega
      subst e
      rw [if_pos (Int32.le_refl _)]
