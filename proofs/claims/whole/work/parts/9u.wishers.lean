/-! WISHERS: patterns as numbers and as lists; both sides -/
def bP : List Bool → Nat
  | [] => 0
  | d :: ds => (if d = true then 2 ^ ds.length else 0) + bP ds
theorem bP_lt : ∀ ds : List Bool, bP ds < 2 ^ ds.length
  | [] => by decide
  | d :: ds => by
    have := bP_lt ds
    rw [bP, List.length_cons, Nat.pow_succ]
    split <;> omega
theorem bP_top (d : Bool) (ds : List Bool) : (bP (d :: ds)).testBit ds.length = d := by
  have l := bP_lt ds
  rw [bP]
  cases d
  · rw [if_neg Bool.false_ne_true, Nat.zero_add]
    exact Nat.testBit_lt_two_pow l
  · rw [if_pos rfl, Nat.testBit_two_pow_add_eq, Nat.testBit_lt_two_pow l]
    rfl
theorem bP_low (d : Bool) (ds : List Bool) {j : Nat} (h : j < ds.length) : (bP (d :: ds)).testBit j = (bP ds).testBit j := by
  rw [bP]
  cases d
  · rw [if_neg Bool.false_ne_true, Nat.zero_add]
  · rw [if_pos rfl, Nat.testBit_two_pow_add_gt h]
theorem bP_bit : ∀ (ds : List Bool) (q : Nat) (h : q < ds.length), (bP ds).testBit (ds.length - 1 - q) = ds[q]
  | [], q, h => absurd h (Nat.not_lt_zero _)
  | d :: ds, 0, h => bP_top d ds
  | d :: ds, q + 1, h => by
    have h2 : q < ds.length := Nat.lt_of_succ_lt_succ h
    rw [List.length_cons, show ds.length + 1 - 1 - (q + 1) = ds.length - 1 - q by omega, bP_low d ds (by omega), bP_bit ds q h2, List.getElem_cons_succ]
theorem bP_pc : ∀ ds : List Bool, ds.length ≤ 7 → pc (bP ds) = ds.count true
  | [], _ => by decide
  | d :: ds, h => by
    have l := bP_lt ds
    have h1 : ds.length + 1 ≤ 7 := h
    have h7 : (2 : Nat) ^ ds.length ≤ 2 ^ 6 := Nat.pow_le_pow_right (by decide) (by omega)
    rw [bP, List.count_cons, ← bP_pc ds (by omega)]
    cases d
    · simp
    · have e : 2 ^ ds.length + bP ds = bP ds ||| 2 ^ ds.length := by
        apply Nat.eq_of_testBit_eq
        intro j
        rw [Nat.testBit_or, Nat.testBit_two_pow]
        by_cases z : ds.length = j
        · subst z
          rw [Nat.testBit_two_pow_add_eq, Nat.testBit_lt_two_pow l, decide_eq_true rfl]
          rfl
        · rw [decide_eq_false z, Bool.or_false]
          by_cases y : j < ds.length
          · rw [Nat.testBit_two_pow_add_gt y]
          · rw [Nat.testBit_lt_two_pow (Nat.lt_of_lt_of_le l (Nat.pow_le_pow_right (by decide) (by omega))), Nat.testBit_lt_two_pow]
            have : (2 : Nat) ^ (ds.length + 1) ≤ 2 ^ j := Nat.pow_le_pow_right (by decide) (by omega)
            rw [Nat.pow_succ] at this
            omega
      rw [if_pos rfl, e, pc_or (by omega) (by omega) (Nat.testBit_lt_two_pow l)]
      simp
theorem hd_bP {c : Nat} {ds : List Bool} (h : ds.length = c) : (List.range c).map (hdP c (bP ds)) = ds := by
  apply List.ext_getElem
  · rw [List.length_map, List.length_range, h]
  · intro i h1 h2
    rw [List.getElem_map, List.getElem_range]
    show (bP ds).testBit (c - 1 - i) = ds[i]
    rw [← h]
    exact bP_bit ds i h2
theorem bP_hd {c p : Nat} (hp : p < 2 ^ c) : bP ((List.range c).map (hdP c p)) = p := by
  have len : ((List.range c).map (hdP c p)).length = c := by rw [List.length_map, List.length_range]
  have lt := bP_lt ((List.range c).map (hdP c p))
  rw [len] at lt
  apply Nat.eq_of_testBit_eq
  intro j
  by_cases z : j < c
  · have := bP_bit ((List.range c).map (hdP c p)) (c - 1 - j) (by rw [len]; omega)
    rw [List.getElem_map, List.getElem_range] at this
    have e1 : ((List.range c).map (hdP c p)).length - 1 - (c - 1 - j) = j := by omega
    rw [e1] at this
    rw [this]
    show p.testBit (c - 1 - (c - 1 - j)) = _
    rw [show c - 1 - (c - 1 - j) = j by omega]
  · rw [Nat.testBit_lt_two_pow (Nat.lt_of_lt_of_le lt (Nat.pow_le_pow_right (by decide) (by omega))), Nat.testBit_lt_two_pow (Nat.lt_of_lt_of_le hp (Nat.pow_le_pow_right (by decide) (by omega)))]
theorem exN_eW {T : aT} {L : aL} {G : aG} {h s l0 N : Nat} (hs : s < 128) : exN T L G h s l0 N ↔ eW (tHome T) (wN T L G h) s N 0 0 (2 * l0) := by
  have c7 := cS_7 (s := s)
  have ec : pc s = cS s := (rowL_pc (z := 0) hs).symm
  have e0 : eW (tHome T) (wN T L G h) s N 0 0 (2 * l0) ↔ eV (tHome T) (wN T L G h) s N (cS s) 0 0 l0 false := by
    have := eW_at (ho := tHome T) (W := wN T L G h) (s := s) (N := N) (X := 0) (h := 0) (la := l0) (ab := false)
    rw [show pc s - pc 0 = cS s by rw [ec]; rfl] at this
    exact this
  rw [e0]
  constructor
  · rintro ⟨x, hx, p, hp, g⟩
    unfold gp at g
    obtain ⟨g1, g2⟩ := Bool.and_eq_true_iff.mp g
    have g1 := of_decide_eq_true g1
    rw [gdR_list hx] at g2
    refine ⟨x.map (eI s), ?_, (List.range (cS s)).map (hdP (cS s) p), by rw [List.length_map, List.length_range], ?_, g2⟩
    · rw [pL_men]
      exact List.mem_map.mpr ⟨x, hx, rfl⟩
    · rw [Nat.zero_add, ← bP_pc _ (by rw [List.length_map, List.length_range]; exact c7), bP_hd hp]
      exact g1
  · rintro ⟨l, hl, ds, h1, h2, h3⟩
    rw [pL_men] at hl
    obtain ⟨x, hx, rfl⟩ := List.mem_map.mp hl
    refine ⟨x, hx, bP ds, by rw [← h1]; exact bP_lt ds, ?_⟩
    unfold gp
    rw [gdR_list hx, hd_bP h1, h3, decide_eq_true (show pc (bP ds) = N by rw [bP_pc ds (by omega)]; omega)]
    rfl
/-- the class finds as few as the reference -/
theorem few_alike {T : aT} {L : aL} {G : aG} {h s l0 N0 N1 most : Nat} {R : Nat → Nat} (hs0 : 0 < s) (hs : s < 128) (hm : cS s ≤ most) (F : FewR T (tHome T) (wN T L G h) s l0 most N0 R) (a : ∀ N', N' < N1 → ¬ exN T L G h s l0 N') (b : exN T L G h s l0 N1) : N0 = N1 ∧ N0 ≤ most := by
  have n1 : N1 ≤ cS s := by
    by_cases z : N1 ≤ cS s
    · exact z
    · exact absurd (exN_all hs0 hs) (a (cS s) (by omega))
  have le : N0 ≤ N1 := by
    by_cases z : N0 ≤ N1
    · exact z
    · exact absurd ((exN_eW hs).mp b) (F.1 N1 (by omega) (by omega))
  refine ⟨?_, by omega⟩
  by_cases z : N0 < N1
  · exact absurd ((exN_eW hs).mpr (F.2.1 (by omega)).1) (a N0 z)
  · omega
theorem FstP.ex {T : aT} {L : aL} {G : aG} {h s l0 N : Nat} {y : List Nat} {p : Nat} (H : FstP T L G h s l0 N (pL (cS s) (List.range (cS s))) y p) : exN T L G h s l0 N ∧ y ∈ pL (cS s) (List.range (cS s)) := by
  obtain ⟨pre, post, e, -, b1, b2, -⟩ := H
  have hy : y ∈ pL (cS s) (List.range (cS s)) := by
    rw [e]
    exact List.mem_append_right _ (List.mem_cons_self ..)
  exact ⟨⟨y, hy, p, b1, b2⟩, hy⟩
theorem sim_wishers {i : Nat} {σC σM : bS} (hi : i ≤ 3072) (h : Rel i σC σM) (x y : Int32) : Sim_wishers (Rel (i + 6)) x y σC σM := by
  have hrel := h
  obtain ⟨T, L, G, H⟩ := h
  have H : RelB i T L G σC σM := H
  have hM := H.1.2.2.2.1
  have h7 : (2 : Nat) ^ tM T ≤ 2 ^ 7 := Nat.pow_le_pow_right (by decide) hM
  obtain ⟨hr, r1, r2, r3⟩ := Rel.hour H.2.2.2.2.2.1 hi
  rcases row_cases (n := 6000) (n1 := 6000) (by omega) (by omega) H x y with ⟨a1, a2⟩ | ⟨b, s, hb, h0, hs, rfl, rfl, a2, ⟨a3, a4⟩ | ⟨a3, a4, a5⟩⟩
  · refine ⟨6000, 6000, -1, σC, σM, ?_, ?_, hrel.mono (by omega)⟩
    · unfold cTop_wishers
      rw [a1, ob_def, if_neg m1_ne]
    · unfold m_wishers
      rw [a2, ob_def, if_pos rfl, cim1]
  · refine ⟨6000, 6000, -2, σC, uI σM 0 40 ci_0, ?_, ?_, hrel.of (by omega) frC.rf frQw⟩
    · unfold cTop_wishers
      rw [a3, ob_def, if_neg m2_ne]
    · unfold m_wishers
      rw [a2, ob_def, if_neg one_ne, a4, ob_def, if_pos rfl, m_wishers_b31, cbm2]
  · have h3 : MTx T L (uI σM 0 40 ci_0) := H.2.2.1.of (fun _ _ _ => rfl)
    have p7 := pc_le (s := s)
    obtain ⟨l0, σ1, c1, c2, c3, c4, c5⟩ := c_prepE (n := 6000) (x := 2) (by omega) H.1 H.2.1 H.2.2.2.1 (H.2.2.2.2.2.1.2.1 b hb) hb hs (by omega) (by omega) r2
    obtain ⟨N0, σ2, R2, d1, d2, d3, d4⟩ := c_few (n := 6000) (most := pc s) (by omega) H.1 h0 hs p7 (Or.inr rfl) (by omega) c4 c2
    obtain ⟨N1, yy, p, σ3, g1, g2, g3, g4, g5, g6, g7⟩ := m_few (n := 6000) (l0 := l0) (σ := uI σM 0 40 ci_0) (by omega) H.1 (H.2.2.2.2.2.1.up hi) r2 (by omega) hb h0 hs a5 c2.2.2.2.2.1 c2.2.2.2.1 h3 H.2.2.2.2.1
    obtain ⟨e1, e2⟩ := few_alike (h := hr) h0 (by omega) (Nat.le_of_eq (rowL_pc (z := 0) (by omega))) d3 g1 g3.ex.1
    subst e1
    refine ⟨6000, 6000, nI N0, σ2, σ3, ?_, ?_, hrel.of (by omega) ((c3.mono sc_59).trans (d4.mono (fun a z => by unfold scrC; omega))) (frQw.trans g7)⟩
    · unfold cTop_wishers
      have e11 : sI σ1 59 11 = nI (pc s) := c2.2.1
      rw [a3, ob_def, if_pos rfl, show cRows_prepare 6000 (nI b) (nI s) ci_2 σC = some σ1 from c1, ob_def, e11, d1, ob_def]
    · unfold m_wishers
      rw [a2, ob_def, if_neg one_ne, a4, ob_def, if_neg one_ne, g4, ob_def, m_wishers_b31]
