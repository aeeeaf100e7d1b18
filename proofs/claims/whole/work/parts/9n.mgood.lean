/-! the reference's orders: which are good, which is the first -/
theorem pL_mem : ∀ (k : Nat) (l r : List Nat), l.Nodup → r ∈ pL k l → r.Nodup ∧ ∀ x, x ∈ r → x ∈ l
  | 0, l, r, hl, h => by
    have : r = [] := List.mem_singleton.mp h
    subst this
    exact ⟨List.Pairwise.nil, fun x hx => by cases hx⟩
  | k + 1, l, r, hl, h => by
    rw [pL] at h
    obtain ⟨m, hm, h2⟩ := List.mem_flatMap.mp h
    obtain ⟨t, h3, rfl⟩ := List.mem_map.mp h2
    obtain ⟨i1, i2⟩ := pL_mem k _ t (hl.erase m) h3
    refine ⟨List.nodup_cons.mpr ⟨fun z => ?_, i1⟩, fun x hx => ?_⟩
    · have := (hl.mem_erase_iff).mp (i2 m z)
      exact this.1 rfl
    · rcases List.mem_cons.mp hx with rfl | hx
      · exact hm
      · exact ((hl.mem_erase_iff).mp (i2 x hx)).2
theorem pL_at {c : Nat} {l : List Nat} (h : l ∈ pL c (List.range c)) : (∀ q, q < c → l.getD q 0 < c) ∧ ∀ p q, p < q → q < c → ¬ l.getD p 0 = l.getD q 0 := by
  have hl := pL_len c _ _ h
  obtain ⟨a, b⟩ := pL_mem c _ _ List.nodup_range h
  refine ⟨fun q hq => ?_, fun p q hpq hq => ?_⟩
  · rw [getD_get (by omega)]
    exact List.mem_range.mp (b _ (List.getElem_mem _))
  · rw [getD_get (by omega), getD_get (by omega)]
    exact List.pairwise_iff_getElem.mp a p q (by omega) (by omega) hpq
/-- the q-th of the set by numbers -/
abbrev eS (s : Nat) (q : Nat) : Nat := (rowL 7 s 0).getD q 0
abbrev cS (s : Nat) : Nat := (rowL 7 s 0).length
theorem rowL_lt (s : Nat) : (rowL 7 s 0).Pairwise (fun a b => a < b) := by
  rw [rowL0]
  unfold fL
  exact List.Pairwise.filter _ List.pairwise_lt_range
theorem eS_mono (s : Nat) : ∀ a b, a < cS s → b < cS s → (eS s a ≤ eS s b ↔ a ≤ b) := fun a b ha hb => by
  have lt : ∀ x y, x < y → y < cS s → eS s x < eS s y := fun x y hxy hy => by
    show (rowL 7 s 0).getD x 0 < (rowL 7 s 0).getD y 0
    have hx : x < (rowL 7 s 0).length := Nat.lt_trans hxy hy
    rw [getD_get hx, getD_get hy]
    exact List.pairwise_iff_getElem.mp (rowL_lt s) x y hx hy hxy
  constructor
  · intro h
    by_cases z : a ≤ b
    · exact z
    · have := lt b a (by omega) ha
      omega
  · intro h
    by_cases z : a = b
    · subst z
      exact Nat.le_refl _
    · exact Nat.le_of_lt (lt a b (by omega) hb)
theorem eS_7 {s a : Nat} (h : a < cS s) : eS s a < 7 ∧ s.testBit (eS s a) = true := by
  show (rowL 7 s 0).getD a 0 < 7 ∧ s.testBit ((rowL 7 s 0).getD a 0) = true
  rw [getD_get h]
  exact mem_rowL (List.getElem_mem h)
/-- WISH as a number from 0 on -/
def wN (T : aT) (L : aL) (G : aG) (h m la t : Nat) : Nat := if sWish T L G m (lI la) (h + t) < 0 then 0 else (sWish T L G m (lI la) (h + t)).toNatClampNeg + 1
theorem wN_is {T : aT} {L : aL} {G : aG} {h m la t : Nat} (hI : InvT T L) (hm : m < tM T) : sWish T L G m (lI la) (h + t) = lI (wN T L G h m la t) ∧ wN T L G h m la t ≤ tB T := by
  have hB := hI.1
  unfold wN
  rcases sWish_in (L := L) (G := G) (la := lI la) (h := h + t) hI hm with e | ⟨j, hj, e⟩
  · rw [e, if_pos (by decide)]
    exact ⟨rfl, by omega⟩
  · rw [e, if_neg (nI_pos (by omega)), nI_clamp (by omega), lI_S]
    exact ⟨rfl, by omega⟩
/-- an order, with hires, brings all home -/
noncomputable def gdR (T : aT) (L : aL) (G : aG) (h s l0 : Nat) (hd : Nat → Bool) (l : List Nat) : Bool := okP (rP (tHome T) (wN T L G h) (fun q => eS s (l.getD q 0)) hd l0 (cS s))
/-- what stands while the reference goes over the orders -/
def MO (T : aT) (L : aL) (G : aG) (s : Nat) (l : List Nat) (σ : bS) : Prop := MTx T L σ ∧ MG T 0 G σ ∧ RowX (eS s) (fun i => l.getD i 0) (cS s) σ ∧ σ.1 0 53 = 0
theorem cS_7 {s : Nat} : cS s ≤ 7 := rowL_len (by omega)
theorem row_of {T : aT} {L : aL} {b s : Nat} {G : aG} {l : List Nat} (hI : InvT T L) (hi : InvG T 5000 G) (hb : b < tG T) (hs : s < 2 ^ tM T) (hf : ∀ m, s.testBit m = true → m < tM T ∧ G 5 m = nI (tFoot T b)) (hl : l ∈ pL (cS s) (List.range (cS s))) : isRow T G b (cS s) (fun q => eS s (l.getD q 0)) := by
  have hr := rowL_row7 (z := 0) hI hi hb hs hf
  obtain ⟨a, d⟩ := pL_at hl
  refine ⟨fun q hq => hr.1 _ (a q hq), fun p q hpq hq e => ?_⟩
  have := d p q hpq hq
  have m1 := eS_mono s _ _ (a p (by omega)) (a q hq)
  have m2 := eS_mono s _ _ (a q hq) (a p (by omega))
  have e : eS s (l.getD p 0) = eS s (l.getD q 0) := e
  omega
/-- one order is tried -/
theorem m_one {T : aT} {L : aL} {n b h s l0 : Nat} {G : aG} {l : List Nat} {hd : Nat → Bool} {σ : bS} (hn : 1000 ≤ n) (hI : InvT T L) (hi : InvG T 5000 G) (hh : G 0 0 = nI h) (hx : h + 20 ≤ 170000) (hb : b < tG T) (hs0 : 0 < s) (hs : s < 2 ^ tM T) (hf : ∀ m, s.testBit m = true → m < tM T ∧ G 5 m = nI (tFoot T b)) (hl0 : l0 ≤ tB T) (hG3 : G 3 b = lI l0) (hl : l ∈ pL (cS s) (List.range (cS s))) (H : MO T L G s l σ) (h35 : ∀ q, q < cS s → σ.2.1 35 q = if hd q = true then 1 else 0) : ∃ σ', m_rowGoes n (nI b) σ = some σ' ∧ m_areHome n σ' = some (if gdR T L G h s l0 hd l = true then 1 else 0, σ') ∧ MO T L G s l σ' ∧ frX σ σ' ∧ frQ σ σ' := by
  have hM := hI.2.2.2.1
  have h7 : (2 : Nat) ^ tM T ≤ 2 ^ 7 := Nat.pow_le_pow_right (by decide) hM
  obtain ⟨hT, hG, hR, h53⟩ := H
  obtain ⟨σ1, g1, g2, g3, g4, g5, g6⟩ := m_goes (n := n) (R := fun q => eS s (l.getD q 0)) (hd := hd) (W := wN T L G h) (ω := fun m la t => sWish T L G m la (h + t)) (Q := fun σ => σ.1 0 53 = 0) hn hI hT hG hi hh hb (rowL_pos (z := 0) hs0 (by omega)) cS_7 (row_of hI hi hb hs hf hl) hx hl0 hG3 (fun m la t hm _ => sWish_in hI hm) (fun m la t hm _ => wN_is hI hm) (wsh_plain hn hI hb) (fun σ σ' hq fx => (fx.1 53 (by decide)).trans hq) h53 hR.1 hR.2 h35
  refine ⟨σ1, g1, g2, ⟨g5, g6, ⟨(g3.1 49 (by decide)).trans hR.1, fun q hq => ?_⟩, (g3.1 53 (by decide)).trans h53⟩, g3, g4⟩
  rw [g3.2 34 (by decide)]
  exact hR.2 q hq
theorem MO.fr {T : aT} {L : aL} {G : aG} {s : Nat} {l l' : List Nat} {σ σ' : bS} (hI : InvT T L) (H : MO T L G s l σ) (f : frQ σ σ') (h53 : σ'.1 0 53 = σ.1 0 53) (hR : RowX (eS s) (fun i => l'.getD i 0) (cS s) σ') : MO T L G s l' σ' := ⟨H.1.of (fun a x y => f.2.1 a (by unfold scrA; omega)), H.2.1.of ⟨hI.2.2.1, hI.2.2.2.1⟩ (fun j x y => f.2.2 j (by omega)), hR, h53.trans H.2.2.2⟩
/-- the next order -/
theorem m_nextO {T : aT} {L : aL} {G : aG} {n s : Nat} {l : List Nat} {t : List (List Nat)} {σ : bS} (hn : 20 ≤ n) (hI : InvT T L) (hs0 : 0 < s) (hs : s < 128) (hck : chk (cS s) (l :: t) = true) (hl : l ∈ pL (cS s) (List.range (cS s))) (H : MO T L G s l σ) : (t = [] ∧ m_turns n σ = some (0, σ)) ∨ ∃ l' t' σ', t = l' :: t' ∧ m_turns n σ = some (1, σ') ∧ chk (cS s) t = true ∧ MO T L G s l' σ' ∧ fr34 σ σ' := by
  obtain ⟨a1, a2⟩ := m_turn (n := n) hn (rowL_pos (z := 0) hs0 hs) cS_7 (eS_mono s) (fun a ha => (eS_7 ha).1) H.2.2.1 (pL_at hl).1
  rcases chk_next hck with ⟨e1, e2⟩ | ⟨l', t', r, e1, e2, e3, e4⟩
  · exact Or.inl ⟨e1, a1 e2⟩
  · obtain ⟨σ', b1, b2, b3, b4⟩ := a2 r e2
    refine Or.inr ⟨l', t', σ', e1, b1, e4, H.fr hI (frQ.ofM b4 (fun k z => z.elim) (fun a z => by unfold scrA; omega)) (b4.1 53 (fun z => z)) ⟨b2.1, fun q hq => ?_⟩, b4⟩
    rw [b2.2 q hq, e3 q hq]
theorem m_bestR_l {T : aT} {L : aL} {G : aG} {n s : Nat} {l : List Nat} {r11 : Int32 → Int32 → Int32 → bS → Option (Int32 × bS)} {x1 x3 : Int32} : ∀ (k j : Nat) (σ : bS), MO T L G s l σ → (∀ q, q < j → σ.2.1 37 q = nI (eS s (l.getD q 0))) → j ≤ cS s → cS s < j + k → ∃ σ', m_goodRows_b35 n r11 k x1 x3 (nI j) σ = m_goodRows_b64 n r11 x1 x3 σ' ∧ (∀ q, q < cS s → σ'.2.1 37 q = nI (eS s (l.getD q 0))) ∧ frM (fun _ => False) (fun a => a = 37) σ σ'
  | 0, j, σ, H, a, h1, h2 => by omega
  | k + 1, j, σ, H, a, h1, h2 => by
    have c7 := cS_7 (s := s)
    have e49 : sI σ 0 49 = nI (cS s) := H.2.2.1.1
    rw [m_goodRows_b35, e49]
    by_cases hj : j < cS s
    · have e34 : sA σ 34 (nI j) = nI (eS s (l.getD j 0)) := (sA_n _ _ (by omega)).trans (H.2.2.1.2 j hj)
      rw [if_neg (nI_ge hj (by omega)), bin_nI (by omega) (by decide), bin_nI (by omega) (by decide), e34, ci1_nI, nI_add]
      obtain ⟨σ2, c1, c2, c3⟩ := m_bestR_l (T := T) (L := L) (G := G) (n := n) (r11 := r11) (x1 := x1) (x3 := x3) k (j + 1) (uA σ 37 (nI j) (nI (eS s (l.getD j 0)))) ⟨H.1.of (fun a x y => uA_o _ _ _ _ (by omega)), H.2.1, ⟨H.2.2.1.1, fun q hq => by rw [uA_o _ _ _ _ (by decide)]; exact H.2.2.1.2 q hq⟩, H.2.2.2⟩ (fun q hq => by
        rw [uA_2, nI_clamp (by omega)]
        by_cases z : q = j
        · subst z
          rw [if_pos ⟨rfl, rfl⟩]
        · rw [if_neg (fun u => z u.2)]
          exact a q (by omega)) hj (by omega)
      exact ⟨σ2, c1, c2, frM.trans (frM.uA (PI := fun _ => False) (PA := fun a => a = 37) rfl) c3⟩
    · have e : j = cS s := by omega
      rw [if_pos (by rw [e]; exact Int32.le_refl _)]
      exact ⟨σ, rfl, fun q hq => a q (by omega), frM.rf⟩
theorem m_good_l {T : aT} {L : aL} {n b h s l0 : Nat} {G : aG} (hn : 1000 ≤ n) (hI : InvT T L) (hi : InvG T 5000 G) (hh : G 0 0 = nI h) (hx : h + 20 ≤ 170000) (hb : b < tG T) (hs0 : 0 < s) (hs : s < 2 ^ tM T) (hf : ∀ m, s.testBit m = true → m < tM T ∧ G 5 m = nI (tFoot T b)) (hl0 : l0 ≤ tB T) (hG3 : G 3 b = lI l0) : ∀ (t : List (List Nat)) (l : List Nat) (k cnt : Nat) (σ : bS), chk (cS s) (l :: t) = true → (∀ x, x ∈ l :: t → x ∈ pL (cS s) (List.range (cS s))) → MO T L G s l σ → (∀ q, q < cS s → σ.2.1 35 q = 0) → t.length + 1 < k → cnt + t.length + 1 < 2 ^ 31 → ∃ σ', m_goodRows_b11 n k (nI b) (nI cnt) ci_1 σ = some (nI (cnt + (l :: t).countP (gdR T L G h s l0 (fun _ => false))), σ') ∧ (∀ y, cnt = 0 → (l :: t).find? (gdR T L G h s l0 (fun _ => false)) = some y → ∀ q, q < cS s → σ'.2.1 37 q = nI (eS s (y.getD q 0))) ∧ (0 < cnt → σ'.2.1 37 = σ.2.1 37) ∧ σ'.1 0 49 = nI (cS s) ∧ frQ σ σ'
  | t, l, 0, cnt, σ, hck, hmem, H, h35, hk, hc => by omega
  | t, l, k + 1, cnt, σ, hck, hmem, H, h35, hk, hc => by
    have hM := hI.2.2.2.1
    have h7 : (2 : Nat) ^ tM T ≤ 2 ^ 7 := Nat.pow_le_pow_right (by decide) hM
    have c7 := cS_7 (s := s)
    have hl := hmem l (List.mem_cons_self ..)
    obtain ⟨σ1, a1, a2, a3, a4, a5⟩ := m_one (n := n) (hd := fun _ => false) hn hI hi hh hx hb hs0 hs hf hl0 hG3 hl H (fun q hq => (h35 q hq).trans (if_neg Bool.false_ne_true).symm)
    rw [m_goodRows_b11, if_neg (show ¬ ci_1 = 0 by decide), a1, ob_def, a2, ob_def]
    -- after the order: count cnt', the state σ2
    have next : ∀ (cnt' : Nat) (σ2 : bS), MO T L G s l σ2 → σ2.2.1 35 = σ.2.1 35 → frQ σ σ2 → cnt' + t.length < 2 ^ 31 → ∃ σ', m_goodRows_b67 n (m_goodRows_b11 n k) (nI b) (nI cnt') σ2 = some (nI (cnt' + t.countP (gdR T L G h s l0 (fun _ => false))), σ') ∧ (∀ y, cnt' = 0 → t.find? (gdR T L G h s l0 (fun _ => false)) = some y → ∀ q, q < cS s → σ'.2.1 37 q = nI (eS s (y.getD q 0))) ∧ (0 < cnt' → σ'.2.1 37 = σ2.2.1 37) ∧ σ'.1 0 49 = nI (cS s) ∧ frQ σ σ' := fun cnt' σ2 H2 e35 f2 hc2 => by
      unfold m_goodRows_b67
      rcases m_nextO (n := n) (by omega) hI hs0 (by omega) hck hl H2 with ⟨rfl, e2⟩ | ⟨l', t', σ3, rfl, e2, e3, e4, e5⟩
      · rw [e2, ob_def]
        show ∃ σ', m_goodRows_b11 n k (nI b) (nI cnt') 0 σ2 = _ ∧ _
        rw [show k = (k - 1) + 1 by simp at hk; omega, m_goodRows_b11, if_pos rfl]
        refine ⟨σ2, rfl, (fun y _ hy => by cases hy), fun _ => rfl, H2.2.2.1.1, f2⟩
      · have f3 : frQ σ σ3 := f2.trans (frQ.ofM e5 (fun k z => z.elim) (fun a z => by unfold scrA; omega))
        rw [e2, ob_def]
        show ∃ σ', m_goodRows_b11 n k (nI b) (nI cnt') ci_1 σ3 = _ ∧ _
        obtain ⟨σ4, d1, d2, d3, d4, d5⟩ := m_good_l hn hI hi hh hx hb hs0 hs hf hl0 hG3 t' l' k cnt' σ3 e3 (fun x hx => hmem x (List.mem_cons_of_mem _ hx)) e4 (fun q hq => by rw [e5.2.1 35 (by decide), e35]; exact h35 q hq) (by rw [List.length_cons] at hk; omega) (by rw [List.length_cons] at hc2; omega)
        exact ⟨σ4, d1, d2, fun z => (d3 z).trans (e5.2.1 37 (by decide)), d4, f3.trans d5⟩
    by_cases g : gdR T L G h s l0 (fun _ => false) l = true
    · rw [if_pos g]
      simp only [if_neg one_ne]
      rw [List.countP_cons_of_pos g]
      by_cases z : cnt = 0
      · subst z
        obtain ⟨σ2, b1, b2, b3⟩ := m_bestR_l (T := T) (L := L) (G := G) (n := n) (r11 := m_goodRows_b11 n k) (x1 := nI b) (x3 := nI 0) n 0 σ1 a3 (fun q hq => by omega) (by omega) (by omega)
        have f2 : frQ σ1 σ2 := frQ.ofM b3 (fun k z => z.elim) (fun a z => by unfold scrA; omega)
        obtain ⟨σ3, d1, d2, d3, d4, d5⟩ := next 1 σ2 (a3.fr hI f2 (b3.1 53 (fun z => z)) ⟨(b3.1 49 (fun z => z)).trans a3.2.2.1.1, fun q hq => by rw [b3.2.1 34 (by decide)]; exact a3.2.2.1.2 q hq⟩) (by rw [b3.2.1 35 (by decide), a4.2 35 (by decide)]) (a5.trans f2) (by omega)
        refine ⟨σ3, ?_, fun y _ hy q hq => ?_, fun z => by omega, d4, d5⟩
        · rw [if_pos (show nI 0 = 0 from rfl), show m_goodRows_b35 n (m_goodRows_b11 n k) n (nI b) (nI 0) ci_0 σ1 = _ from b1, m_goodRows_b64, ci1_nI, nI_add, show (0 + 1 : Nat) = 1 from rfl, d1]
          congr 3
          omega
        · rw [List.find?_cons_of_pos g] at hy
          cases hy
          rw [d3 (by omega)]
          exact b2 q hq
      · rw [if_neg (fun u => z (nI_inj (by omega) (by decide) (u.trans (show (0 : Int32) = nI 0 from rfl)))), m_goodRows_b64, ci1_nI, nI_add]
        obtain ⟨σ3, d1, d2, d3, d4, d5⟩ := next (cnt + 1) σ1 a3 (a4.2 35 (by decide)) a5 (by omega)
        refine ⟨σ3, ?_, fun y u => absurd u z, fun _ => (d3 (by omega)).trans (a4.2 37 (by decide)), d4, d5⟩
        rw [d1]
        congr 3
        omega
    · rw [if_neg g]
      simp only [if_true]
      rw [List.countP_cons_of_neg g]
      obtain ⟨σ3, d1, d2, d3, d4, d5⟩ := next cnt σ1 a3 (a4.2 35 (by decide)) a5 (by omega)
      refine ⟨σ3, d1, fun y u hy => ?_, fun u => (d3 u).trans (a4.2 37 (by decide)), d4, d5⟩
      rw [List.find?_cons_of_neg g] at hy
      exact d2 y u hy
theorem pL_count : ∀ c : Fin 8, (pL c.val (List.range c.val)).length ≤ 5040 := by decide +kernel
theorem m_goodR {T : aT} {L : aL} {n b h s l0 : Nat} {G : aG} {σ : bS} (hn : 6000 ≤ n) (hI : InvT T L) (hi : InvG T 5000 G) (hh : G 0 0 = nI h) (hx : h + 20 ≤ 170000) (hb : b < tG T) (hs0 : 0 < s) (hs : s < 2 ^ tM T) (hf : ∀ m, s.testBit m = true → m < tM T ∧ G 5 m = nI (tFoot T b)) (hl0 : l0 ≤ tB T) (hG3 : G 3 b = lI l0) (hT : MTx T L σ) (hG : MG T 0 G σ) : ∃ σ', m_goodRows n (nI b) (nI s) σ = some (nI ((pL (cS s) (List.range (cS s))).countP (gdR T L G h s l0 (fun _ => false))), σ') ∧ (∀ y, (pL (cS s) (List.range (cS s))).find? (gdR T L G h s l0 (fun _ => false)) = some y → ∀ q, q < cS s → σ'.2.1 37 q = nI (eS s (y.getD q 0))) ∧ σ'.1 0 49 = nI (cS s) ∧ frQ σ σ' := by
  have hM := hI.2.2.2.1
  have h7 : (2 : Nat) ^ tM T ≤ 2 ^ 7 := Nat.pow_le_pow_right (by decide) hM
  have c7 := cS_7 (s := s)
  have c0 := rowL_pos (z := 0) hs0 (show s < 128 by omega)
  obtain ⟨σ1, r1, r2, r3, r4⟩ := m_lays_row (n := n) (z := 0) (by omega) hM (show s < 2 ^ 31 by omega) (by decide) hT.1.2.2.2
  rw [← rowL_top hs hM] at r2
  have f1 : frQ σ σ1 := frQ.ofM r4 (fun k z => by unfold scrI; omega) (fun a z => by unfold scrA; omega)
  obtain ⟨ck, t, et⟩ := chk_all c0 c7
  have pc5 := pL_count ⟨cS s, by omega⟩
  have pc5 : (pL (cS s) (List.range (cS s))).length ≤ 5040 := pc5
  rw [et] at ck pc5
  have len : t.length + 1 ≤ 5040 := pc5
  have H1 : MO T L G s (List.range (cS s)) σ1 := ⟨hT.of (fun a x y => f1.2.1 a (by unfold scrA; omega)), hG.of ⟨hI.2.2.1, hM⟩ (fun j x y => f1.2.2 j (by omega)), ⟨r2.1, fun q hq => by
    rw [(r2.2 q hq).1]
    show nI (eS s q) = nI (eS s ((List.range (cS s)).getD q 0))
    rw [getD_get (by rw [List.length_range]; exact hq), List.getElem_range]⟩, r3⟩
  obtain ⟨σ2, d1, d2, d3, d4, d5⟩ := m_good_l (n := n) (by omega) hI hi hh hx hb hs0 hs hf hl0 hG3 t (List.range (cS s)) n 0 σ1 ck (fun x hx => by rw [et]; exact hx) H1 (fun q hq => (r2.2 q hq).2) (by omega) (by omega)
  rw [← et, Nat.zero_add] at d1
  rw [← et] at d2
  refine ⟨σ2, ?_, fun y hy => d2 y rfl hy, d4, f1.trans d5⟩
  unfold m_goodRows
  rw [show m_laysRow n (nI s) ci_0 σ = some σ1 from r1, ob_def]
  exact d1
