/-! a row goes, one after another (no hires): R p is the p-th -/
theorem sWish_congr {T : aT} {L : aL} {G G' : aG} {m h : Nat} {la : Int32} (e5 : G 5 m = G' 5 m) (e7 : G 7 m = G' 7 m) (e8 : G 8 m = G' 8 m) (e9 : G 9 m = G' 9 m) : sWish T L G m la h = sWish T L G' m la h := by
  have e : vr T G m la = vr T G' m la := by
    funext x k
    unfold vr
    rw [e5, e7, e8, e9]
  unfold sWish
  simp only [e]
/-- how it is when p of the row have gone -/
def rwG (T : aT) (L : aL) (b h : Nat) (R : Nat → Nat) (G : aG) : Nat → aG
  | 0 => G
  | p + 1 => sStep T L (rwG T L b h R G p) (R p) b (sWish T L (rwG T L b h R G p) (R p) (rwG T L b h R G p 3 b) (h + p)) (h + p)
theorem rwG_h {T : aT} {L : aL} {b h : Nat} {R : Nat → Nat} {G : aG} (hh : G 0 0 = nI h) : ∀ p, rwG T L b h R G p 0 0 = nI (h + p)
  | 0 => hh
  | p + 1 => rfl
theorem rwG_inv {T : aT} {L : aL} {b h : Nat} {R : Nat → Nat} {G : aG} (hI : InvT T L) (hi : InvG T 5000 G) (hb : b < tG T) : ∀ p, (∀ q, q < p → R q < tM T) → h + p ≤ 170000 → InvG T 5000 (rwG T L b h R G p)
  | 0, _, _ => hi
  | p + 1, hR, hp => sStep_inv hI (rwG_inv hI hi hb p (fun q hq => hR q (by omega)) (by omega)) (hR p (by omega)) hb (sWish_in hI (hR p (by omega))) (by omega)
/-- who has not gone yet is as before -/
theorem rwG_keep {T : aT} {L : aL} {b h m : Nat} {R : Nat → Nat} {G : aG} (hb : b < 2 ^ 31) (on : G 6 m = -1) : ∀ p, (∀ q, q < p → ¬ R q = m) → rwG T L b h R G p 5 m = G 5 m ∧ rwG T L b h R G p 6 m = -1 ∧ rwG T L b h R G p 7 m = G 7 m ∧ rwG T L b h R G p 8 m = G 8 m ∧ rwG T L b h R G p 9 m = G 9 m
  | 0, _ => ⟨rfl, on, rfl, rfl, rfl⟩
  | p + 1, hR => by
    obtain ⟨a5, a6, a7, a8, a9⟩ := rwG_keep (L := L) (T := T) (h := h) hb on p (fun q hq => hR q (by omega))
    have ne : ¬ m = R p := fun z => hR p (by omega) z.symm
    have nb : ¬ rwG T L b h R G p 6 m = nI b := fun z => nI_m1 hb (z.symm.trans a6)
    refine ⟨?_, ?_, a7, ?_, ?_⟩
    · show (if rwG T L b h R G p 3 b < 0 then (if m = R p then -1 else rwG T L b h R G p 5 m) else if m = R p ∨ (m < tM T ∧ rwG T L b h R G p 6 m = nI b) then rwG T L b h R G p 3 b else rwG T L b h R G p 5 m) = _
      rw [if_neg ne, if_neg (show ¬ (m = R p ∨ (m < tM T ∧ rwG T L b h R G p 6 m = nI b)) from fun z => z.elim ne (fun y => nb y.2))]
      split <;> exact a5
    · show (if rwG T L b h R G p 3 b < 0 then (if m = R p then nI b else rwG T L b h R G p 6 m) else if m = R p ∨ (m < tM T ∧ rwG T L b h R G p 6 m = nI b) then -1 else rwG T L b h R G p 6 m) = _
      rw [if_neg ne, if_neg (show ¬ (m = R p ∨ (m < tM T ∧ rwG T L b h R G p 6 m = nI b)) from fun z => z.elim ne (fun y => nb y.2))]
      split <;> exact a6
    · show (if m = R p then _ else rwG T L b h R G p 8 m) = _
      rw [if_neg ne]
      exact a8
    · show (if m = R p then _ else rwG T L b h R G p 9 m) = _
      rw [if_neg ne]
      exact a9
/-- a row of c, all at the FOOT, none twice -/
def isRow (T : aT) (G : aG) (b c : Nat) (R : Nat → Nat) : Prop := (∀ q, q < c → R q < tM T ∧ G 5 (R q) = nI (tFoot T b) ∧ G 6 (R q) = -1) ∧ ∀ p q, p < q → q < c → ¬ R p = R q
/-- the wish of the next one, by what was ahead of all -/
theorem rwG_wish {T : aT} {L : aL} {b h c p : Nat} {R : Nat → Nat} {G : aG} {la : Int32} {x : Nat} (hb : b < 2 ^ 31) (hr : isRow T G b c R) (hp : p < c) : sWish T L (rwG T L b h R G p) (R p) la x = sWish T L G (R p) la x := by
  obtain ⟨a5, a6, a7, a8, a9⟩ := rwG_keep (L := L) (T := T) (h := h) (R := R) (G := G) hb (hr.1 p hp).2.2 p (fun q hq => hr.2 q p hq hp)
  exact sWish_congr a5 a7 a8 a9
theorem m_row_l {T : aT} {L : aL} {n b h c : Nat} {R : Nat → Nat} {G : aG} (hn : 1000 ≤ n) (hI : InvT T L) (hi : InvG T 5000 G) (hh : G 0 0 = nI h) (hb : b < tG T) (hc : c ≤ 7) (hr : isRow T G b c R) (hx : h + 20 ≤ 170000) : ∀ (k p : Nat) (σ : bS), MTx T L σ → MG T 48 (rwG T L b h R G p) σ → σ.1 0 40 = nI 48 → σ.1 0 49 = nI c → σ.1 0 53 = 0 → (∀ q, q < c → σ.2.1 34 q = nI (R q)) → (∀ q, q < c → σ.2.1 35 q = 0) → p ≤ c → c < p + k → ∃ σ', m_rowGoes_b6 n k (nI b) (nI p) σ = some σ' ∧ MG T 48 (rwG T L b h R G c) σ' ∧ frR 48 σ σ'
  | 0, p, σ, hT, hG, hw, h49, h53, h34, h35, h1, h2 => by omega
  | k + 1, p, σ, hT, hG, hw, h49, h53, h34, h35, h1, h2 => by
    have hGG := hI.2.2.1
    have hMM := hI.2.2.2.1
    have hf := hI.2.2.2.2.1 b hb
    have e49 : sI σ 0 49 = nI c := h49
    rw [m_rowGoes_b6, e49]
    by_cases hp : p < c
    · have e35 : sA σ 35 (nI p) = 0 := (sA_n _ _ (by omega)).trans (h35 p hp)
      have e34 : sA σ 34 (nI p) = nI (R p) := (sA_n _ _ (by omega)).trans (h34 p hp)
      have e53 : sI σ 0 53 = 0 := h53
      obtain ⟨a5, a6, a7, a8, a9⟩ := rwG_keep (L := L) (T := T) (h := h) (R := R) (G := G) (show b < 2 ^ 31 by omega) (hr.1 p hp).2.2 p (fun q hq => hr.2 q p hq hp)
      have hm := (hr.1 p hp).1
      have ip := rwG_inv (h := h) (L := L) (R := R) hI hi hb p (fun q hq => (hr.1 q (by omega)).1) (by omega)
      have hat : rwG T L b h R G p 5 (R p) = nI (tFoot T b) := a5.trans (hr.1 p hp).2.1
      obtain ⟨σ1, c1, c2⟩ := m_wishOf_eq (h := h + p) hn hI hT hG hw (by omega) hm hb (by omega) (rwG_h hh p) hf hat (ip.2.1 b hb)
      obtain ⟨σ2, d1, d2, d3⟩ := m_step (p := p) (h := h + p) (r6 := m_rowGoes_b6 n k) hn hI (hT.scr c2) (hG.scr c2) ip ((c2.1 40 (by decide)).trans hw) (by omega) hm hb (rwG_h hh p) a6 (sWish_in (L := L) (G := rwG T L b h R G p) (la := rwG T L b h R G p 3 b) (h := h + p) hI hm)
      rw [if_neg (nI_ge hp (by omega)), bin_nI (by omega) (by decide), bin_nI (by omega) (by decide), e35, if_pos rfl, e34]
      unfold m_rowGoes_b62
      rw [e53, if_pos rfl, c1, ob_def]
      rw [d1]
      obtain ⟨σ3, g1, g2, g3⟩ := m_row_l hn hI hi hh hb hc hr hx k (p + 1) σ2 ((hT.scr c2).go d3) d2 ((d3.1 40 (by decide)).trans ((c2.1 40 (by decide)).trans hw)) ((d3.1 49 (by decide)).trans ((c2.1 49 (by decide)).trans h49)) ((d3.1 53 (by decide)).trans ((c2.1 53 (by decide)).trans h53)) (fun q hq => by rw [d3.2.1 34 (by decide), c2.2.1 34 (by decide)]; exact h34 q hq) (fun q hq => by rw [d3.2.1 35 (by decide), c2.2.1 35 (by decide)]; exact h35 q hq) hp (by omega)
      exact ⟨σ3, g1, g2, ((frR.scr c2).trans d3).trans g3⟩
    · have e : p = c := by omega
      subst e
      rw [if_pos (Int32.le_refl _)]
      exact ⟨σ, rfl, hG, frR.rf⟩
theorem m_row {T : aT} {L : aL} {n b h c : Nat} {R : Nat → Nat} {G : aG} {σ : bS} (hn : 1000 ≤ n) (hI : InvT T L) (hT : MTx T L σ) (hG : MG T 0 G σ) (hi : InvG T 5000 G) (hh : G 0 0 = nI h) (hb : b < tG T) (hc : c ≤ 7) (hr : isRow T G b c R) (hx : h + 20 ≤ 170000) (h49 : σ.1 0 49 = nI c) (h53 : σ.1 0 53 = 0) (h34 : ∀ q, q < c → σ.2.1 34 q = nI (R q)) (h35 : ∀ q, q < c → σ.2.1 35 q = 0) : ∃ σ', m_rowGoes n (nI b) σ = some σ' ∧ MG T 48 (rwG T L b h R G c) σ' ∧ σ'.1 0 40 = nI 48 ∧ (∀ k, ¬ (k = 40 ∨ k = 46) → σ'.1 0 k = σ.1 0 k) ∧ (∀ a, ¬ (a = 29 ∨ a = 31 ∨ a = 32) → σ'.2.1 a = σ.2.1 a) ∧ frQ σ σ' := by
  have hT7 : tG T ≤ 4 ∧ tM T ≤ 7 := ⟨hI.2.2.1, hI.2.2.2.1⟩
  obtain ⟨σ1, d1, d2, d3⟩ := m_copy (n := n) (a := 0) (b := 48) (σ := σ) (by omega) (by omega) (by omega) (by omega)
  obtain ⟨σ1', t1, t2, t3, t4, t5⟩ := m_tries_eq (T := T) (n := n) (by omega) hT7 hG
  have et : m_tries n σ = some (uI σ1 0 40 cb_48) := by
    unfold m_tries
    rw [cb_48_n, show m_copies n ci_0 (nI 48) σ = some σ1 from d1, ob_def]
  have es : σ1' = uI σ1 0 40 cb_48 := Option.some.inj (t1.symm.trans et)
  have i1 : ∀ k, ¬ k = 40 → σ1'.1 0 k = σ.1 0 k := fun k hk => by
    rw [es, uI_1, if_neg (fun z => hk z.2), d3.1 k (fun z => z)]
  obtain ⟨σ2, c1, c2, c3⟩ := m_row_l hn hI hi hh hb hc hr hx n 0 σ1' (hT.of (fun a x y => t5 a (by omega))) t2 t3 ((i1 49 (by decide)).trans h49) ((i1 53 (by decide)).trans h53) (fun q hq => by rw [t5 34 (by decide)]; exact h34 q hq) (fun q hq => by rw [t5 35 (by decide)]; exact h35 q hq) (by omega) (by omega)
  refine ⟨σ2, ?_, c2, (c3.1 40 (by decide)).trans t3, fun k hk => (c3.1 k (by omega)).trans (i1 k (by omega)), fun a ha => (c3.2.1 a ha).trans (t5 a (by omega)), t4.trans (frQ.ofR48 c3)⟩
  unfold m_rowGoes
  rw [t1, ob_def]
  exact c1
