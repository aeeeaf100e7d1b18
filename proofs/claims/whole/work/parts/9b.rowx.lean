/-! rows with wishers hired, whatever each wishes: the reference -/
def nh (hd : Nat → Bool) : Nat → Nat
  | 0 => 0
  | p + 1 => nh hd p + (if hd p = true then 1 else 0)
theorem nh_le (hd : Nat → Bool) : ∀ p, nh hd p ≤ p
  | 0 => Nat.le_refl _
  | p + 1 => by
    have := nh_le hd p
    rw [nh]
    split <;> omega
/-- a wisher is hired ahead of m -/
def hX (T : aT) (D : aG) (b m x : Nat) : aG := fun t i => if t = 3 ∧ i = b then nI (tHome T m) else if t = 0 ∧ i = 0 then nI x else D t i
def hD (T : aT) (b h : Nat) (R : Nat → Nat) (hd : Nat → Bool) (D : aG) (p : Nat) : aG := if hd p = true then hX T D b (R p) (h + (p + nh hd (p + 1))) else D
/-- how it is when p of the row have gone; what one wishes is given by him, LAST and the hours since -/
def rwX (T : aT) (L : aL) (b h : Nat) (R : Nat → Nat) (hd : Nat → Bool) (ω : Nat → Int32 → Nat → Int32) (G : aG) : Nat → aG
  | 0 => G
  | p + 1 => sStep T L (hD T b h R hd (rwX T L b h R hd ω G p) p) (R p) b (ω (R p) (hD T b h R hd (rwX T L b h R hd ω G p) p 3 b) (p + nh hd (p + 1))) (h + (p + nh hd (p + 1)))
section RWX
variable {T : aT} {L : aL} {b h : Nat} {R : Nat → Nat} {hd : Nat → Bool} {ω : Nat → Int32 → Nat → Int32} {G : aG}
theorem rwX_h (hh : G 0 0 = nI h) : ∀ p, rwX T L b h R hd ω G p 0 0 = nI (h + (p + nh hd p))
  | 0 => hh
  | p + 1 => by
    show nI (h + (p + nh hd (p + 1)) + 1) = _
    congr 1
    omega
theorem hD_h (hh : G 0 0 = nI h) (p : Nat) : hD T b h R hd (rwX T L b h R hd ω G p) p 0 0 = nI (h + (p + nh hd (p + 1))) := by
  unfold hD
  split
  · unfold hX
    rw [if_neg (fun z => absurd z.1 (by decide)), if_pos ⟨rfl, rfl⟩]
  · rename_i z
    rw [rwX_h hh, nh, if_neg z, Nat.add_zero]
theorem hD_5 {D : aG} {p t j : Nat} (ht : 4 ≤ t) : hD T b h R hd D p t j = D t j := by
  unfold hD
  split
  · unfold hX
    rw [if_neg (fun z => by omega), if_neg (fun z => by omega)]
  · rfl
theorem hD_inv (hI : InvT T L) {D : aG} {p : Nat} (hi : InvG T 5000 D) (hm : R p < tM T) (hx : h + 20 ≤ 170000) (hp : p < 7) : InvG T 5000 (hD T b h R hd D p) := by
  have hn := nh_le hd (p + 1)
  unfold hD
  split
  · refine ⟨⟨h + (p + nh hd (p + 1)), by omega, ?_⟩, fun b' hb' => ?_, fun m hm' => ?_⟩
    · unfold hX
      rw [if_neg (fun z => absurd z.1 (by decide)), if_pos ⟨rfl, rfl⟩]
    · unfold hX
      by_cases z : b' = b
      · rw [if_pos ⟨rfl, z⟩]
        exact Or.inr ⟨_, hI.2.2.2.2.2.1 _ hm, rfl⟩
      · rw [if_neg (fun u => z u.2), if_neg (fun u => absurd u.1 (by decide))]
        exact hi.2.1 b' hb'
    · exact hi.2.2 m hm'
  · exact hi
theorem rwX_inv (hI : InvT T L) (hi : InvG T 5000 G) (hb : b < tG T) (hω : ∀ m la t, m < tM T → orN (tB T) la → orN (tB T) (ω m la t)) (hx : h + 20 ≤ 170000) : ∀ p, p ≤ 7 → (∀ q, q < p → R q < tM T) → InvG T 5000 (rwX T L b h R hd ω G p)
  | 0, _, _ => hi
  | p + 1, h1, hR => by
    have ih := rwX_inv hI hi hb hω hx p (by omega) (fun q hq => hR q (by omega))
    have i2 := hD_inv (T := T) (L := L) (b := b) (h := h) (R := R) (hd := hd) hI ih (hR p (by omega)) hx (by omega)
    have hn := nh_le hd (p + 1)
    exact sStep_inv hI i2 (hR p (by omega)) hb (hω _ _ _ (hR p (by omega)) (i2.2.1 b hb)) (by omega)
/-- who has not gone yet is as before -/
theorem rwX_keep {m : Nat} (hb : b < 2 ^ 31) (on : G 6 m = -1) : ∀ p, (∀ q, q < p → ¬ R q = m) → rwX T L b h R hd ω G p 5 m = G 5 m ∧ rwX T L b h R hd ω G p 6 m = -1 ∧ rwX T L b h R hd ω G p 7 m = G 7 m ∧ rwX T L b h R hd ω G p 8 m = G 8 m ∧ rwX T L b h R hd ω G p 9 m = G 9 m
  | 0, _ => ⟨rfl, on, rfl, rfl, rfl⟩
  | p + 1, hR => by
    obtain ⟨a5, a6, a7, a8, a9⟩ := rwX_keep hb on p (fun q hq => hR q (by omega))
    have ne : ¬ m = R p := fun z => hR p (by omega) z.symm
    generalize eD : rwX T L b h R hd ω G p = D at a5 a6 a7 a8 a9
    have h5 : hD T b h R hd D p 5 m = D 5 m := hD_5 (by omega)
    have h6 : hD T b h R hd D p 6 m = D 6 m := hD_5 (by omega)
    have h7 : hD T b h R hd D p 7 m = D 7 m := hD_5 (by omega)
    have h8 : hD T b h R hd D p 8 m = D 8 m := hD_5 (by omega)
    have h9 : hD T b h R hd D p 9 m = D 9 m := hD_5 (by omega)
    have nb : ¬ hD T b h R hd D p 6 m = nI b := fun z => nI_m1 hb (z.symm.trans (h6.trans a6))
    rw [rwX, eD]
    refine ⟨?_, ?_, h7.trans a7, ?_, ?_⟩
    · show (if hD T b h R hd D p 3 b < 0 then (if m = R p then -1 else hD T b h R hd D p 5 m) else if m = R p ∨ (m < tM T ∧ hD T b h R hd D p 6 m = nI b) then hD T b h R hd D p 3 b else hD T b h R hd D p 5 m) = _
      rw [if_neg ne, if_neg (show ¬ (m = R p ∨ (m < tM T ∧ hD T b h R hd D p 6 m = nI b)) from fun z => z.elim ne (fun y => nb y.2))]
      split <;> exact h5.trans a5
    · show (if hD T b h R hd D p 3 b < 0 then (if m = R p then nI b else hD T b h R hd D p 6 m) else if m = R p ∨ (m < tM T ∧ hD T b h R hd D p 6 m = nI b) then -1 else hD T b h R hd D p 6 m) = _
      rw [if_neg ne, if_neg (show ¬ (m = R p ∨ (m < tM T ∧ hD T b h R hd D p 6 m = nI b)) from fun z => z.elim ne (fun y => nb y.2))]
      split <;> exact h6.trans a6
    · show (if m = R p then _ else hD T b h R hd D p 8 m) = _
      rw [if_neg ne]
      exact h8.trans a8
    · show (if m = R p then _ else hD T b h R hd D p 9 m) = _
      rw [if_neg ne]
      exact h9.trans a9
end RWX
/-- what one wishes, as the reference works it out in a row -/
def WshOk (T : aT) (L : aL) (G : aG) (b h n : Nat) (ω : Nat → Int32 → Nat → Int32) (Q : bS → Prop) : Prop := ∀ (σ : bS) (D : aG) (m t p : Nat) (r6 : Int32 → Int32 → bS → Option bS), MTx T L σ → MG T 48 D σ → InvG T 5000 D → σ.1 0 40 = nI 48 → m < tM T → h + t < 2 ^ 31 → D 0 0 = nI (h + t) → D 5 m = nI (tFoot T b) → D 5 m = G 5 m → D 7 m = G 7 m → D 8 m = G 8 m → D 9 m = G 9 m → Q σ → ∃ σ', m_rowGoes_b62 n r6 (nI b) (nI p) (nI m) σ = m_rowGoes_b83 n r6 (nI b) (nI p) (nI m) (md (ω m (D 3 b) t)) σ' ∧ frM sc46 sc31 σ σ'
/-- such a row stands, and nothing of it is changed -/
def frX (σ σ' : bS) : Prop := (∀ k, ¬ (k = 40 ∨ k = 46) → σ'.1 0 k = σ.1 0 k) ∧ ∀ a, ¬ (a = 29 ∨ a = 31 ∨ a = 32) → σ'.2.1 a = σ.2.1 a
theorem frX.ofR {w : Nat} {σ σ' : bS} (h : frR w σ σ') : frX σ σ' := ⟨fun k hk => h.1 k (fun z => hk (Or.inr z)), h.2.1⟩
theorem wsh_plain {T : aT} {L : aL} {G : aG} {b h n : Nat} (hn : 1000 ≤ n) (hI : InvT T L) (hb : b < tG T) : WshOk T L G b h n (fun m la t => sWish T L G m la (h + t)) (fun σ => σ.1 0 53 = 0) := fun σ D m t p r6 hT hD hi hw hm hh h0 h5 g5 g7 g8 g9 hQ => by
  have hf := hI.2.2.2.2.1 b hb
  have e53 : sI σ 0 53 = 0 := hQ
  obtain ⟨σ1, c1, c2⟩ := m_wishOf_eq (h := h + t) hn hI hT hD hw (by omega) hm hb hh h0 hf h5 (hi.2.1 b hb)
  refine ⟨σ1, ?_, c2⟩
  unfold m_rowGoes_b62
  rw [e53, if_pos rfl, c1, ob_def, sWish_congr (G := D) (G' := G) g5 g7 g8 g9]
theorem m_hired {T : aT} {L : aL} {D : aG} {b m x : Nat} {σ : bS} (hI : InvT T L) (hb : b < tG T) (h : MG T 48 D σ) (hm : m < tM T) : MG T 48 (hX T D b m x) (uA (uA σ 29 (nI (49 + b)) (nI (tHome T m))) 29 (nI 48) (nI x)) := by
  have hGG := hI.2.2.1
  have hM := hI.2.2.2.1
  have hB := hI.1
  have hh := hI.2.2.2.2.2.1 m hm
  have rd : ∀ q, (uA (uA σ 29 (nI (49 + b)) (nI (tHome T m))) 29 (nI 48) (nI x)).2.1 29 q = if q = 48 then nI x else if q = 49 + b then nI (tHome T m) else σ.2.1 29 q := fun q => by
    rw [uA_2, uA_2, nI_clamp (by omega), nI_clamp (by omega)]
    simp
  refine ⟨⟨?_, ?_, ?_, ?_⟩, fun j hj => ⟨?_, ?_⟩, fun j hj => ⟨?_, ?_, ?_, ?_, ?_⟩⟩
  · rw [rd, if_pos rfl]; rfl
  · rw [rd, if_neg (by omega), if_neg (by omega)]; exact h.1.2.1
  · rw [rd, if_neg (by omega), if_neg (by omega)]; exact h.1.2.2.1
  · rw [rd, if_neg (by omega), if_neg (by omega)]; exact h.1.2.2.2
  · rw [rd, if_neg (by omega)]
    unfold hX
    by_cases z : j = b
    · rw [if_pos (by omega), if_pos ⟨rfl, z⟩, md_n (by omega)]
    · rw [if_neg (by omega), if_neg (fun u => z u.2), if_neg (fun u => absurd u.1 (by decide))]
      exact (h.2.1 j hj).1
  · rw [rd, if_neg (by omega), if_neg (by omega)]; exact (h.2.1 j hj).2
  · rw [rd, if_neg (by omega), if_neg (by omega)]; exact (h.2.2 j hj).1
  · rw [rd, if_neg (by omega), if_neg (by omega)]; exact (h.2.2 j hj).2.1
  · rw [rd, if_neg (by omega), if_neg (by omega)]; exact (h.2.2 j hj).2.2.1
  · rw [rd, if_neg (by omega), if_neg (by omega)]; exact (h.2.2 j hj).2.2.2.1
  · rw [rd, if_neg (by omega), if_neg (by omega)]; exact (h.2.2 j hj).2.2.2.2
theorem m_rowX_l {T : aT} {L : aL} {n b h c : Nat} {R : Nat → Nat} {hd : Nat → Bool} {ω : Nat → Int32 → Nat → Int32} {Q : bS → Prop} {G : aG} (hn : 1000 ≤ n) (hI : InvT T L) (hi : InvG T 5000 G) (hh : G 0 0 = nI h) (hb : b < tG T) (hc : c ≤ 7) (hr : isRow T G b c R) (hx : h + 20 ≤ 170000) (hω : ∀ m la t, m < tM T → orN (tB T) la → orN (tB T) (ω m la t)) (hW : WshOk T L G b h n ω Q) (hQ : ∀ σ σ', Q σ → frX σ σ' → Q σ') : ∀ (k p : Nat) (σ : bS), MTx T L σ → MG T 48 (rwX T L b h R hd ω G p) σ → σ.1 0 40 = nI 48 → σ.1 0 49 = nI c → Q σ → (∀ q, q < c → σ.2.1 34 q = nI (R q)) → (∀ q, q < c → σ.2.1 35 q = if hd q = true then 1 else 0) → p ≤ c → c < p + k → ∃ σ', m_rowGoes_b6 n k (nI b) (nI p) σ = some σ' ∧ MG T 48 (rwX T L b h R hd ω G c) σ' ∧ frR 48 σ σ'
  | 0, p, σ, hT, hG, hw, h49, hq, h34, h35, h1, h2 => by omega
  | k + 1, p, σ, hT, hG, hw, h49, hq, h34, h35, h1, h2 => by
    have hGG := hI.2.2.1
    have hMM := hI.2.2.2.1
    have hf := hI.2.2.2.2.1 b hb
    have e49 : sI σ 0 49 = nI c := h49
    rw [m_rowGoes_b6, e49]
    by_cases hp : p < c
    · have e35 : sA σ 35 (nI p) = if hd p = true then 1 else 0 := (sA_n _ _ (by omega)).trans (h35 p hp)
      have e34 : sA σ 34 (nI p) = nI (R p) := (sA_n _ _ (by omega)).trans (h34 p hp)
      have hm := (hr.1 p hp).1
      have hnh := nh_le hd (p + 1)
      obtain ⟨a5, a6, a7, a8, a9⟩ := rwX_keep (L := L) (T := T) (h := h) (R := R) (hd := hd) (ω := ω) (G := G) (show b < 2 ^ 31 by omega) (hr.1 p hp).2.2 p (fun q hq => hr.2 q p hq hp)
      have ip := rwX_inv (h := h) (L := L) (R := R) (hd := hd) (ω := ω) hI hi hb hω hx p (by omega) (fun q hq => (hr.1 q (by omega)).1)
      have i1 := hD_inv (T := T) (L := L) (b := b) (h := h) (R := R) (hd := hd) hI ip hm hx (by omega)
      have hour := hD_h (T := T) (L := L) (b := b) (R := R) (hd := hd) (ω := ω) hh p
      have st : ∃ σ1, (if sA σ 35 (nI p) = 0 then m_rowGoes_b62 n (m_rowGoes_b6 n k) (nI b) (nI p) (sA σ 34 (nI p)) σ else bin_ (sA σ 34 (nI p)) 14 (bin_ (((sI σ 0 40) + ci_1) + (nI b)) 2208 (bin_ (sI (uA σ 29 (((sI σ 0 40) + ci_1) + (nI b)) (sA σ 22 (sA σ 34 (nI p)))) 0 40) 2208 (bin_ (sI (uA σ 29 (((sI σ 0 40) + ci_1) + (nI b)) (sA σ 22 (sA σ 34 (nI p)))) 0 40) 2208 (m_rowGoes_b62 n (m_rowGoes_b6 n k) (nI b) (nI p) (sA σ 34 (nI p)) (uA (uA σ 29 (((sI σ 0 40) + ci_1) + (nI b)) (sA σ 22 (sA σ 34 (nI p)))) 29 (sI (uA σ 29 (((sI σ 0 40) + ci_1) + (nI b)) (sA σ 22 (sA σ 34 (nI p)))) 0 40) ((sA (uA σ 29 (((sI σ 0 40) + ci_1) + (nI b)) (sA σ 22 (sA σ 34 (nI p)))) 29 (sI (uA σ 29 (((sI σ 0 40) + ci_1) + (nI b)) (sA σ 22 (sA σ 34 (nI p)))) 0 40)) + ci_1))))))) = m_rowGoes_b62 n (m_rowGoes_b6 n k) (nI b) (nI p) (nI (R p)) σ1 ∧ MG T 48 (hD T b h R hd (rwX T L b h R hd ω G p) p) σ1 ∧ frR 48 σ σ1 := by
        have e40 : sI σ 0 40 = nI 48 := hw
        by_cases z : hd p = true
        · have e22 : sA σ 22 (nI (R p)) = nI (tHome T (R p)) := (sA_n _ _ (by omega)).trans (hT.2.2.2.1 _ hm)
          have q2 : sA (uA σ 29 (nI (49 + b)) (nI (tHome T (R p)))) 29 (nI 48) = nI (h + (p + nh hd p)) := by
            rw [sA_n _ _ (by omega), uA_2, nI_clamp (by omega), if_neg (by omega)]
            exact hG.1.1.trans (rwX_h hh p)
          refine ⟨uA (uA σ 29 (nI (49 + b)) (nI (tHome T (R p)))) 29 (nI 48) (nI (h + (p + nh hd (p + 1)))), ?_, ?_, frRa (frRa frR.rf (by omega) (by omega) (by omega)) (by omega) (by omega) (by omega)⟩
          · rw [e35, if_pos z, if_neg one_ne]
            simp only [sI_uA]
            rw [e40, e34, e22, ci1_nI, nI_add, nI_add, bin_nI (by omega) (by decide), bin_nI (by omega) (by decide), bin_nI (by omega) (by decide), bin_nI (by omega) (by decide), show 48 + 1 + b = 49 + b by omega, q2, nI_add, nh, if_pos z, show h + (p + nh hd p) + 1 = h + (p + (nh hd p + 1)) by omega]
          · unfold hD
            rw [if_pos z]
            exact m_hired hI hb hG hm
        · refine ⟨σ, ?_, ?_, frR.rf⟩
          · rw [e35, if_neg z, if_pos rfl, e34]
          · unfold hD
            rw [if_neg z]
            exact hG
      obtain ⟨σ1, t1, t2, t3⟩ := st
      have hat : hD T b h R hd (rwX T L b h R hd ω G p) p 5 (R p) = nI (tFoot T b) := (hD_5 (by omega)).trans (a5.trans (hr.1 p hp).2.1)
      obtain ⟨σ2, c1, c2⟩ := hW σ1 (hD T b h R hd (rwX T L b h R hd ω G p) p) (R p) (p + nh hd (p + 1)) p (m_rowGoes_b6 n k) (hT.go t3) t2 i1 ((t3.1 40 (by decide)).trans hw) hm (by omega) hour hat ((hD_5 (by omega)).trans a5) ((hD_5 (by omega)).trans a7) ((hD_5 (by omega)).trans a8) ((hD_5 (by omega)).trans a9) (hQ σ σ1 hq (frX.ofR t3))
      have f2 : frR 48 σ σ2 := t3.trans (frR.scr c2)
      obtain ⟨σ3, d1, d2, d3⟩ := m_step (p := p) (h := h + (p + nh hd (p + 1))) (L := L) (r6 := m_rowGoes_b6 n k) hn hI (hT.go f2) (t2.scr c2) i1 ((f2.1 40 (by decide)).trans hw) (by omega) hm hb hour ((hD_5 (by omega)).trans a6) (hω (R p) (hD T b h R hd (rwX T L b h R hd ω G p) p 3 b) (p + nh hd (p + 1)) hm (i1.2.1 b hb))
      have f3 := f2.trans d3
      rw [if_neg (nI_ge hp (by omega)), bin_nI (by omega) (by decide), bin_nI (by omega) (by decide), t1, c1, d1]
      obtain ⟨σ4, g1, g2, g3⟩ := m_rowX_l (R := R) (hd := hd) (ω := ω) hn hI hi hh hb hc hr hx hω hW hQ k (p + 1) σ3 (hT.go f3) d2 ((f3.1 40 (by decide)).trans hw) ((f3.1 49 (by decide)).trans h49) (hQ σ σ3 hq (frX.ofR f3)) (fun q hq => by rw [f3.2.1 34 (by decide)]; exact h34 q hq) (fun q hq => by rw [f3.2.1 35 (by decide)]; exact h35 q hq) hp (by omega)
      exact ⟨σ4, g1, g2, f3.trans g3⟩
    · have e : p = c := by omega
      subst e
      rw [if_pos (Int32.le_refl _)]
      exact ⟨σ, rfl, hG, frR.rf⟩
theorem m_rowX {T : aT} {L : aL} {n b h c : Nat} {R : Nat → Nat} {hd : Nat → Bool} {ω : Nat → Int32 → Nat → Int32} {Q : bS → Prop} {G : aG} {σ : bS} (hn : 1000 ≤ n) (hI : InvT T L) (hT : MTx T L σ) (hG : MG T 0 G σ) (hi : InvG T 5000 G) (hh : G 0 0 = nI h) (hb : b < tG T) (hc : c ≤ 7) (hr : isRow T G b c R) (hx : h + 20 ≤ 170000) (hω : ∀ m la t, m < tM T → orN (tB T) la → orN (tB T) (ω m la t)) (hW : WshOk T L G b h n ω Q) (hQ : ∀ σ σ', Q σ → frX σ σ' → Q σ') (hq : Q σ) (h49 : σ.1 0 49 = nI c) (h34 : ∀ q, q < c → σ.2.1 34 q = nI (R q)) (h35 : ∀ q, q < c → σ.2.1 35 q = if hd q = true then 1 else 0) : ∃ σ', m_rowGoes n (nI b) σ = some σ' ∧ MG T 48 (rwX T L b h R hd ω G c) σ' ∧ σ'.1 0 40 = nI 48 ∧ frX σ σ' ∧ frQ σ σ' := by
  have hT7 : tG T ≤ 4 ∧ tM T ≤ 7 := ⟨hI.2.2.1, hI.2.2.2.1⟩
  obtain ⟨σ1, d1, d2, d3⟩ := m_copy (n := n) (a := 0) (b := 48) (σ := σ) (by omega) (by omega) (by omega) (by omega)
  obtain ⟨σ1', t1, t2, t3, t4, t5⟩ := m_tries_eq (T := T) (n := n) (by omega) hT7 hG
  have et : m_tries n σ = some (uI σ1 0 40 cb_48) := by
    unfold m_tries
    rw [cb_48_n, show m_copies n ci_0 (nI 48) σ = some σ1 from d1, ob_def]
  have es : σ1' = uI σ1 0 40 cb_48 := Option.some.inj (t1.symm.trans et)
  have i1 : ∀ k, ¬ k = 40 → σ1'.1 0 k = σ.1 0 k := fun k hk => by
    rw [es, uI_1, if_neg (fun z => hk z.2), d3.1 k (fun z => z)]
  have fx : frX σ σ1' := ⟨fun k hk => i1 k (by omega), fun a ha => t5 a (by omega)⟩
  obtain ⟨σ2, c1, c2, c3⟩ := m_rowX_l (R := R) (hd := hd) (ω := ω) hn hI hi hh hb hc hr hx hω hW hQ n 0 σ1' (hT.of (fun a x y => t5 a (by omega))) t2 t3 ((i1 49 (by decide)).trans h49) (hQ σ σ1' hq fx) (fun q hq => by rw [t5 34 (by decide)]; exact h34 q hq) (fun q hq => by rw [t5 35 (by decide)]; exact h35 q hq) (by omega) (by omega)
  refine ⟨σ2, ?_, c2, (c3.1 40 (by decide)).trans t3, ⟨fun k hk => (c3.1 k (by omega)).trans (i1 k (by omega)), fun a ha => (c3.2.1 a ha).trans (t5 a (by omega))⟩, t4.trans (frQ.ofR48 c3)⟩
  unfold m_rowGoes
  rw [t1, ob_def]
  exact c1
/-! whether all come home: LAST (0: none) and whether those who crossed are ON the bridge -/
noncomputable def rP (ho : Nat → Nat) (W : Nat → Nat → Nat → Nat) (R : Nat → Nat) (hd : Nat → Bool) (l0 : Nat) : Nat → Option (Nat × Bool)
  | 0 => some (l0, false)
  | p + 1 => match rP ho W R hd l0 p with
    | none => none
    | some (la, ab) =>
      if ¬ (if hd p = true then ho (R p) + 1 else la) = 0 ∧ (¬ ho (R p) + 1 = (if hd p = true then ho (R p) + 1 else la) ∨ (ab = true ∧ ∃ q, q < p ∧ ¬ ho (R q) + 1 = (if hd p = true then ho (R p) + 1 else la))) then none
      else some (if W (R p) (if hd p = true then ho (R p) + 1 else la) (p + nh hd (p + 1)) = 0 then (if hd p = true then ho (R p) + 1 else la) else W (R p) (if hd p = true then ho (R p) + 1 else la) (p + nh hd (p + 1)), decide ((if hd p = true then ho (R p) + 1 else la) = 0))
/-- what the state of a row says of the men -/
def rPs (T : aT) (b : Nat) (R : Nat → Nat) (D : aG) (p : Nat) (o : Option (Nat × Bool)) : Prop := match o with
  | none => ∃ q, q < p ∧ D 6 (R q) = -1 ∧ ¬ D 5 (R q) = nI (tHome T (R q))
  | some (la, ab) => la ≤ tB T ∧ D 3 b = lI la ∧ (la = 0 → ab = false → p = 0) ∧ (ab = true → ∀ q, q < p → D 6 (R q) = nI b) ∧ (ab = false → ∀ q, q < p → D 6 (R q) = -1 ∧ D 5 (R q) = nI (tHome T (R q)))
theorem lI_lt0 {l : Nat} (h : l ≤ 7) : lI l < 0 ↔ l = 0 := by
  have := lI_ge h
  constructor
  · intro z
    by_cases y : l = 0
    · exact y
    · exact absurd (this.mpr y) (Int32.not_le.mpr z)
  · intro z
    exact Int32.not_le.mp (fun y => this.mp y z)
theorem rP_run {T : aT} {L : aL} {b h c l0 : Nat} {R : Nat → Nat} {hd : Nat → Bool} {ω : Nat → Int32 → Nat → Int32} {W : Nat → Nat → Nat → Nat} {G : aG} (hI : InvT T L) (hb : b < tG T) (hr : isRow T G b c R) (hl0 : l0 ≤ tB T) (hG3 : G 3 b = lI l0) (hWω : ∀ m la t, m < tM T → la ≤ tB T → ω m (lI la) t = lI (W m la t) ∧ W m la t ≤ tB T) : ∀ p, p ≤ c → rPs T b R (rwX T L b h R hd ω G p) p (rP (tHome T) W R hd l0 p)
  | 0, _ => ⟨hl0, hG3, fun _ _ => rfl, fun _ q hq => by omega, fun _ q hq => by omega⟩
  | p + 1, hp => by
    have ih := rP_run (L := L) (h := h) (hd := hd) hI hb hr hl0 hG3 hWω p (by omega)
    have hGG := hI.2.2.1
    have hB := hI.1
    have hm := (hr.1 p (by omega)).1
    have hho := hI.2.2.2.2.2.1 _ hm
    have ne : ∀ q, q < p → ¬ R q = R p := fun q hq => hr.2 q p hq (by omega)
    rw [rwX, rP]
    generalize eD : rwX T L b h R hd ω G p = D at ih
    have h5 : ∀ m, hD T b h R hd D p 5 m = D 5 m := fun m => hD_5 (by omega)
    have h6 : ∀ m, hD T b h R hd D p 6 m = D 6 m := fun m => hD_5 (by omega)
    have s5 : ∀ ws x m, sStep T L (hD T b h R hd D p) (R p) b ws x 5 m = if hD T b h R hd D p 3 b < 0 then (if m = R p then -1 else D 5 m) else if m = R p ∨ (m < tM T ∧ D 6 m = nI b) then hD T b h R hd D p 3 b else D 5 m := fun ws x m => by
      rw [← h5, ← h6]
      rfl
    have s6 : ∀ ws x m, sStep T L (hD T b h R hd D p) (R p) b ws x 6 m = if hD T b h R hd D p 3 b < 0 then (if m = R p then nI b else D 6 m) else if m = R p ∨ (m < tM T ∧ D 6 m = nI b) then -1 else D 6 m := fun ws x m => by
      rw [← h6]
      rfl
    have s3 : ∀ ws x, sStep T L (hD T b h R hd D p) (R p) b ws x 3 b = if ws < 0 then hD T b h R hd D p 3 b else ws := fun ws x => by
      show (if b = b then (if ws < 0 then hD T b h R hd D p 3 b else ws) else _) = _
      rw [if_pos rfl]
    cases eo : rP (tHome T) W R hd l0 p with
    | none =>
      rw [eo] at ih
      obtain ⟨q, hq, i6, i5⟩ := ih
      refine ⟨q, by omega, ?_, ?_⟩
      · rw [s6]
        split
        · rw [if_neg (ne q hq)]; exact i6
        · rw [if_neg (fun z => z.elim (ne q hq) (fun y => nI_m1 (show b < 2 ^ 31 by omega) (y.2.symm.trans i6)))]; exact i6
      · rw [s5]
        split
        · rw [if_neg (ne q hq)]; exact i5
        · rw [if_neg (fun z => z.elim (ne q hq) (fun y => nI_m1 (show b < 2 ^ 31 by omega) (y.2.symm.trans i6)))]; exact i5
    | some o =>
      obtain ⟨la, ab⟩ := o
      rw [eo] at ih
      obtain ⟨i1, i2, i3, i4, i5⟩ := ih
      obtain ⟨l1, e1⟩ : ∃ l1, l1 = (if hd p = true then tHome T (R p) + 1 else la) := ⟨_, rfl⟩
      have hl1 : l1 ≤ tB T := by
        rw [e1]
        split <;> omega
      have d3 : hD T b h R hd D p 3 b = lI l1 := by
        rw [e1]
        unfold hD
        by_cases z : hd p = true
        · rw [if_pos z, if_pos z, lI_S]
          exact if_pos ⟨rfl, rfl⟩
        · rw [if_neg z, if_neg z]
          exact i2
      have l3 : l1 = 0 → ab = false → p = 0 := fun z y => by
        by_cases u : hd p = true
        · rw [if_pos u] at e1
          omega
        · rw [if_neg u] at e1
          exact i3 (by omega) y
      obtain ⟨w1, w2⟩ := hWω (R p) l1 (p + nh hd (p + 1)) hm hl1
      show rPs T b R _ (p + 1) (if ¬ (if hd p = true then tHome T (R p) + 1 else la) = 0 ∧ (¬ tHome T (R p) + 1 = (if hd p = true then tHome T (R p) + 1 else la) ∨ (ab = true ∧ ∃ q, q < p ∧ ¬ tHome T (R q) + 1 = (if hd p = true then tHome T (R p) + 1 else la))) then none else some (if W (R p) (if hd p = true then tHome T (R p) + 1 else la) (p + nh hd (p + 1)) = 0 then (if hd p = true then tHome T (R p) + 1 else la) else W (R p) (if hd p = true then tHome T (R p) + 1 else la) (p + nh hd (p + 1)), decide ((if hd p = true then tHome T (R p) + 1 else la) = 0)))
      rw [← e1]
      by_cases z : l1 = 0
      · have neg : hD T b h R hd D p 3 b < 0 := by rw [d3, z]; decide
        rw [if_neg (fun u => u.1 z)]
        refine ⟨by split <;> omega, ?_, ?_, fun _ q hq => ?_, fun u => ?_⟩
        · rw [s3, d3, w1]
          by_cases y : W (R p) l1 (p + nh hd (p + 1)) = 0
          · rw [if_pos y, y, if_pos (show lI 0 < 0 by decide)]
          · rw [if_neg y, if_neg (fun v => y ((lI_lt0 (by omega)).mp v))]
        · intro _ u
          rw [decide_eq_true z] at u
          cases u
        · rw [s6, if_pos neg]
          by_cases y : q = p
          · subst y
            rw [if_pos rfl]
          · rw [if_neg (ne q (by omega))]
            cases hab : ab
            · exact absurd (l3 z hab) (by omega)
            · exact i4 hab q (by omega)
        · rw [decide_eq_true z] at u
          cases u
      · have pos : ¬ hD T b h R hd D p 3 b < 0 := by
          rw [d3]
          exact fun u => z ((lI_lt0 (by omega)).mp u)
        have dn : hD T b h R hd D p 3 b = nI (l1 - 1) := d3.trans (if_neg z)
        have atp : ∀ ws x, sStep T L (hD T b h R hd D p) (R p) b ws x 6 (R p) = -1 ∧ sStep T L (hD T b h R hd D p) (R p) b ws x 5 (R p) = nI (l1 - 1) := fun ws x => by
          rw [s6, s5, if_neg pos, if_neg pos, if_pos (Or.inl rfl), if_pos (Or.inl rfl), dn]
          exact ⟨rfl, rfl⟩
        by_cases y : ¬ tHome T (R p) + 1 = l1 ∨ (ab = true ∧ ∃ q, q < p ∧ ¬ tHome T (R q) + 1 = l1)
        · rw [if_pos ⟨z, y⟩]
          rcases y with y | ⟨y, q, hq, v⟩
          · refine ⟨p, by omega, (atp _ _).1, ?_⟩
            rw [(atp _ _).2]
            exact fun u => y (by have := nI_inj (by omega) (by omega) u; omega)
          · have hmq := (hr.1 q (by omega)).1
            have hhq := hI.2.2.2.2.2.1 _ hmq
            refine ⟨q, by omega, ?_, ?_⟩
            · rw [s6, if_neg pos, if_pos (Or.inr ⟨hmq, i4 y q hq⟩)]
            · rw [s5, if_neg pos, if_pos (Or.inr ⟨hmq, i4 y q hq⟩), dn]
              exact fun u => v (by have := nI_inj (by omega) (by omega) u; omega)
        · rw [if_neg (fun u => y u.2)]
          have y1 : tHome T (R p) + 1 = l1 := Classical.byContradiction (fun u => y (Or.inl u))
          have y2 : ab = true → ∀ q, q < p → tHome T (R q) + 1 = l1 := fun u q hq => Classical.byContradiction (fun v => y (Or.inr ⟨u, q, hq, v⟩))
          refine ⟨by split <;> omega, ?_, ?_, fun u => ?_, fun _ q hq => ?_⟩
          · rw [s3, d3, w1]
            by_cases v : W (R p) l1 (p + nh hd (p + 1)) = 0
            · rw [if_pos v, v, if_pos (show lI 0 < 0 by decide)]
            · rw [if_neg v, if_neg (fun t => v ((lI_lt0 (by omega)).mp t))]
          · intro u _
            split at u <;> omega
          · rw [decide_eq_false z] at u
            cases u
          · by_cases v : q = p
            · subst v
              refine ⟨(atp _ _).1, (atp _ _).2.trans ?_⟩
              congr 1
              omega
            · have hmq := (hr.1 q (by omega)).1
              rw [s6, s5, if_neg pos, if_neg pos]
              cases hab : ab
              · obtain ⟨j1, j2⟩ := i5 hab q (by omega)
                have no : ¬ (R q = R p ∨ (R q < tM T ∧ D 6 (R q) = nI b)) := fun t => t.elim (ne q (by omega)) (fun s => nI_m1 (show b < 2 ^ 31 by omega) (s.2.symm.trans j1))
                rw [if_neg no, if_neg no]
                exact ⟨j1, j2⟩
              · have yes : R q = R p ∨ (R q < tM T ∧ D 6 (R q) = nI b) := Or.inr ⟨hmq, i4 hab q (by omega)⟩
                rw [if_pos yes, if_pos yes, dn]
                have := y2 hab q (by omega)
                refine ⟨rfl, ?_⟩
                congr 1
                omega
/-- all come home -/
def okP (o : Option (Nat × Bool)) : Bool := match o with
  | some (_, false) => true
  | _ => false
theorem m_home_l {T : aT} {L : aL} {i n c : Nat} {R : Nat → Nat} {D : aG} {σ : bS} (hI : InvT T L) (hT : MTx T L σ) (hG : MG T 48 D σ) (hi : InvG T i D) (hw : σ.1 0 40 = nI 48) (hc : c ≤ 7) (h49 : σ.1 0 49 = nI c) (h34 : ∀ q, q < c → σ.2.1 34 q = nI (R q)) (hR : ∀ q, q < c → R q < tM T) : ∀ (k q : Nat), q ≤ c → c < q + k → (∀ p, p < q → D 5 (R p) = nI (tHome T (R p))) → ∃ r, m_areHome_b2 n k (nI q) σ = some (r, σ) ∧ ((r = 1 ∧ ∀ p, p < c → D 5 (R p) = nI (tHome T (R p))) ∨ (r = 0 ∧ ∃ p, p < c ∧ ¬ D 5 (R p) = nI (tHome T (R p))))
  | 0, q, h1, h2, a => by omega
  | k + 1, q, h1, h2, a => by
    have e49 : sI σ 0 49 = nI c := h49
    rw [m_areHome_b2, e49]
    by_cases hq : q < c
    · have e34 : sA σ 34 (nI q) = nI (R q) := (sA_n _ _ (by omega)).trans (h34 q hq)
      rw [if_neg (nI_ge hq (by omega)), bin_nI (by omega) (by decide), e34, m_isHome_eq hI hT hG hi hw (by omega) (hR q hq), ob_def]
      by_cases z : D 5 (R q) = nI (tHome T (R q))
      · rw [if_pos z]
        simp only [if_neg one_ne]
        rw [ci1_nI, nI_add]
        exact m_home_l hI hT hG hi hw hc h49 h34 hR k (q + 1) hq (by omega) (fun p hp => by
          by_cases y : p = q
          · subst y
            exact z
          · exact a p (by omega))
      · rw [if_neg z]
        simp only [if_true]
        exact ⟨0, rfl, Or.inr ⟨rfl, q, hq, z⟩⟩
    · have e : q = c := by omega
      subst e
      rw [if_pos (Int32.le_refl _)]
      exact ⟨1, rfl, Or.inl ⟨rfl, a⟩⟩
/-- a row goes, and are all home -/
theorem m_goes {T : aT} {L : aL} {n b h c l0 : Nat} {R : Nat → Nat} {hd : Nat → Bool} {ω : Nat → Int32 → Nat → Int32} {W : Nat → Nat → Nat → Nat} {Q : bS → Prop} {G : aG} {σ : bS} (hn : 1000 ≤ n) (hI : InvT T L) (hT : MTx T L σ) (hG : MG T 0 G σ) (hi : InvG T 5000 G) (hh : G 0 0 = nI h) (hb : b < tG T) (hc0 : 0 < c) (hc : c ≤ 7) (hr : isRow T G b c R) (hx : h + 20 ≤ 170000) (hl0 : l0 ≤ tB T) (hG3 : G 3 b = lI l0) (hωi : ∀ m la t, m < tM T → orN (tB T) la → orN (tB T) (ω m la t)) (hWω : ∀ m la t, m < tM T → la ≤ tB T → ω m (lI la) t = lI (W m la t) ∧ W m la t ≤ tB T) (hW : WshOk T L G b h n ω Q) (hQ : ∀ σ σ', Q σ → frX σ σ' → Q σ') (hq : Q σ) (h49 : σ.1 0 49 = nI c) (h34 : ∀ q, q < c → σ.2.1 34 q = nI (R q)) (h35 : ∀ q, q < c → σ.2.1 35 q = if hd q = true then 1 else 0) : ∃ σ', m_rowGoes n (nI b) σ = some σ' ∧ m_areHome n σ' = some (if okP (rP (tHome T) W R hd l0 c) = true then 1 else 0, σ') ∧ frX σ σ' ∧ frQ σ σ' ∧ MTx T L σ' ∧ MG T 0 G σ' := by
  have hT7 : tG T ≤ 4 ∧ tM T ≤ 7 := ⟨hI.2.2.1, hI.2.2.2.1⟩
  have hGG := hI.2.2.1
  have hB := hI.1
  obtain ⟨σ1, c1, c2, c3, c4, c5⟩ := m_rowX (R := R) (hd := hd) hn hI hT hG hi hh hb hc hr hx hωi hW hQ hq h49 h34 h35
  have hT1 : MTx T L σ1 := hT.of (fun a x y => c5.2.1 a (by unfold scrA; omega))
  have inv := rwX_inv (h := h) (L := L) (R := R) (hd := hd) (ω := ω) hI hi hb hωi hx c hc (fun q hq => (hr.1 q hq).1)
  have run := rP_run (L := L) (h := h) (hd := hd) (ω := ω) hI hb hr hl0 hG3 hWω c (Nat.le_refl _)
  obtain ⟨r, d1, d2⟩ := m_home_l (n := n) (c := c) (R := R) hI hT1 c2 inv c3 hc ((c4.1 49 (by decide)).trans h49) (fun q hq => by rw [c4.2 34 (by decide)]; exact h34 q hq) (fun q hq => (hr.1 q hq).1) n 0 (by omega) (by omega) (fun p hp => by omega)
  refine ⟨σ1, c1, ?_, c4, c5, hT1, hG.of hT7 (fun j x y => c5.2.2 j (by omega))⟩
  have d1 : m_areHome n σ1 = some (r, σ1) := d1
  rw [d1]
  congr 2
  cases eo : rP (tHome T) W R hd l0 c with
  | none =>
    rw [eo] at run
    obtain ⟨q, hq, -, z⟩ := run
    rcases d2 with ⟨rfl, y⟩ | ⟨rfl, -⟩
    · exact absurd (y q hq) z
    · rfl
  | some o =>
    obtain ⟨la, ab⟩ := o
    rw [eo] at run
    obtain ⟨-, -, -, i4, i5⟩ := run
    cases ab
    · rcases d2 with ⟨rfl, -⟩ | ⟨rfl, p, hp, z⟩
      · rfl
      · exact absurd (i5 rfl p hp).2 z
    · rcases d2 with ⟨rfl, y⟩ | ⟨rfl, -⟩
      · have on := i4 rfl 0 hc0
        have y0 := y 0 hc0
        have hm := (hr.1 0 hc0).1
        have hho := hI.2.2.2.2.2.1 _ hm
        rcases inv.2.2 _ hm with ⟨u, -⟩ | ⟨u, -⟩
        · exact absurd (on.symm.trans u) (nI_m1 (by omega))
        · exact absurd (y0.symm.trans u) (nI_m1 (by omega))
      · rfl
