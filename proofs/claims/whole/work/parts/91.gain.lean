/-! what one gains: y is 1 at home, 0 else; p is the place in the row -/
def gv (T : aT) (G : aG) (m p h : Nat) (y : Int32) : Nat → Int32 := fun k => if k = 4 then y else if k = 7 then nI p else vr T G m 0 (nI ((h + p) % 24)) k
def sGain (T : aT) (L : aL) (G : aG) (m p h : Nat) (y : Int32) : Int32 := match L 12 with
  | none => (cb_20 * y) - nI p
  | some f => clamp (f (gv T G m p h y)) cb_m99 cb_99
theorem c_gain9 {T : aT} {L : aL} {n m p h : Nat} {G : aG} {y : Int32} {σ : bS} (hn : 500 ≤ n) (hI : InvT T L) (hT : CT T L σ) (hG : CG 27 G σ) (hm : m < tM T) (hp : p ≤ 7) (hh : h + 20 < 2 ^ 31) (hh2 : G 0 0 = nI h) : ∃ σ', cGoing_gainAs_b9 n (nI m) (nI p) y σ = some (sGain T L G m p h y, σ') ∧ frC (fun a => a = 12 ∨ a = 13) σ σ' := by
  have hl := hT.2.2.2.2.2.2.2.2.1
  have e13 : sI σ 1 13 = σ.1 1 13 := rfl
  have e2 : sI σ 27 2 = nI h := hG.1.1.trans hh2
  unfold cGoing_gainAs_b9 sGain
  cases hL : L 12 with
  | none =>
    rw [hL] at hl
    have hl : σ.1 1 13 = -1 := hl
    rw [e13, hl, if_neg (by decide)]
    exact ⟨σ, rfl, frC.rf⟩
  | some f =>
    rw [hL] at hl
    obtain ⟨σ1, a1, a2, a3⟩ := c_look (n := n) (la := 0) (h := h + p) hI hT hG hm (by omega)
    obtain ⟨σ2, s2⟩ : ∃ q, q = uA (uA σ1 13 (nI 4) y) 13 (nI 7) (nI p) := ⟨_, rfl⟩
    have f2 : frC (fun a => a = 13) σ σ2 := by
      rw [s2]
      exact frCaA (frCaA a3 rfl) rfl
    have v2 : ∀ k, k < 8 → σ2.2.1 13 k = gv T G m p h y k := fun k hk => by
      rw [s2, uA_2, uA_2, nI_clamp (by decide), nI_clamp (by decide)]
      unfold gv
      by_cases k4 : k = 4
      · subst k4
        simp
      · by_cases k7 : k = 7
        · subst k7
          simp
        · simp [k4, k7]
          exact a2 k hk
    obtain ⟨σ3, b1, b2⟩ := hl.2 n σ2 hn (f2 11 (by decide)).2.1 (by rw [(f2 10 (by decide)).1])
    rw [hI.2.2.2.2.2.2.2.2.2.2 12 f hL _ _ v2] at b1
    have e3 : sI σ2 1 13 = σ.1 1 13 := by rw [sI_d, (f2 1 (by decide)).1]
    refine ⟨σ3, ?_, (f2.mono (fun a h => Or.inr h)).trans (b2.mono (fun a h => Or.inl h))⟩
    rw [e13, if_pos hl.1, e2, nI_add, show (ci_0 : Int32) = 0 from ci0_0, a1, ob_def, ci_4_n, cb7_nI, bin_nI (by decide) (by decide), bin_nI (by decide) (by decide), ← s2, e3, b1, ob_def, held_eq (by decide), ob_def]
