/-! the two passes of a game: first those not late, then the late ones -/
theorem nI_xor {a b : Nat} : nI a ^^^ nI b = nI (a ^^^ b) := by
  apply Int32.toBitVec_inj.mp
  apply BitVec.eq_of_toNat_eq
  show (BitVec.ofNat 32 a ^^^ BitVec.ofNat 32 b).toNat = (BitVec.ofNat 32 (a ^^^ b)).toNat
  rw [BitVec.toNat_xor, BitVec.toNat_ofNat, BitVec.toNat_ofNat, BitVec.toNat_ofNat, Nat.xor_mod_two_pow]
theorem and_not (x y : Int32) : x &&& (y ^^^ ci_m1) = x ^^^ (x &&& y) := by
  apply Int32.toBitVec_inj.mp
  show x.toBitVec &&& (y.toBitVec ^^^ ci_m1.toBitVec) = x.toBitVec ^^^ (x.toBitVec &&& y.toBitVec)
  rw [show ci_m1.toBitVec = BitVec.allOnes 32 by decide]
  apply BitVec.eq_of_getLsbD_eq
  intro i hi
  simp only [BitVec.getLsbD_and, BitVec.getLsbD_xor, BitVec.getLsbD_allOnes, hi, decide_true]
  cases x.toBitVec.getLsbD i <;> cases y.toBitVec.getLsbD i <;> rfl
theorem off_eq (s z : Nat) : nI s &&& (nI z ^^^ ci_m1) = nI (s ^^^ (s &&& z)) := by rw [and_not, nI_and, nI_xor]
theorem off_bit (s z j : Nat) : (s ^^^ (s &&& z)).testBit j = fB s z false j := by
  unfold fB
  rw [Nat.testBit_xor, Nat.testBit_and]
  cases s.testBit j <;> cases z.testBit j <;> rfl
theorem off_lt {s z : Nat} (hs : s < 128) : s ^^^ (s &&& z) < 128 := Nat.xor_lt_two_pow (n := 7) hs (Nat.lt_of_le_of_lt Nat.and_le_left hs)
theorem off_len {s z : Nat} (hs : s < 128) : (fL s z false 7).length = pc (s ^^^ (s &&& z)) := by
  rw [← pc_row ⟨s ^^^ (s &&& z), off_lt hs⟩]
  unfold fL
  congr 2
  funext m
  exact (off_bit s z m).symm
theorem bit_is {s j : Nat} (hs : s < 2 ^ 31) (hj : j < 7) : ((nI s >>> (nI j &&& 31)) &&& ci_1) = ci_1 ↔ s.testBit j = true := by
  rw [bit_eq hs (by omega)]
  cases s.testBit j
  · exact ⟨fun z => absurd z (by decide), fun z => by cases z⟩
  · exact ⟨fun _ => rfl, fun _ => by decide⟩
theorem g_passes {T : aT} {L : aL} {n b h s z l0 : Nat} {G : aG} {σ0 : bS} (hn : 20 ≤ n) (hI : InvT T L) (hi : InvG T 5000 G) (hh : G 0 0 = nI h) (hx0 : h + 20 ≤ 170000) (hb : b < tG T) (hs : s < 128) (hz : z < 128) (hzs : ∀ m, z.testBit m = true → s.testBit m = true) (e00 : 0 ≤ G 3 b ↔ ¬ l0 = 0) (hW : ∀ m l t, s.testBit m = true → (l0 = 0 ∨ 1 ≤ l) → l ≤ tB T → t < 14 → t < pc s → σ0.2.1 60 ((7 * m + l) * 14 + t) = sWish T L G m (lI l) (h + t)) (hr : isRow T G b (rowL 7 s z).length (fun q => (rowL 7 s z).getD q 0)) (hT : CT T L σ0) (h4 : σ0.1 68 4 = nI 0) (h5 : σ0.1 68 5 = nI 0) : ∃ σ1 σ2, cGame_crossAll n (nI (s ^^^ (s &&& z))) (G 3 b) ci_0 σ0 = some (rwG T L b h (fun q => (rowL 7 s z).getD q 0) G (fL s z false 7).length 3 b, σ1) ∧ cj_bitCount n (nI (s ^^^ (s &&& z))) σ1 = some (nI (fL s z false 7).length, σ1) ∧ cGame_crossAll n (nI z) (rwG T L b h (fun q => (rowL 7 s z).getD q 0) G (fL s z false 7).length 3 b) (nI (fL s z false 7).length) σ1 = some (rwG T L b h (fun q => (rowL 7 s z).getD q 0) G (rowL 7 s z).length 3 b, σ2) ∧ GSt T b (rowL 7 s z) (rwG T L b h (fun q => (rowL 7 s z).getD q 0) G (rowL 7 s z).length) σ2 ∧ frC sc68 σ0 σ2 ∧ CT T L σ2 := by
  have ho := off_lt (z := z) hs
  have b0 : bitsOf (fun _ => False) 7 = nI 0 := by decide
  have g0 : GSt T b ([] ++ fL s z false 0) (rwG T L b h (fun q => (rowL 7 s z).getD q 0) G ([] ++ fL s z false 0).length) σ0 := by
    refine ⟨?_, ?_, fun q hq => absurd hq (Nat.not_lt_zero q)⟩
    · rw [h4, ← b0]
      apply bitsOf_congr
      intro m hm
      exact ⟨fun q => q.elim, fun q => by cases q.1⟩
    · rw [h5, ← b0]
      apply bitsOf_congr
      intro m hm
      exact ⟨fun q => q.elim, fun q => by cases q.1⟩
  obtain ⟨σ1, c1, c2, c3, c4⟩ := g_cross_l (n := n) (x1 := nI (s ^^^ (s &&& z))) (σ0 := σ0) false [] hn hI hi hh hx0 hb hs e00 hW hr (fun j hj => by
    obtain ⟨r, e⟩ := fL_more s z false j (7 - j)
    rw [show j + (7 - j) = 7 by omega] at e
    refine ⟨r ++ fL s z true 7, ?_⟩
    unfold rowL
    rw [e, List.nil_append, List.append_assoc]) (fun j hj => by rw [bit_is (by omega) hj, off_bit]) n 0 σ0 hT frC.rf g0 (by omega) (by omega)
  obtain ⟨σ2, d1, d2, d3, d4⟩ := g_cross_l (n := n) (x1 := nI z) (σ0 := σ0) true (fL s z false 7) hn hI hi hh hx0 hb hs e00 hW hr (fun j hj => by
    obtain ⟨r, e⟩ := fL_more s z true j (7 - j)
    rw [show j + (7 - j) = 7 by omega] at e
    refine ⟨r, ?_⟩
    unfold rowL
    rw [e, List.append_assoc]) (fun j hj => by
    rw [bit_is (by omega) hj]
    unfold fB
    cases q : z.testBit j
    · cases s.testBit j <;> simp
    · rw [hzs j q]
      simp) n 0 σ1 c4 c3 (by
      have e0 : fL s z false 7 ++ fL s z true 0 = fL s z false 7 := List.append_nil _
      rw [e0]
      exact c2) (by omega) (by omega)
  refine ⟨σ1, σ2, c1, ?_, ?_, d2, d3, d4⟩
  · rw [pc_eq ho, off_len hs]
  · have e0 : fL s z false 7 ++ fL s z true 0 = fL s z false 7 := List.append_nil _
    rw [e0] at d1
    exact d1
