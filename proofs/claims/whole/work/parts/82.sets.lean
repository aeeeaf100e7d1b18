/-! a set of MEN as a number, and who of it is at a FOOT -/
theorem nI_shr {s j : Nat} (hs : s < 2 ^ 31) (hj : j ≤ 7) : nI s >>> (nI j &&& 31) = nI (s >>> j) := by
  have hc : j = 0 ∨ j = 1 ∨ j = 2 ∨ j = 3 ∨ j = 4 ∨ j = 5 ∨ j = 6 ∨ j = 7 := by omega
  have e : (nI j &&& 31).toBitVec.smod 32 = BitVec.ofNat 32 j := by
    rcases hc with rfl | rfl | rfl | rfl | rfl | rfl | rfl | rfl <;> decide
  have hle : s >>> j ≤ s := Nat.shiftRight_le s j
  apply Int32.toBitVec_inj.mp
  rw [Int32.toBitVec_shiftRight, e]
  show (BitVec.ofNat 32 s).sshiftRight (BitVec.ofNat 32 j).toNat = BitVec.ofNat 32 (s >>> j)
  have m : (BitVec.ofNat 32 s).msb = false := by
    rw [BitVec.msb_eq_false_iff_two_mul_lt, BitVec.toNat_ofNat]
    omega
  rw [BitVec.sshiftRight_eq_of_msb_false m]
  apply BitVec.eq_of_toNat_eq
  rw [BitVec.toNat_ushiftRight, BitVec.toNat_ofNat, BitVec.toNat_ofNat, BitVec.toNat_ofNat, Nat.mod_eq_of_lt (show s < 2 ^ 32 by omega), Nat.mod_eq_of_lt (show j < 2 ^ 32 by omega), Nat.mod_eq_of_lt (show s >>> j < 2 ^ 32 by omega)]
theorem bit_eq {s j : Nat} (hs : s < 2 ^ 31) (hj : j ≤ 7) : ((nI s >>> (nI j &&& 31)) &&& ci_1) = if s.testBit j = true then 1 else 0 := by
  rw [nI_shr hs hj, ci1_nI, nI_and, Nat.and_one_is_mod, Nat.shiftRight_eq_div_pow, Nat.testBit_eq_decide_div_mod_eq]
  rcases Nat.mod_two_eq_zero_or_one (s / 2 ^ j) with z | z
  · rw [z]
    rfl
  · rw [z]
    rfl
theorem sub_iff (a s : Nat) : (a &&& s) = s ↔ ∀ j, s.testBit j = true → a.testBit j = true := by
  constructor
  · intro h j hj
    rw [← h, Nat.testBit_and] at hj
    exact (Bool.and_eq_true_iff.mp hj).1
  · intro h
    apply Nat.eq_of_testBit_eq
    intro j
    rw [Nat.testBit_and]
    cases e : s.testBit j
    · simp
    · rw [h j e]
      rfl
theorem bit_lt {s j M : Nat} (hs : s < 2 ^ M) (h : s.testBit j = true) : j < M := by
  by_cases q : j < M
  · exact q
  · have y : s < 2 ^ j := Nat.lt_of_lt_of_le hs (Nat.pow_le_pow_right (by decide) (by omega))
    rw [Nat.testBit_lt_two_pow y] at h
    cases h
theorem bits_sub (P : Nat → Prop) [DecidablePred P] {M s : Nat} (hM : M ≤ 7) (hs : s < 2 ^ M) : (bitsOf P M &&& nI s) = nI s ↔ ∀ j, s.testBit j = true → P j := by
  have h7 : (2 : Nat) ^ M ≤ 2 ^ 7 := Nat.pow_le_pow_right (by decide) hM
  have h9 : bn P M &&& s ≤ s := Nat.and_le_right
  rw [bits_bn P M (by omega), nI_and, nI_eq (by omega) (by omega), sub_iff]
  constructor
  · intro h j hj
    exact (bn_bit P M (bit_lt hs hj)).mp (h j hj)
  · intro h j hj
    exact (bn_bit P M (bit_lt hs hj)).mpr (h j hj)
theorem scases {M : Nat} (hM : M ≤ 7) (x : Int32) : (∃ s, 0 < s ∧ s < 2 ^ M ∧ x = nI s) ∨ (x ≤ 0 ∨ (¬ x ≤ 0 ∧ nI (2 ^ M) ≤ x)) := by
  have h7 : (2 : Nat) ^ M ≤ 2 ^ 7 := Nat.pow_le_pow_right (by decide) hM
  by_cases z : x ≤ 0
  · exact Or.inr (Or.inl z)
  · obtain ⟨s, hs, rfl⟩ := nI_of (fun y => z (Int32.le_of_lt y))
    by_cases q : s < 2 ^ M
    · refine Or.inl ⟨s, ?_, q, rfl⟩
      by_cases y : s = 0
      · subst y
        exact absurd (Int32.le_refl _) z
      · omega
    · exact Or.inr (Or.inr ⟨z, (nI_leI (by omega) hs).mpr (by omega)⟩)
theorem c_isSet1 {n s M : Nat} {σ : bS} (h : σ.1 1 3 = nI M) (hM : M ≤ 7) (h0 : 0 < s) (hs : s < 2 ^ M) : cTop_isSet n (nI s) σ = some (1, σ) := by
  have h7 : (2 : Nat) ^ M ≤ 2 ^ 7 := Nat.pow_le_pow_right (by decide) hM
  unfold cTop_isSet
  rw [if_neg (show ¬ nI s ≤ 0 from nI_ge (a := 0) h0 (by omega)), sI_d, h, ci1_1, one_shl hM, if_neg (nI_ge hs (by omega)), ← ci1_1]
  rfl
theorem c_isSet0 {n M : Nat} {x : Int32} {σ : bS} (h : σ.1 1 3 = nI M) (hM : M ≤ 7) (hx : x ≤ 0 ∨ (¬ x ≤ 0 ∧ nI (2 ^ M) ≤ x)) : cTop_isSet n x σ = some (0, σ) := by
  unfold cTop_isSet
  rcases hx with z | ⟨z, y⟩
  · rw [if_pos z]; rfl
  · rw [if_neg z, sI_d, h, ci1_1, one_shl hM, if_pos y]; rfl
theorem m_foot_l {T : aT} {L : aL} {i n b s : Nat} {G : aG} {σ : bS} (hI : InvT T L) (hT : MTx T L σ) (hG : MG T 0 G σ) (hi : InvG T i G) (hw : σ.1 0 40 = nI 0) (hb : b < tG T) (hs : s < 2 ^ tM T) : ∀ (k j : Nat), j ≤ tM T → tM T < j + k → (∀ m, m < j → s.testBit m = true → G 5 m = nI (tFoot T b)) → ∃ r, m_areAtFoot_b7 n k (nI b) (nI s) (nI j) σ = some (r, σ) ∧ ((r = 1 ∧ ∀ m, s.testBit m = true → G 5 m = nI (tFoot T b)) ∨ (r = 0 ∧ ¬ ∀ m, s.testBit m = true → G 5 m = nI (tFoot T b)))
  | 0, j, h1, h2, a => by omega
  | k + 1, j, h1, h2, a => by
    have hM := hI.2.2.2.1
    have h7 : (2 : Nat) ^ tM T ≤ 2 ^ 7 := Nat.pow_le_pow_right (by decide) hM
    rw [m_areAtFoot_b7, bin_c0 (by decide) (by decide), sA_c0, hT.1.2.2.2]
    by_cases hj : j < tM T
    · rw [if_neg (nI_ge hj (by omega)), bit_eq (by omega) (by omega)]
      cases e : s.testBit j
      · rw [if_neg (by decide), m_areAtFoot_b37, ci1_nI, nI_add]
        exact m_foot_l hI hT hG hi hw hb hs k (j + 1) hj (by omega) (fun m hm q => by
          by_cases y : m = j
          · subst y
            rw [e] at q
            cases q
          · exact a m (by omega) q)
      · rw [if_pos rfl, if_pos (show (1 : Int32) = ci_1 by decide), m_atFoot_eq hI hT hG hi hw (by omega) hj hb, ob_def]
        by_cases z : G 5 j = nI (tFoot T b)
        · rw [if_pos z]
          simp only [if_neg one_ne]
          rw [m_areAtFoot_b37, ci1_nI, nI_add]
          exact m_foot_l hI hT hG hi hw hb hs k (j + 1) hj (by omega) (fun m hm q => by
            by_cases y : m = j
            · subst y
              exact z
            · exact a m (by omega) q)
        · rw [if_neg z]
          simp only [if_true]
          exact ⟨0, rfl, Or.inr ⟨rfl, fun q => z (q j e)⟩⟩
    · have e : j = tM T := by omega
      subst e
      rw [if_pos (Int32.le_refl _)]
      exact ⟨1, rfl, Or.inl ⟨rfl, fun m q => a m (bit_lt hs q) q⟩⟩
/-- a row asked for: not one, not at the FOOT, or one -/
theorem row_cases {i n n1 : Nat} {T : aT} {L : aL} {G : aG} {σC σM : bS} (hn : 20 ≤ n) (hn1 : 20 ≤ n1) (H : RelB i T L G σC σM) (x y : Int32) :
    (cTop_rowFault n x y σC = some (-1, σC) ∧ m_isSet n1 x y σM = some (0, σM)) ∨
    (∃ b s, b < tG T ∧ 0 < s ∧ s < 2 ^ tM T ∧ x = nI b ∧ y = nI s ∧ m_isSet n1 x y σM = some (1, σM) ∧
      ((cTop_rowFault n x y σC = some (-2, σC) ∧ m_areAtFoot n1 x y σM = some (0, uI σM 0 40 ci_0)) ∨
       (cTop_rowFault n x y σC = some (0, σC) ∧ m_areAtFoot n1 x y σM = some (1, uI σM 0 40 ci_0) ∧ ∀ m, s.testBit m = true → m < tM T ∧ G 5 m = nI (tFoot T b)))) := by
  have h2 := H.2.1
  have h3 := H.2.2.1
  have hM := H.1.2.2.2.1
  have hGG := H.1.2.2.1
  have h7 : (2 : Nat) ^ tM T ≤ 2 ^ 7 := Nat.pow_le_pow_right (by decide) hM
  have em : sA σM 20 ci_0 = nI (tM T) := (sA_c0 _ _).trans h3.1.2.2.2
  rcases ncases (tG T) (by omega) x with ⟨b, hb, rfl⟩ | hx
  · rcases scases hM y with ⟨s, h0, hs, rfl⟩ | hy
    · right
      refine ⟨b, s, hb, h0, hs, rfl, rfl, ?_, ?_⟩
      · unfold m_isSet
        rw [m_isBridge1 h3.1.2.2.1 (by omega) hb, ob_def, if_neg one_ne, if_neg (show ¬ nI s ≤ 0 from nI_ge (a := 0) h0 (by omega)), bin_c0 (by decide) (by decide), em, ci1_1, one_shl hM, if_neg (nI_ge hs (by omega)), ← ci1_1]
        rfl
      · obtain ⟨r, m1, m2⟩ := m_foot_l (n := n1) (σ := uI σM 0 40 ci_0) (s := s) H.1 (h3.of (fun _ _ _ => rfl)) H.2.2.2.2.1 H.2.2.2.2.2.1 rfl hb hs n1 0 (by omega) (by omega) (fun m hm => by omega)
        have m1' : m_areAtFoot n1 (nI b) (nI s) σM = some (r, uI σM 0 40 ci_0) := m1
        have e3 : sA σC 3 (nI b) = nI (tFoot T b) := (sA_n _ _ (by omega)).trans (h2.2.2.1 b hb)
        have c1 : cGoing_menAt n (nI (tFoot T b)) σC = some (bitsOf (fun m => σC.2.1 30 m = nI (tFoot T b)) (tM T), σC) := c_menAt_l (n := n) h2.1.2.2.2 hM n 0 (by omega) (by omega)
        have c2 : ((bitsOf (fun m => σC.2.1 30 m = nI (tFoot T b)) (tM T) &&& nI s) = nI s) ↔ ∀ m, s.testBit m = true → G 5 m = nI (tFoot T b) := by
          rw [bits_sub _ hM hs]
          constructor
          · intro q m hm
            rw [← (H.2.2.2.1.2.2 m (by have := bit_lt hs hm; omega)).1]
            exact q m hm
          · intro q m hm
            show σC.2.1 30 m = _
            rw [(H.2.2.2.1.2.2 m (by have := bit_lt hs hm; omega)).1]
            exact q m hm
        have c3 : cTop_rowFault n (nI b) (nI s) σC = (if (bitsOf (fun m => σC.2.1 30 m = nI (tFoot T b)) (tM T) &&& nI s) = nI s then some (0, σC) else some (-2, σC)) := by
          unfold cTop_rowFault
          rw [c_isBridge1 h2.1.2.2.1 (by omega) hb, ob_def, if_neg one_ne, c_isSet1 h2.1.2.2.2 hM h0 hs, ob_def, if_neg one_ne, bin_nI (by omega) (by decide), e3, c1, ob_def, ← cbm2, ← ci0_0]
          rfl
        rcases m2 with ⟨rfl, q⟩ | ⟨rfl, q⟩
        · refine Or.inr ⟨?_, m1', fun m hm => ⟨bit_lt hs hm, q m hm⟩⟩
          rw [c3, if_pos (c2.mpr q)]
        · refine Or.inl ⟨?_, m1'⟩
          rw [c3, if_neg (fun z => q (c2.mp z))]
    · left
      constructor
      · unfold cTop_rowFault cTop_rowFault_b16
        rw [c_isBridge1 h2.1.2.2.1 (by omega) hb, ob_def, if_neg one_ne, c_isSet0 h2.1.2.2.2 hM hy, ob_def, if_pos rfl, cim1]
      · unfold m_isSet
        rw [m_isBridge1 h3.1.2.2.1 (by omega) hb, ob_def, if_neg one_ne]
        rcases hy with z | ⟨z, q⟩
        · rw [if_pos z]; rfl
        · rw [if_neg z, bin_c0 (by decide) (by decide), em, ci1_1, one_shl hM, if_pos q]; rfl
  · left
    constructor
    · unfold cTop_rowFault cTop_rowFault_b16
      rw [c_isBridge0 h2.1.2.2.1 hx, ob_def, if_pos rfl, cim1]
    · unfold m_isSet
      rw [m_isBridge0 h3.1.2.2.1 hx, ob_def, if_pos rfl]
      rfl
