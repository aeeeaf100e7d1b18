/-! the tape -/
theorem lsb255 {i : Nat} (h : i < 8) : (255#32).getLsbD i = true := by
  have hc : i = 0 ∨ i = 1 ∨ i = 2 ∨ i = 3 ∨ i = 4 ∨ i = 5 ∨ i = 6 ∨ i = 7 := by omega
  rcases hc with rfl | rfl | rfl | rfl | rfl | rfl | rfl | rfl <;> decide
theorem nI_bv (y : Int32) : y = nI y.toBitVec.toNat := by
  apply Int32.toBitVec_inj.mp
  show y.toBitVec = BitVec.ofNat 32 y.toBitVec.toNat
  rw [BitVec.ofNat_toNat, BitVec.setWidth_eq]
theorem byte_24 (x : Int32) : ∃ b, b < 256 ∧ ((x >>> (nI 24 &&& 31)) &&& cs_255) = nI b ∧ (bush x (nI 24)).toInt8.toInt32 = (nI b).toInt8.toInt32 := by
  have ey : ((x >>> (nI 24 &&& 31)) &&& cs_255).toBitVec = (x.toBitVec.sshiftRight 24) &&& 255#32 := by
    show ((x >>> (nI 24 &&& 31)).toBitVec &&& cs_255.toBitVec) = _
    rw [Int32.toBitVec_shiftRight, show (nI 24 &&& 31).toBitVec.smod 32 = 24#32 by decide, show cs_255.toBitVec = 255#32 by decide]
    rfl
  have eb : (bush x (nI 24)).toBitVec = x.toBitVec >>> 24 := by
    show (x.toUInt32 >>> ((nI 24).toUInt32 &&& Int32.toUInt32 31)).toBitVec = _
    rw [UInt32.toBitVec_shiftRight, show ((nI 24).toUInt32 &&& Int32.toUInt32 31).toBitVec % 32 = 24#32 by decide]
    rfl
  refine ⟨((x >>> (nI 24 &&& 31)) &&& cs_255).toBitVec.toNat, ?_, nI_bv _, ?_⟩
  · rw [ey, BitVec.toNat_and]
    exact Nat.lt_of_le_of_lt Nat.and_le_right (by decide)
  · rw [← nI_bv]
    apply congrArg
    apply Int8.toBitVec_inj.mp
    show (bush x (nI 24)).toBitVec.signExtend 8 = ((x >>> (nI 24 &&& 31)) &&& cs_255).toBitVec.signExtend 8
    rw [ey, eb]
    apply BitVec.eq_of_getLsbD_eq
    intro i hi
    rw [BitVec.getLsbD_signExtend, BitVec.getLsbD_signExtend, BitVec.getLsbD_and, lsb255 hi, Bool.and_true, BitVec.getLsbD_ushiftRight, BitVec.getLsbD_sshiftRight]
    simp [hi, show i < 32 by omega, show 24 + i < 32 by omega]
theorem byte_16 (x : Int32) : ∃ b, b < 256 ∧ ((x >>> (nI 16 &&& 31)) &&& cs_255) = nI b ∧ (bush x (nI 16)).toInt8.toInt32 = (nI b).toInt8.toInt32 := by
  have ey : ((x >>> (nI 16 &&& 31)) &&& cs_255).toBitVec = (x.toBitVec.sshiftRight 16) &&& 255#32 := by
    show ((x >>> (nI 16 &&& 31)).toBitVec &&& cs_255.toBitVec) = _
    rw [Int32.toBitVec_shiftRight, show (nI 16 &&& 31).toBitVec.smod 32 = 16#32 by decide, show cs_255.toBitVec = 255#32 by decide]
    rfl
  have eb : (bush x (nI 16)).toBitVec = x.toBitVec >>> 16 := by
    show (x.toUInt32 >>> ((nI 16).toUInt32 &&& Int32.toUInt32 31)).toBitVec = _
    rw [UInt32.toBitVec_shiftRight, show ((nI 16).toUInt32 &&& Int32.toUInt32 31).toBitVec % 32 = 16#32 by decide]
    rfl
  refine ⟨((x >>> (nI 16 &&& 31)) &&& cs_255).toBitVec.toNat, ?_, nI_bv _, ?_⟩
  · rw [ey, BitVec.toNat_and]
    exact Nat.lt_of_le_of_lt Nat.and_le_right (by decide)
  · rw [← nI_bv]
    apply congrArg
    apply Int8.toBitVec_inj.mp
    show (bush x (nI 16)).toBitVec.signExtend 8 = ((x >>> (nI 16 &&& 31)) &&& cs_255).toBitVec.signExtend 8
    rw [ey, eb]
    apply BitVec.eq_of_getLsbD_eq
    intro i hi
    rw [BitVec.getLsbD_signExtend, BitVec.getLsbD_signExtend, BitVec.getLsbD_and, lsb255 hi, Bool.and_true, BitVec.getLsbD_ushiftRight, BitVec.getLsbD_sshiftRight]
    simp [hi, show i < 32 by omega, show 16 + i < 32 by omega]
theorem byte_8 (x : Int32) : ∃ b, b < 256 ∧ ((x >>> (nI 8 &&& 31)) &&& cs_255) = nI b ∧ (bush x (nI 8)).toInt8.toInt32 = (nI b).toInt8.toInt32 := by
  have ey : ((x >>> (nI 8 &&& 31)) &&& cs_255).toBitVec = (x.toBitVec.sshiftRight 8) &&& 255#32 := by
    show ((x >>> (nI 8 &&& 31)).toBitVec &&& cs_255.toBitVec) = _
    rw [Int32.toBitVec_shiftRight, show (nI 8 &&& 31).toBitVec.smod 32 = 8#32 by decide, show cs_255.toBitVec = 255#32 by decide]
    rfl
  have eb : (bush x (nI 8)).toBitVec = x.toBitVec >>> 8 := by
    show (x.toUInt32 >>> ((nI 8).toUInt32 &&& Int32.toUInt32 31)).toBitVec = _
    rw [UInt32.toBitVec_shiftRight, show ((nI 8).toUInt32 &&& Int32.toUInt32 31).toBitVec % 32 = 8#32 by decide]
    rfl
  refine ⟨((x >>> (nI 8 &&& 31)) &&& cs_255).toBitVec.toNat, ?_, nI_bv _, ?_⟩
  · rw [ey, BitVec.toNat_and]
    exact Nat.lt_of_le_of_lt Nat.and_le_right (by decide)
  · rw [← nI_bv]
    apply congrArg
    apply Int8.toBitVec_inj.mp
    show (bush x (nI 8)).toBitVec.signExtend 8 = ((x >>> (nI 8 &&& 31)) &&& cs_255).toBitVec.signExtend 8
    rw [ey, eb]
    apply BitVec.eq_of_getLsbD_eq
    intro i hi
    rw [BitVec.getLsbD_signExtend, BitVec.getLsbD_signExtend, BitVec.getLsbD_and, lsb255 hi, Bool.and_true, BitVec.getLsbD_ushiftRight, BitVec.getLsbD_sshiftRight]
    simp [hi, show i < 32 by omega, show 8 + i < 32 by omega]
theorem byte_0 (x : Int32) : ∃ b, b < 256 ∧ ((x >>> (nI 0 &&& 31)) &&& cs_255) = nI b ∧ (bush x (nI 0)).toInt8.toInt32 = (nI b).toInt8.toInt32 := by
  have ey : ((x >>> (nI 0 &&& 31)) &&& cs_255).toBitVec = (x.toBitVec.sshiftRight 0) &&& 255#32 := by
    show ((x >>> (nI 0 &&& 31)).toBitVec &&& cs_255.toBitVec) = _
    rw [Int32.toBitVec_shiftRight, show (nI 0 &&& 31).toBitVec.smod 32 = 0#32 by decide, show cs_255.toBitVec = 255#32 by decide]
    rfl
  have eb : (bush x (nI 0)).toBitVec = x.toBitVec >>> 0 := by
    show (x.toUInt32 >>> ((nI 0).toUInt32 &&& Int32.toUInt32 31)).toBitVec = _
    rw [UInt32.toBitVec_shiftRight, show ((nI 0).toUInt32 &&& Int32.toUInt32 31).toBitVec % 32 = 0#32 by decide]
    rfl
  refine ⟨((x >>> (nI 0 &&& 31)) &&& cs_255).toBitVec.toNat, ?_, nI_bv _, ?_⟩
  · rw [ey, BitVec.toNat_and]
    exact Nat.lt_of_le_of_lt Nat.and_le_right (by decide)
  · rw [← nI_bv]
    apply congrArg
    apply Int8.toBitVec_inj.mp
    show (bush x (nI 0)).toBitVec.signExtend 8 = ((x >>> (nI 0 &&& 31)) &&& cs_255).toBitVec.signExtend 8
    rw [ey, eb]
    apply BitVec.eq_of_getLsbD_eq
    intro i hi
    rw [BitVec.getLsbD_signExtend, BitVec.getLsbD_signExtend, BitVec.getLsbD_and, lsb255 hi, Bool.and_true, BitVec.getLsbD_ushiftRight, BitVec.getLsbD_sshiftRight]
    simp [hi, show i < 32 by omega, show 0 + i < 32 by omega]
def RTp (t : Nat) (σC σM : bS) : Prop := ∃ (by_ : Nat → Nat), (∀ j, by_ j < 256) ∧ σC.1 0 1 = nI t ∧ σM.1 0 0 = nI t ∧ ∀ j, j < t → σM.2.1 1 j = nI (by_ j) ∧ σC.2.1 43 j = (nI (by_ j)).toInt8.toInt32
/-- one more -/
def pC (t : Nat) (w : Int32) (σ : bS) : bS := uI (uA σ 43 (nI t) w) 0 1 (nI (t + 1))
def pM (t : Nat) (w : Int32) (σ : bS) : bS := uI (uA σ 1 (nI t) w) 0 0 (nI (t + 1))
theorem RTp.put {t b : Nat} {σC σM : bS} (h : RTp t σC σM) (ht : t < 2000) (hb : b < 256) : RTp (t + 1) (pC t (nI b).toInt8.toInt32 σC) (pM t (nI b) σM) := by
  obtain ⟨by_, a1, a2, a3, a4⟩ := h
  refine ⟨fun j => if j = t then b else by_ j, fun j => ?_, ?_, ?_, fun j hj => ?_⟩
  · show (if j = t then b else by_ j) < 256
    split
    · exact hb
    · exact a1 j
  · unfold pC
    rw [uI_1, if_pos ⟨rfl, rfl⟩]
  · unfold pM
    rw [uI_1, if_pos ⟨rfl, rfl⟩]
  · show (uA σM 1 (nI t) (nI b)).2.1 1 j = nI (if j = t then b else by_ j) ∧ (uA σC 43 (nI t) (nI b).toInt8.toInt32).2.1 43 j = (nI (if j = t then b else by_ j)).toInt8.toInt32
    rw [uA_2, uA_2, nI_clamp (by omega)]
    by_cases e : j = t
    · rw [if_pos ⟨rfl, e⟩, if_pos e, if_pos ⟨rfl, e⟩]
      exact ⟨rfl, rfl⟩
    · rw [if_neg (fun z => e z.2), if_neg e, if_neg (fun z => e z.2)]
      exact a4 j (by omega)
def frTC (σ σ' : bS) : Prop := frC (fun a => a = 0 ∨ a = 43) σ σ' ∧ σ'.1 0 2 = σ.1 0 2
def frTM (σ σ' : bS) : Prop := frM (fun k => k = 0) (fun a => a = 1) σ σ'
theorem frTC.trans {σ σ1 σ2 : bS} (h : frTC σ σ1) (h' : frTC σ1 σ2) : frTC σ σ2 := ⟨h.1.trans h'.1, h'.2.trans h.2⟩
theorem frTC.put {t : Nat} {w : Int32} {σ : bS} : frTC σ (pC t w σ) := ⟨frCaI (frCaA frC.rf (Or.inr rfl)) (Or.inl rfl), by unfold pC; rw [uI_1, if_neg (by decide)]; rfl⟩
theorem frTM.put {t : Nat} {w : Int32} {σ : bS} : frTM σ (pM t w σ) := frMaI (frMaA frM.rf rfl) rfl
theorem c_put1 {n k t s : Nat} {x : Int32} {σ : bS} (ht : t < 2000) (hs : s ≤ 24) (h : σ.1 0 1 = nI t) : cTop_putBytes_b3 n (k + 1) x (nI s) σ = cTop_putBytes_b3 n k x (nI s + ci_m8) (pC t (bush x (nI s)).toInt8.toInt32 σ) := by
  have e : sI σ 0 1 = nI t := h
  rw [cTop_putBytes_b3, if_neg (nI_pos (by omega)), e, cs_2000_n, if_neg (nI_ge ht (by omega)), bin_nI ht (by decide), cTop_putBytes_b43, sI_uA, e, ci1_nI, nI_add, pk_vb]
  rfl
theorem m_put1 {n k t j s : Nat} {x : Int32} {σ : bS} (ht : t < 2000) (hj : j < 4) (hs : 8 * j + s = 24) (h : σ.1 0 0 = nI t) : m_typed_b2 n (k + 1) x (nI j) σ = m_typed_b2 n k x (nI (j + 1)) (pM t ((x >>> (nI s &&& 31)) &&& cs_255) σ) := by
  have e : sI σ 0 0 = nI t := h
  rw [m_typed_b2, ci_4_n, if_neg (nI_ge hj (by omega)), m_typed_b23, e, bin_nI ht (by decide), sI_uA, e, ci1_nI, nI_add, nI_add, cb_24_n, cb_8_n, nI_mul, nI_sub (by omega), show 24 - 8 * j = s by omega]
  rfl
theorem put4 {t : Nat} {x : Int32} {σC σM : bS} (ht : t + 4 ≤ 2000) (h : RTp t σC σM) : ∃ σC' σM', cTop_putBytes 1000 x σC = some σC' ∧ m_typed 1000 x σM = some σM' ∧ RTp (t + 4) σC' σM' ∧ frTC σC σC' ∧ frTM σM σM' := by
  obtain ⟨b1, p1, q1, r1⟩ := byte_24 x
  obtain ⟨b2, p2, q2, r2⟩ := byte_16 x
  obtain ⟨b3, p3, q3, r3⟩ := byte_8 x
  obtain ⟨b4, p4, q4, r4⟩ := byte_0 x
  have h1 := h.put (by omega) p1
  have h2 := h1.put (by omega) p2
  have h3 := h2.put (by omega) p3
  have h4 := h3.put (by omega) p4
  refine ⟨_, _, ?_, ?_, h4, ((frTC.put.trans frTC.put).trans frTC.put).trans frTC.put, ((frM.trans frTM.put frTM.put).trans frTM.put).trans frTM.put⟩
  · unfold cTop_putBytes
    rw [cb_24_n, show (1000 : Nat) = 995 + 1 + 1 + 1 + 1 + 1 from rfl]
    obtain ⟨_, _, g0, _⟩ := h
    obtain ⟨_, _, g1, _⟩ := h1
    obtain ⟨_, _, g2, _⟩ := h2
    obtain ⟨_, _, g3, _⟩ := h3
    rw [c_put1 (by omega) (by omega) g0, show nI 24 + ci_m8 = nI 16 by decide, r1, c_put1 (by omega) (by omega) g1, show nI 16 + ci_m8 = nI 8 by decide, r2, c_put1 (by omega) (by omega) g2, show nI 8 + ci_m8 = nI 0 by decide, r3, c_put1 (by omega) (by omega) g3, r4, cTop_putBytes_b3, if_pos (show nI 0 + ci_m8 < 0 by decide)]
    rfl
  · unfold m_typed
    rw [show (1000 : Nat) = 995 + 1 + 1 + 1 + 1 + 1 from rfl, ci0_nI]
    obtain ⟨_, _, _, g0, _⟩ := h
    obtain ⟨_, _, _, g1, _⟩ := h1
    obtain ⟨_, _, _, g2, _⟩ := h2
    obtain ⟨_, _, _, g3, _⟩ := h3
    rw [m_put1 (s := 24) (by omega) (by omega) (by omega) g0, q1, m_put1 (s := 16) (by omega) (by omega) (by omega) g1, q2, m_put1 (s := 8) (by omega) (by omega) (by omega) g2, q3, m_put1 (s := 0) (by omega) (by omega) (by omega) g3, q4, m_typed_b2, ci_4_n, if_pos (show nI 4 ≤ nI (0 + 1 + 1 + 1 + 1) by decide)]
theorem RelB.tape {i t : Nat} {T : aT} {L : aL} {G : aG} {σC σM σC' σM' : bS} (h : RelB i T L G σC σM) (ht : t ≤ 2000) (h' : RTp t σC' σM') (fC : frTC σC σC') (fM : frTM σM σM') : Rel (i + 6) σC' σM' := by
  obtain ⟨h1, h2, h3, h4, h5, h6, h7, h8, h9, h10, h11, h12⟩ := h
  have hT : tG T ≤ 4 ∧ tM T ≤ 7 := ⟨h1.2.2.1, h1.2.2.2.1⟩
  obtain ⟨by_, a1, a2, a3, a4⟩ := h'
  refine ⟨T, L, G, h1, h2.fr fC.1 (fun a x y => by omega), h3.of (fun a x y => fM.2.1 a (by omega)), h4.go fC.1 (fun a x y => by omega), h5.of hT (fun j _ _ => congrFun (fM.2.1 29 (by decide)) j), h6.mono (by omega), h7, ⟨t, by_, ht, a1, a2, a3, a4⟩, ?_, ?_, ?_, ?_⟩
  · rw [fC.2, fM.1 9 (by decide)]; exact h9
  · rw [(fC.1 50 (by decide)).2.2]; exact h10
  · exact h11.of hT (by omega) (fC.1 54 (by decide)).1 (fC.1 55 (by decide)).2.1 (fM.1 42 (by decide)) (fM.1 41 (by decide)) (fM.2.1 30 (by decide)) (fun k _ => congrFun (fM.2.1 29 (by decide)) k)
  · exact h12.of (fC.1 77 (by decide)).1 (fC.1 78 (by decide)).2.1 (fC.1 79 (by decide)).2.1 (fC.1 81 (by decide)).2.1 (fM.1 62 (by decide)) (fM.2.1 44 (by decide)) (fM.2.1 45 (by decide)) (fM.2.1 46 (by decide))
theorem sim_feed {i : Nat} {σC σM : bS} (h : Rel i σC σM) (x1 x2 x3 x4 x5 : Int32) : Sim_feed (Rel (i + 6)) x1 x2 x3 x4 x5 σC σM := by
  have hrel := h
  obtain ⟨T, L, G, H0⟩ := h
  have H : RelB i T L G σC σM := H0
  obtain ⟨t, by_, a1, a2, a3, a4, a5⟩ := H.2.2.2.2.2.2.2.1
  have h0 : RTp t σC σM := ⟨by_, a2, a3, a4, a5⟩
  have e1 : sI σC 0 1 = nI t := a3
  have e2 : sI σM 0 0 = nI t := a4
  by_cases ht : t ≤ 1980
  · obtain ⟨c1, m1, p1, q1, r1, f1, g1⟩ := put4 (x := x1) (by omega) h0
    obtain ⟨c2, m2, p2, q2, r2, f2, g2⟩ := put4 (x := x2) (by omega) r1
    obtain ⟨c3, m3, p3, q3, r3, f3, g3⟩ := put4 (x := x3) (by omega) r2
    obtain ⟨c4, m4, p4, q4, r4, f4, g4⟩ := put4 (x := x4) (by omega) r3
    obtain ⟨c5, m5, p5, q5, r5, f5, g5⟩ := put4 (x := x5) (by omega) r4
    refine ⟨1000, 1000, nI (t + 4 + 4 + 4 + 4 + 4), c5, m5, ?_, ?_, H.tape (by omega) r5 ((((f1.trans f2).trans f3).trans f4).trans f5) ((((frM.trans g1 g2).trans g3).trans g4).trans g5)⟩
    · obtain ⟨_, _, y, _⟩ := r5
      unfold cTop_feed
      rw [e1, show cs_1980 = nI 1980 from cs_1980_n, if_pos ((nI_leI (by omega) (by omega)).mpr ht), p1, ob_def, p2, ob_def, p3, ob_def, p4, ob_def, p5, ob_def, sI_d, y]
    · obtain ⟨_, _, _, y, _⟩ := r5
      unfold m_feed
      rw [e2, cb_20_n, nI_add, cs_2000_n, if_pos ((nI_leI (by omega) (by omega)).mpr (by omega)), q1, ob_def, q2, ob_def, q3, ob_def, q4, ob_def, q5, ob_def, sI_d, y]
  · refine ⟨1000, 1000, -1, σC, σM, ?_, ?_, hrel.mono (by omega)⟩
    · unfold cTop_feed
      rw [e1, show cs_1980 = nI 1980 from cs_1980_n, if_neg (nI_ge (by omega) (by omega)), cim1]
    · unfold m_feed
      rw [e2, cb_20_n, nI_add, cs_2000_n, if_neg (nI_ge (by omega) (by omega)), cim1]
theorem sim_back {i : Nat} {σC σM : bS} (h : Rel i σC σM) (x : Int32) : Sim_back (Rel (i + 6)) x σC σM := by
  have hrel := h
  obtain ⟨T, L, G, H0⟩ := h
  have H : RelB i T L G σC σM := H0
  obtain ⟨t, by_, a1, a2, a3, a4, a5⟩ := H.2.2.2.2.2.2.2.1
  have e1 : sI σC 0 1 = nI t := a3
  have e2 : sI σM 0 0 = nI t := a4
  rcases kcases t (by omega) x with ⟨k, hk, rfl⟩ | hx
  · have u1 : (uI σC 0 1 (nI (t - k))).1 0 1 = nI (t - k) := by rw [uI_1, if_pos ⟨rfl, rfl⟩]
    have u2 : (uI σM 0 0 (nI (t - k))).1 0 0 = nI (t - k) := by rw [uI_1, if_pos ⟨rfl, rfl⟩]
    refine ⟨1000, 1000, nI (t - k), uI σC 0 1 (nI (t - k)), uI σM 0 0 (nI (t - k)), ?_, ?_, H.tape (t := t - k) (by omega) ⟨by_, a2, u1, u2, fun j hj => a5 j (by omega)⟩ ⟨frCaI frC.rf (Or.inl rfl), by rw [uI_1, if_neg (by decide)]⟩ (frMaI frM.rf rfl)⟩
    · unfold cTop_back cTop_back_b21
      rw [if_neg (nI_pos (by omega)), e1, if_pos ((nI_leI (by omega) (by omega)).mpr hk), nI_sub hk, sI_d, u1]
    · unfold m_back m_back_b21
      rw [if_neg (nI_pos (by omega)), e2, if_pos ((nI_leI (by omega) (by omega)).mpr hk), nI_sub hk, sI_d, u2]
  · refine ⟨1000, 1000, -1, σC, σM, ?_, ?_, hrel.mono (by omega)⟩
    · unfold cTop_back cTop_back_b12
      rcases out_neg hx with z | ⟨z1, z2⟩
      · rw [if_pos z, cim1]
      · rw [if_neg z1, e1, if_neg z2, cim1]
    · unfold m_back m_back_b12
      rcases out_neg hx with z | ⟨z1, z2⟩
      · rw [if_pos z, cim1]
      · rw [if_neg z1, e2, if_neg z2, cim1]
