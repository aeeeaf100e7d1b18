theorem m_asks_eq {T : aT} {L : aL} {n w m h j : Nat} {G : aG} {la : Int32} {σ : bS} (hI : InvT T L) (hT : MTx T L σ) (hG : MG T w G σ) (hw : σ.1 0 40 = nI w) (hw2 : w ≤ 2000) (hm : m < tM T) (hh : h < 2 ^ 31) (hh2 : G 0 0 = nI h) (hj : j < tB T) (hat : G 5 m = nI j) (hla : orN (tB T) la) : ∃ σ', m_asks n (nI m) (md la) σ = some σ' ∧ (∀ k, k < 8 → σ'.2.1 31 k = vr T G m la (nI (h % 24)) k) ∧ frM (fun _ => False) (fun a => a = 31) σ σ' := by
  have hM := hI.2.2.2.1
  have hB := hI.1
  have e0 : sA σ 29 (nI w) = nI h := (sA_n _ _ (by omega)).trans (hG.1.1.trans hh2)
  have e1 : sA σ 29 (nI (w + 26 + m)) = G 8 m := (sA_n _ _ (by omega)).trans (hG.2.2 m hm).2.2.2.1
  have e2 : sA σ 29 (nI (w + 19 + m)) = G 7 m := (sA_n _ _ (by omega)).trans (hG.2.2 m hm).2.2.1
  have e3 : sA σ 22 (nI m) = nI (tHome T m) := (sA_n _ _ (by omega)).trans (hT.2.2.2.1 m hm)
  have e4 : sA σ 29 (nI (w + 5 + m)) = G 5 m := (sA_n _ _ (by omega)).trans ((hG.2.2 m hm).1.trans (by rw [hat, md_n (by omega)]))
  have e5 : sA σ 29 (nI (w + 33 + m)) = G 9 m := (sA_n _ _ (by omega)).trans (hG.2.2 m hm).2.2.2.2
  have e6 : sI σ 0 40 = nI w := hw
  have key : m_asks n (nI m) (md la) σ = m_asks_b32 n (nI m) ci_1 la (uA σ 31 ci_0 (nI (h % 24))) := by
    unfold m_asks
    rw [e6, bin_nI (by omega) (by decide), if_neg (by decide), bin_c0 (by decide) (by decide), e0, cb_24_n, brem_n hh (by decide) (by decide)]
    rcases hla with rfl | ⟨q, hq, rfl⟩
    · rw [md_m, if_neg (by decide), cim1]
    · rw [md_n (by omega), if_pos (nI_pos' (by omega))]
  rw [key]
  unfold m_asks_b32
  simp (disch := first | omega | decide) only [ci0_nI, ci1_nI, ci_2_n, ci_3_n, ci_4_n, ci_5_n, cb_6_n, cb7_nI, cb_26_n, cb_19_n, cb_33_n, sI_uA, e6, nI_add, bin_nI, sA_uA, e1, e2, e3, e4, e5]
  refine ⟨_, rfl, fun k hk => ?_, frMaA (frMaA (frMaA (frMaA (frMaA (frMaA (frMaA (frMaA frM.rf rfl) rfl) rfl) rfl) rfl) rfl) rfl) rfl⟩
  match k, hk with
  | 0, _ => rfl
  | 1, _ => rfl
  | 2, _ => rfl
  | 3, _ => rfl
  | 4, _ => rfl
  | 5, _ => rfl
  | 6, _ => rfl
  | 7, _ => rfl
  | k + 8, hk => omega
theorem m_law_none {n k : Nat} {z : Int32} {σ : bS} (hk : k < 14) (h : σ.2.1 9 k = -1) : m_lawOf n (nI k) z σ = some (z, σ) := by
  unfold m_lawOf
  rw [bin_nI (by omega) (by decide), sA_n _ _ (by omega), h, cim1, if_pos rfl]
/-- the reference's law k, asked of a man who is at a bank -/
theorem m_asked {T : aT} {L : aL} {n w m h j k : Nat} {G : aG} {la z : Int32} {σ : bS} (hn : 1000 ≤ n) (hI : InvT T L) (hT : MTx T L σ) (hG : MG T w G σ) (hw : σ.1 0 40 = nI w) (hw2 : w ≤ 2000) (hm : m < tM T) (hh : h < 2 ^ 31) (hh2 : G 0 0 = nI h) (hj : j < tB T) (hat : G 5 m = nI j) (hla : orN (tB T) la) (hk : isLaw T k) : ∃ σ1 σ2, m_asks n (nI m) (md la) σ = some σ1 ∧ m_lawOf n (nI k) z σ1 = some ((match L k with | none => z | some f => f (vr T G m la (nI (h % 24)))), σ2) ∧ frM (fun k => k = 46) (fun a => a = 31 ∨ a = 32) σ σ1 ∧ frM (fun k => k = 46) (fun a => a = 31 ∨ a = 32) σ σ2 := by
  have hk14 : k < 14 := by
    have hM := hI.2.2.2.1
    have hG := hI.2.2.1
    unfold isLaw at hk
    omega
  obtain ⟨σ1, a1, a2, a3⟩ := m_asks_eq (n := n) hI hT hG hw hw2 hm hh hh2 hj hat hla
  have hl := hT.2.2.2.2.2 k hk
  have f1 : frM (fun k => k = 46) (fun a => a = 31 ∨ a = 32) σ σ1 := a3.mono (fun _ h => h.elim) (fun _ h => Or.inl h)
  cases hL : L k with
  | none =>
    rw [hL] at hl
    have hl : σ.2.1 9 k = -1 := hl
    exact ⟨σ1, σ1, a1, m_law_none hk14 (by rw [a3.2.1 9 (by decide)]; exact hl), f1, f1⟩
  | some f =>
    rw [hL] at hl
    obtain ⟨σ2, b1, b2⟩ := hl.2 n z σ1 hn (eqH.of (a3.2.1 7 (by decide))) (eqH.of (a3.2.1 8 (by decide))) (eqH.of (a3.2.1 9 (by decide))) (eqH.of (a3.2.1 10 (by decide))) (eqH.of (a3.2.1 11 (by decide)))
    rw [hI.2.2.2.2.2.2.2.2.2.2 k f hL _ _ a2] at b1
    exact ⟨σ1, σ2, a1, b1, f1, f1.trans (b2.mono (fun _ h => h) (fun _ h => Or.inr h))⟩
theorem m_wishOf_eq {T : aT} {L : aL} {n w m b h j : Nat} {G : aG} {σ : bS} (hn : 1000 ≤ n) (hI : InvT T L) (hT : MTx T L σ) (hG : MG T w G σ) (hw : σ.1 0 40 = nI w) (hw2 : w ≤ 2000) (hm : m < tM T) (hb : b < tG T) (hh : h < 2 ^ 31) (hh2 : G 0 0 = nI h) (hj : j < tB T) (hat : G 5 m = nI j) (hla : orN (tB T) (G 3 b)) : ∃ σ', m_wishOf n (nI m) (nI b) σ = some (md (sWish T L G m (G 3 b) h), σ') ∧ frM (fun k => k = 46) (fun a => a = 31 ∨ a = 32) σ σ' := by
  have hM := hI.2.2.2.1
  have hGG := hI.2.2.1
  have hB := hI.1
  have hH := hI.2.2.2.2.2.1 m hm
  have hs := sWish_in (L := L) (G := G) (la := G 3 b) (h := h) hI hm
  obtain ⟨σ1, σ2, a1, a2, a3, a4⟩ := m_asked (z := nI (tHome T m)) hn hI hT hG hw hw2 hm hh hh2 hj hat hla (Or.inl hm)
  have e1 : sA σ 29 (nI (w + 1 + b)) = md (G 3 b) := (sA_n _ _ (by omega)).trans (hG.2.1 b hb).1
  have e6 : sI σ 0 40 = nI w := hw
  have e2 : sA σ1 22 (nI m) = nI (tHome T m) := by rw [sA_n _ _ (by omega), a3.2.1 22 (by decide)]; exact hT.2.2.2.1 m hm
  have e3 : sA σ2 12 ci_0 = nI (tB T) := by rw [sA_c0, a4.2.1 12 (by decide)]; exact hT.1.1
  refine ⟨σ2, ?_, a4⟩
  unfold m_wishOf m_wishOf_b47
  simp (disch := omega) only [ci1_nI, e6, nI_add, bin_nI, e1]
  rw [a1, ob_def, e2, a2, ob_def]
  simp (disch := omega) only [bin_c0 (show 0 < 2 by decide) (by decide), e3]
  unfold sWish at hs ⊢
  cases hL : L m with
  | none =>
    simp only
    rw [if_pos (nI_pos' (by omega)), if_neg (nI_ne0 (by omega) (by omega)), brem_n (by omega) (by omega) (by omega), Nat.mod_eq_of_lt hH, md_n (by omega)]
  | some f =>
    rw [hL] at hs
    simp only at hs ⊢
    by_cases z : f (vr T G m (G 3 b) (nI (h % 24))) < 0
    · rw [if_neg (Int32.not_le.mpr z), if_pos z, md_m, cbm2]
    · obtain ⟨q, hq, e⟩ := nI_of z
      have hd : q % tB T < tB T := Nat.mod_lt _ (by omega)
      rw [if_pos (Int32.not_lt.mp z), if_neg (nI_ne0 (by omega) (by omega)), if_neg z, e, brem_n hq (by omega) (by omega), md_n (by omega)]
theorem m_tollOf_eq {T : aT} {L : aL} {n w m b h j : Nat} {G : aG} {σ : bS} (hn : 1000 ≤ n) (hI : InvT T L) (hT : MTx T L σ) (hG : MG T w G σ) (hw : σ.1 0 40 = nI w) (hw2 : w ≤ 2000) (hm : m < tM T) (hb : b < tG T) (hh : h < 2 ^ 31) (hh2 : G 0 0 = nI h) (hj : j < tB T) (hat : G 5 m = nI j) (hla : orN (tB T) (G 3 b)) : ∃ σ', m_tollOf n (nI m) (nI b) σ = some (sToll T L G m b h, σ') ∧ frM (fun k => k = 46) (fun a => a = 31 ∨ a = 32) σ σ' := by
  have hGG := hI.2.2.1
  obtain ⟨σ1, σ2, a1, a2, a3, a4⟩ := m_asked (z := ci_0) (k := 7 + b) hn hI hT hG hw hw2 hm hh hh2 hj hat hla (Or.inr (Or.inl ⟨by omega, by omega⟩))
  have e1 : sA σ 29 (nI (w + 1 + b)) = md (G 3 b) := (sA_n _ _ (by omega)).trans (hG.2.1 b hb).1
  have e6 : sI σ 0 40 = nI w := hw
  refine ⟨σ2, ?_, a4⟩
  unfold m_tollOf
  simp (disch := omega) only [ci1_nI, e6, nI_add, bin_nI, e1, cb7_nI]
  rw [a1, ob_def, a2, ob_def, within_eq, ob_def]
  unfold sToll
  cases hL : L (7 + b) with
  | none => rfl
  | some f => rfl
theorem m_goesBy_eq {T : aT} {L : aL} {n w m b h j : Nat} {G : aG} {σ : bS} (hn : 1000 ≤ n) (hI : InvT T L) (hT : MTx T L σ) (hG : MG T w G σ) (hw : σ.1 0 40 = nI w) (hw2 : w ≤ 2000) (hm : m < tM T) (hb : b < tG T) (hh : h < 2 ^ 31) (hh2 : G 0 0 = nI h) (hj : j < tB T) (hat : G 5 m = nI j) (hla : orN (tB T) (G 3 b)) : ∃ (r : Int32) (σ' : bS), m_goesBy n (nI m) (nI b) σ = some (r, σ') ∧ ((r = 1 ∧ sGoes T L G m b h) ∨ (r = 0 ∧ ¬ sGoes T L G m b h)) ∧ frM (fun k => k = 46) (fun a => a = 31 ∨ a = 32) σ σ' := by
  have hGG := hI.2.2.1
  obtain ⟨σ1, σ2, a1, a2, a3, a4⟩ := m_asked (z := ci_0) (k := 11) hn hI hT hG hw hw2 hm hh hh2 hj hat hla (Or.inr (Or.inr (Or.inl rfl)))
  have e1 : sA σ 29 (nI (w + 1 + b)) = md (G 3 b) := (sA_n _ _ (by omega)).trans (hG.2.1 b hb).1
  have e6 : sI σ 0 40 = nI w := hw
  unfold m_goesBy m_goesBy_b33
  simp (disch := omega) only [ci1_nI, e6, nI_add, bin_nI, e1, cb_11_n]
  rw [a1, ob_def, a2, ob_def]
  unfold sGoes
  cases hL : L 11 with
  | none =>
    simp only
    rw [if_pos (by decide)]
    exact ⟨0, σ2, rfl, Or.inr ⟨rfl, fun z => z⟩, a4⟩
  | some f =>
    simp only
    by_cases z : f (vr T G m (G 3 b) (nI (h % 24))) ≤ 0
    · rw [if_pos z]
      exact ⟨0, σ2, rfl, Or.inr ⟨rfl, fun y => Int32.not_lt.mpr z y⟩, a4⟩
    · rw [if_neg z]
      exact ⟨1, σ2, rfl, Or.inl ⟨rfl, Int32.not_le.mp z⟩, a4⟩
theorem m_atFoot_eq {T : aT} {L : aL} {i n w m b : Nat} {G : aG} {σ : bS} (hI : InvT T L) (hT : MTx T L σ) (hG : MG T w G σ) (hi : InvG T i G) (hw : σ.1 0 40 = nI w) (hw2 : w ≤ 2000) (hm : m < tM T) (hb : b < tG T) : m_isAtFoot n (nI m) (nI b) σ = some (if G 5 m = nI (tFoot T b) then 1 else 0, σ) := by
  have hB := hI.1
  have hM := hI.2.2.2.1
  have hGG := hI.2.2.1
  have hf := hI.2.2.2.2.1 b hb
  unfold m_isAtFoot
  rcases hi.2.2 m hm with ⟨e1, j, hj, e2⟩ | ⟨e1, j, hj, e2⟩
  · rw [m_isOn0 hw hw2 (by omega) (hG.2.2 m hm).2.1 (by rw [e1]; decide), ob_def, if_pos rfl]
    simp (disch := omega) only [sI_d, hw, ci_5_n, nI_add, bin_nI, sA_n, (hG.2.2 m hm).1, e2, md_n, hT.2.2.1 b hb, m_isAtFoot_b34, m_isAtFoot_b35]
    by_cases z : nI j = nI (tFoot T b)
    · rw [if_pos z, if_pos z]; rfl
    · rw [if_neg z, if_neg z]; rfl
  · rw [m_isOn1 hw hw2 (by omega) (hG.2.2 m hm).2.1 (by rw [e2]; exact nI_pos (by omega)), ob_def, if_neg one_ne, e1, if_neg (fun z => nI_m1 (by omega) z.symm)]
    rfl
theorem m_could_eq {T : aT} {L : aL} {i n w m b h : Nat} {G : aG} {σ : bS} (hn : 1000 ≤ n) (hI : InvT T L) (hT : MTx T L σ) (hG : MG T w G σ) (hi : InvG T i G) (hw : σ.1 0 40 = nI w) (hw2 : w ≤ 2000) (hm : m < tM T) (hb : b < tG T) (hh : h < 2 ^ 31) (hh2 : G 0 0 = nI h) : ∃ σ', m_could n (nI m) (nI b) σ = some (if G 5 m = nI (tFoot T b) ∧ ¬ G 7 m < sToll T L G m b h then 1 else 0, σ') ∧ frM (fun k => k = 46) (fun a => a = 31 ∨ a = 32) σ σ' := by
  have hM := hI.2.2.2.1
  have hf := hI.2.2.2.2.1 b hb
  unfold m_could m_could_b36 m_could_b37
  rw [m_atFoot_eq hI hT hG hi hw hw2 hm hb, ob_def]
  by_cases z : G 5 m = nI (tFoot T b)
  · obtain ⟨σ1, a1, a2⟩ := m_tollOf_eq hn hI hT hG hw hw2 hm hb hh hh2 hf z (hi.2.1 b hb)
    have e6 : sI σ1 0 40 = nI w := (a2.1 40 (by decide)).trans hw
    have e3 : sA σ1 29 (nI (w + 19 + m)) = G 7 m := by rw [sA_n _ _ (by omega), a2.2.1 29 (by decide)]; exact (hG.2.2 m hm).2.2.1
    refine ⟨σ1, ?_, a2⟩
    simp only [if_pos z]
    rw [if_neg one_ne, a1, ob_def]
    simp (disch := omega) only [e6, cb_19_n, nI_add, bin_nI, e3]
    by_cases y : G 7 m < sToll T L G m b h
    · rw [if_pos y, if_neg (fun q => q.2 y)]; rfl
    · rw [if_neg y, if_pos ⟨z, y⟩]; rfl
  · simp only [if_neg z]
    rw [if_pos trivial, if_neg (fun q => z q.1)]
    exact ⟨σ, rfl, frM.rf⟩
