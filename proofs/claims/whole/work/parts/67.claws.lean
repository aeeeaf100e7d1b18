theorem frCaA {P : Nat → Prop} {σ σ1 : bS} {o : Nat} {i v : Int32} (h : frC P σ σ1) (hp : P o) : frC P σ (uA σ1 o i v) := h.trans (frC.uA hp)
theorem frCaI {P : Nat → Prop} {σ σ1 : bS} {o k : Nat} {v : Int32} (h : frC P σ σ1) (hp : P o) : frC P σ (uI σ1 o k v) := h.trans (frC.uI hp)
theorem frCaC {P : Nat → Prop} {σ σ1 : bS} {o o0 : Nat} {a b c : Int32} (h : frC P σ σ1) (hp : P o) : frC P σ (uC σ1 o0 o a b c) := h.trans (frC.uC hp)
theorem frMaA {PI PA : Nat → Prop} {σ σ1 : bS} {o : Nat} {i v : Int32} (h : frM PI PA σ σ1) (hp : PA o) : frM PI PA σ (uA σ1 o i v) := h.trans (frM.uA hp)
theorem frMaI {PI PA : Nat → Prop} {σ σ1 : bS} {k : Nat} {v : Int32} (h : frM PI PA σ σ1) (hp : PI k) : frM PI PA σ (uI σ1 0 k v) := h.trans (frM.uI hp)
/-! laws asked -/
def vr (T : aT) (G : aG) (m : Nat) (la h : Int32) : Nat → Int32 := fun k => if k = 0 then h else if k = 1 then la else if k = 2 then G 8 m else if k = 3 then G 7 m else if k = 4 then nI (tHome T m) else if k = 5 then nI m else if k = 6 then G 5 m else G 9 m
theorem sI_uA (σ : bS) (a : Nat) (i v : Int32) (o k : Nat) : sI (uA σ a i v) o k = sI σ o k := rfl
theorem sA_uA (σ : bS) {a a1 : Nat} (h : Nat.beq a1 a = false) (i v j : Int32) : sA (uA σ a i v) a1 j = sA σ a1 j := by
  show (bif Nat.beq a1 a then upd (σ.2.1 a) i.toNatClampNeg v else σ.2.1 a1) _ = _
  rw [h]
  rfl
theorem sA_uI (σ : bS) (o k : Nat) (v : Int32) (a : Nat) (j : Int32) : sA (uI σ o k v) a j = sA σ a j := rfl
theorem nI_div {a b : Nat} (ha : a < 2 ^ 31) (hb : b < 2 ^ 31) (h0 : 0 < b) : nI a / nI b = nI (a / b) := by
  apply Int32.toInt_inj.mp
  have hab : a / b ≤ a := Nat.div_le_self a b
  rw [Int32.toInt_div, nI_toInt ha, nI_toInt hb, nI_toInt (by omega), ← Int.ofNat_tdiv]
  generalize a / b = q at hab
  rw [Int.bmod_eq_of_le] <;> omega
theorem nI_mul (a b : Nat) : nI a * nI b = nI (a * b) := (Int32.ofNat_mul a b).symm
theorem brem_n {a b : Nat} (ha : a < 2 ^ 31) (hb : b < 2 ^ 31) (h0 : 0 < b) : brem (nI a) (nI b) = nI (a % b) := by
  have h : a / b * b ≤ a := Nat.div_mul_le_self a b
  show nI a - nI a / nI b * nI b = _
  rw [nI_div ha hb h0, nI_mul, nI_sub h]
  congr 1
  have := Nat.div_add_mod a b
  rw [Nat.mul_comm] at this
  omega
theorem fmod_n {n h : Nat} (hh : h < 2 ^ 31) (σ : bS) : cj_floorMod n (nI h) cb_24 σ = some (nI (h % 24), σ) := by
  unfold cj_floorMod cj_floorMod_b18
  rw [if_neg (by decide), cb_24_n, brem_n hh (by decide) (by decide)]
  have hx : 0 ≤ nI h ^^^ nI 24 := by
    have h1 : (nI h ^^^ nI 24).toBitVec.msb = false := by
      show ((nI h).toBitVec ^^^ (nI 24).toBitVec).msb = false
      rw [BitVec.msb_xor]
      have e1 : (nI h).toBitVec.msb = false := by
        have := nI_pos hh
        rw [BitVec.msb_eq_toInt]
        simp only [decide_eq_false_iff_not]
        intro z
        exact this (Int32.lt_iff_toInt_lt.mpr z)
      rw [e1]
      rfl
    rw [BitVec.msb_eq_toInt] at h1
    simp only [decide_eq_false_iff_not, Int.not_lt] at h1
    exact Int32.le_iff_toInt_le.mpr h1
  rw [if_pos hx]
def sWish (T : aT) (L : aL) (G : aG) (m : Nat) (la : Int32) (h : Nat) : Int32 := match L m with
  | none => nI (tHome T m)
  | some f => if f (vr T G m la (nI (h % 24))) < 0 then -1 else brem (f (vr T G m la (nI (h % 24)))) (nI (tB T))
def clamp (x a b : Int32) : Int32 := if a ≤ x then (if x ≤ b then x else b) else a
def sToll (T : aT) (L : aL) (G : aG) (m b : Nat) (h : Nat) : Int32 := match L (7 + b) with
  | none => 0
  | some f => clamp (f (vr T G m (G 3 b) (nI (h % 24)))) 0 99
def sGoes (T : aT) (L : aL) (G : aG) (m b : Nat) (h : Nat) : Prop := match L 11 with
  | none => False
  | some f => 0 < f (vr T G m (G 3 b) (nI (h % 24)))
theorem sWish_in {T : aT} {L : aL} {G : aG} {m h : Nat} {la : Int32} (hI : InvT T L) (hm : m < tM T) : orN (tB T) (sWish T L G m la h) := by
  have hB := hI.1
  have hh := hI.2.2.2.2.2.1 m hm
  unfold sWish
  split
  · exact Or.inr ⟨_, hh, rfl⟩
  · rename_i f hf
    split
    · exact Or.inl rfl
    · rename_i z
      obtain ⟨a, ha, e⟩ := nI_of z
      rw [e, brem_n ha (by omega) (by omega)]
      exact Or.inr ⟨_, Nat.mod_lt _ (by omega), rfl⟩
theorem held_eq {n : Nat} {x a b : Int32} {σ : bS} (hab : a ≤ b) : cGoing_held n x a b σ = some (clamp x a b, σ) := by
  unfold cGoing_held cj_min cj_min_b10 cj_max cj_max_b10 clamp
  by_cases h1 : x < b
  · rw [if_pos h1, ob_def]
    by_cases h2 : a < x
    · rw [if_pos h2, ob_def, if_pos (Int32.le_of_lt h2), if_pos (Int32.le_of_lt h1)]
    · rw [if_neg h2, ob_def]
      by_cases h3 : a ≤ x
      · rw [if_pos h3, if_pos (Int32.le_of_lt h1), Int32.le_antisymm h3 (Int32.not_lt.mp h2)]
      · rw [if_neg h3]
  · rw [if_neg h1, ob_def]
    have hbx := Int32.not_lt.mp h1
    rw [if_pos (Int32.le_trans hab hbx)]
    by_cases h2 : a < b
    · rw [if_pos h2, ob_def]
      by_cases h3 : x ≤ b
      · rw [if_pos h3, Int32.le_antisymm h3 hbx]
      · rw [if_neg h3]
    · rw [if_neg h2, ob_def]
      have e : a = b := Int32.le_antisymm hab (Int32.not_lt.mp h2)
      by_cases h3 : x ≤ b
      · rw [if_pos h3, Int32.le_antisymm h3 hbx, e]
      · rw [if_neg h3, e]
theorem within_eq {n : Nat} {x a b : Int32} {σ : bS} : m_within n x a b σ = some (clamp x a b, σ) := by
  unfold m_within m_within_b19 clamp
  by_cases h1 : a ≤ x
  · rw [if_pos h1, if_pos h1]
    by_cases h2 : x ≤ b
    · rw [if_pos h2, if_pos h2]
    · rw [if_neg h2, if_neg h2]
  · rw [if_neg h1, if_neg h1]
theorem c_look {T : aT} {L : aL} {n m h : Nat} {G : aG} {la : Int32} {σ : bS} (hI : InvT T L) (hT : CT T L σ) (hG : CG 27 G σ) (hm : m < tM T) (hh : h < 2 ^ 31) : ∃ σ', cGoing_look n (nI m) la (nI h) σ = some σ' ∧ (∀ k, k < 8 → σ'.2.1 13 k = vr T G m la (nI (h % 24)) k) ∧ frC (fun a => a = 13) σ σ' := by
  have hM := hI.2.2.2.1
  have e1 : sA σ 33 (nI m) = G 8 m := (sA_n _ _ (by omega)).trans (hG.2.2 m (by omega)).2.2.2.1
  have e2 : sA σ 32 (nI m) = G 7 m := (sA_n _ _ (by omega)).trans (hG.2.2 m (by omega)).2.2.1
  have e3 : sA σ 6 (nI m) = nI (tHome T m) := (sA_n _ _ (by omega)).trans (hT.2.2.2.1 m hm)
  have e4 : sA σ 30 (nI m) = G 5 m := (sA_n _ _ (by omega)).trans (hG.2.2 m (by omega)).1
  have e5 : sA σ 34 (nI m) = G 9 m := (sA_n _ _ (by omega)).trans (hG.2.2 m (by omega)).2.2.2.2
  unfold cGoing_look
  rw [fmod_n hh, ob_def]
  simp (disch := first | omega | decide) only [ci0_nI, ci1_nI, ci_2_n, ci_3_n, ci_4_n, ci_5_n, cb_6_n, cb7_nI, bin_nI, sA_uA, e1, e2, e3, e4, e5]
  refine ⟨_, rfl, fun k hk => ?_, frCaA (frCaA (frCaA (frCaA (frCaA (frCaA (frCaA (frCaA frC.rf rfl) rfl) rfl) rfl) rfl) rfl) rfl) rfl⟩
  match k, hk with
  | 0, _ => rfl
  | 1, _ => rfl
  | 2, _ => rfl
  | 3, _ => rfl
  | 4, _ => rfl
  | 5, _ => rfl
  | 6, _ => rfl
  | 7, _ => rfl
  | k + 8, hk => omega
theorem c_asked {T : aT} {L : aL} {n m h k : Nat} {G : aG} {la s : Int32} {f : (Nat → Int32) → Int32} {σ : bS} (hn : 500 ≤ n) (hI : InvT T L) (hT : CT T L σ) (hG : CG 27 G σ) (hm : m < tM T) (hh : h < 2 ^ 31) (hf : L k = some f) (hs : CL σ s (L k)) : ∃ σ1 σ2, cGoing_look n (nI m) la (nI h) σ = some σ1 ∧ cLaws_valueOf n s σ1 = some (f (vr T G m la (nI (h % 24))), σ2) ∧ frC (fun a => a = 12 ∨ a = 13) σ σ1 ∧ frC (fun a => a = 12 ∨ a = 13) σ σ2 := by
  obtain ⟨σ1, a1, a2, a3⟩ := c_look (n := n) (la := la) hI hT hG hm hh
  rw [hf] at hs
  obtain ⟨σ2, b1, b2⟩ := hs.2 n σ1 hn (a3 11 (by decide)).2.1 (by rw [(a3 10 (by decide)).1])
  rw [hI.2.2.2.2.2.2.2.2.2.2 k f hf _ _ a2] at b1
  exact ⟨σ1, σ2, a1, b1, a3.mono (fun a h => Or.inr h), (a3.mono (fun a h => Or.inr h)).trans (b2.mono (fun a h => Or.inl h))⟩
theorem c_wishAs {T : aT} {L : aL} {n m h : Nat} {G : aG} {la : Int32} {σ : bS} (hn : 500 ≤ n) (hI : InvT T L) (hT : CT T L σ) (hG : CG 27 G σ) (hm : m < tM T) (hh : h < 2 ^ 31) : ∃ σ', cGoing_wishAs n (nI m) la (nI h) σ = some (sWish T L G m la h, σ') ∧ frC (fun a => a = 12 ∨ a = 13) σ σ' := by
  have hM := hI.2.2.2.1
  have hB := hI.1
  have hH := hI.2.2.2.2.2.1 m hm
  have hl := hT.2.2.2.2.2.1 m hm
  have e1 : sA σ 8 (nI m) = σ.2.1 8 m := sA_n _ _ (by omega)
  have e3 : sA σ 6 (nI m) = nI (tHome T m) := (sA_n _ _ (by omega)).trans (hT.2.2.2.1 m hm)
  unfold cGoing_wishAs sWish
  simp (disch := omega) only [bin_nI, e1]
  cases hL : L m with
  | none =>
    rw [hL] at hl
    have hl : σ.2.1 8 m = -1 := hl
    rw [hl, if_neg (by decide), e3]
    exact ⟨σ, rfl, frC.rf⟩
  | some f =>
    obtain ⟨σ1, σ2, a1, a2, a3, a4⟩ := c_asked (la := la) (h := h) hn hI hT hG hm hh hL hl
    rw [hL] at hl
    have e2 : sA σ1 8 (nI m) = σ.2.1 8 m := by rw [sA_n _ _ (by omega), (a3 8 (by decide)).2.1]
    rw [if_pos hl.1, a1, ob_def, e2, a2, ob_def]
    refine ⟨σ2, ?_, a4⟩
    have eb : sI σ2 1 0 = nI (tB T) := by rw [sI_d, (a4 1 (by decide)).1]; exact hT.1.1
    simp only [eb, cGoing_wishAs_b65, cGoing_wishAs_b79, cim1]
    by_cases z : f (vr T G m la (nI (h % 24))) < 0
    · rw [if_pos z, if_pos z]
    · rw [if_neg z, if_neg (nI_ne0 (by omega) (by omega)), if_neg (nI_ne0 (by omega) (by omega)), if_neg z]
theorem c_tollNow {T : aT} {L : aL} {n m b h : Nat} {G : aG} {σ : bS} (hn : 500 ≤ n) (hI : InvT T L) (hT : CT T L σ) (hG : CG 27 G σ) (hm : m < tM T) (hb : b < tG T) (hh : h < 2 ^ 31) (hh2 : G 0 0 = nI h) : ∃ σ', cGoing_tollNow n (nI m) (nI b) σ = some (sToll T L G m b h, σ') ∧ frC (fun a => a = 12 ∨ a = 13) σ σ' := by
  have hGG := hI.2.2.1
  have hl := hT.2.2.2.2.2.2.1 b hb
  have e1 : sA σ 9 (nI b) = σ.2.1 9 b := sA_n _ _ (by omega)
  have e3 : sA σ 28 (nI b) = G 3 b := (sA_n _ _ (by omega)).trans (hG.2.1 b (by omega)).1
  have e4 : sI σ 27 2 = nI h := hG.1.1.trans hh2
  unfold cGoing_tollNow sToll
  simp (disch := omega) only [bin_nI, e1, e3, e4]
  cases hL : L (7 + b) with
  | none =>
    rw [hL] at hl
    have hl : σ.2.1 9 b = -1 := hl
    rw [hl, if_neg (by decide), ci0_0]
    exact ⟨σ, rfl, frC.rf⟩
  | some f =>
    obtain ⟨σ1, σ2, a1, a2, a3, a4⟩ := c_asked (la := G 3 b) (h := h) hn hI hT hG hm hh hL hl
    rw [hL] at hl
    have e2 : sA σ1 9 (nI b) = σ.2.1 9 b := by rw [sA_n _ _ (by omega), (a3 9 (by decide)).2.1]
    rw [if_pos hl.1, a1, ob_def, e2, a2, ob_def, held_eq (by decide), ob_def]
    exact ⟨σ2, rfl, a4⟩
theorem c_wishNow {T : aT} {L : aL} {n m b h : Nat} {G : aG} {σ : bS} (hn : 500 ≤ n) (hI : InvT T L) (hT : CT T L σ) (hG : CG 27 G σ) (hm : m < tM T) (hb : b < tG T) (hh : h < 2 ^ 31) (hh2 : G 0 0 = nI h) : ∃ σ', cGoing_wishNow n (nI m) (nI b) σ = some (sWish T L G m (G 3 b) h, σ') ∧ frC (fun a => a = 12 ∨ a = 13) σ σ' := by
  have hGG := hI.2.2.1
  have e3 : sA σ 28 (nI b) = G 3 b := (sA_n _ _ (by omega)).trans (hG.2.1 b (by omega)).1
  have e4 : sI σ 27 2 = nI h := hG.1.1.trans hh2
  obtain ⟨σ', a1, a2⟩ := c_wishAs (la := G 3 b) hn hI hT hG hm hh
  refine ⟨σ', ?_, a2⟩
  unfold cGoing_wishNow
  rw [bin_nI (by omega) (by decide), e3, e4, a1]
  rfl
theorem c_could {T : aT} {L : aL} {n m b h : Nat} {G : aG} {σ : bS} (hn : 500 ≤ n) (hI : InvT T L) (hT : CT T L σ) (hG : CG 27 G σ) (hm : m < tM T) (hb : b < tG T) (hh : h < 2 ^ 31) (hh2 : G 0 0 = nI h) : ∃ σ', cGoing_couldCross n (nI m) (nI b) σ = some (if G 5 m = nI (tFoot T b) ∧ ¬ G 7 m < sToll T L G m b h then 1 else 0, σ') ∧ frC (fun a => a = 12 ∨ a = 13) σ σ' := by
  have hGG := hI.2.2.1
  have hM := hI.2.2.2.1
  have e1 : sA σ 30 (nI m) = G 5 m := (sA_n _ _ (by omega)).trans (hG.2.2 m (by omega)).1
  have e2 : sA σ 3 (nI b) = nI (tFoot T b) := (sA_n _ _ (by omega)).trans (hT.2.2.1 b hb)
  unfold cGoing_couldCross cGoing_couldCross_b37 cGoing_couldCross_b38
  simp (disch := omega) only [bin_nI, e1, e2]
  by_cases z : G 5 m = nI (tFoot T b)
  · obtain ⟨σ1, a1, a2⟩ := c_tollNow hn hI hT hG hm hb hh hh2
    have e3 : sA σ1 32 (nI m) = G 7 m := by rw [sA_n _ _ (by omega), (a2 32 (by decide)).2.1]; exact (hG.2.2 m (by omega)).2.2.1
    rw [if_pos z, a1, ob_def, e3]
    refine ⟨σ1, ?_, a2⟩
    by_cases y : G 7 m < sToll T L G m b h
    · rw [if_pos y, if_neg (fun q => q.2 y)]; rfl
    · rw [if_neg y, if_pos ⟨z, y⟩]; rfl
  · rw [if_neg z, if_neg (fun q => z q.1)]
    exact ⟨σ, rfl, frC.rf⟩
theorem c_goes {T : aT} {L : aL} {n m b h : Nat} {G : aG} {σ : bS} (hn : 500 ≤ n) (hI : InvT T L) (hT : CT T L σ) (hG : CG 27 G σ) (hm : m < tM T) (hb : b < tG T) (hh : h < 2 ^ 31) (hh2 : G 0 0 = nI h) : ∃ (r : Int32) (σ' : bS), cGoing_wouldGo n (nI m) (nI b) σ = some (r, σ') ∧ ((r = 1 ∧ sGoes T L G m b h) ∨ (r = 0 ∧ ¬ sGoes T L G m b h)) ∧ frC (fun a => a = 12 ∨ a = 13) σ σ' := by
  have hGG := hI.2.2.1
  have hl := hT.2.2.2.2.2.2.2.1
  have e3 : sA σ 28 (nI b) = G 3 b := (sA_n _ _ (by omega)).trans (hG.2.1 b (by omega)).1
  have e4 : sI σ 27 2 = nI h := hG.1.1.trans hh2
  unfold cGoing_wouldGo cGoing_wouldGo_b52 sGoes
  simp (disch := omega) only [bin_nI, e3, e4]
  rw [sI_d]
  cases hL : L 11 with
  | none =>
    rw [hL] at hl
    have hl : σ.1 1 12 = -1 := hl
    rw [hl, if_neg (by decide)]
    exact ⟨0, σ, rfl, Or.inr ⟨rfl, fun z => z⟩, frC.rf⟩
  | some f =>
    obtain ⟨σ1, σ2, a1, a2, a3, a4⟩ := c_asked (la := G 3 b) (h := h) hn hI hT hG hm hh hL hl
    rw [hL] at hl
    have e2 : sI σ1 1 12 = σ.1 1 12 := by rw [sI_d, (a3 1 (by decide)).1]
    rw [if_pos hl.1, a1, ob_def, e2, a2, ob_def]
    by_cases z : f (vr T G m (G 3 b) (nI (h % 24))) ≤ 0
    · rw [if_pos z]
      exact ⟨0, σ2, rfl, Or.inr ⟨rfl, fun y => Int32.not_lt.mpr z y⟩, a4⟩
    · rw [if_neg z]
      exact ⟨1, σ2, rfl, Or.inl ⟨rfl, Int32.not_le.mp z⟩, a4⟩
theorem c_look_d {T : aT} {L : aL} {n m h : Nat} {G : aG} {la : Int32} {σ : bS} (hI : InvT T L) (hT : CT T L σ) (hG : CG 35 G σ) (hm : m < tM T) (hh : h < 2 ^ 31) : ∃ σ', cGoing_look_d n (nI m) la (nI h) σ = some σ' ∧ (∀ k, k < 8 → σ'.2.1 13 k = vr T G m la (nI (h % 24)) k) ∧ frC (fun a => a = 13) σ σ' := by
  have hM := hI.2.2.2.1
  have e1 : sA σ 41 (nI m) = G 8 m := (sA_n _ _ (by omega)).trans (hG.2.2 m (by omega)).2.2.2.1
  have e2 : sA σ 40 (nI m) = G 7 m := (sA_n _ _ (by omega)).trans (hG.2.2 m (by omega)).2.2.1
  have e3 : sA σ 6 (nI m) = nI (tHome T m) := (sA_n _ _ (by omega)).trans (hT.2.2.2.1 m hm)
  have e4 : sA σ 38 (nI m) = G 5 m := (sA_n _ _ (by omega)).trans (hG.2.2 m (by omega)).1
  have e5 : sA σ 42 (nI m) = G 9 m := (sA_n _ _ (by omega)).trans (hG.2.2 m (by omega)).2.2.2.2
  unfold cGoing_look_d
  rw [fmod_n hh, ob_def]
  simp (disch := first | omega | decide) only [ci0_nI, ci1_nI, ci_2_n, ci_3_n, ci_4_n, ci_5_n, cb_6_n, cb7_nI, bin_nI, sA_uA, e1, e2, e3, e4, e5]
  refine ⟨_, rfl, fun k hk => ?_, frCaA (frCaA (frCaA (frCaA (frCaA (frCaA (frCaA (frCaA frC.rf rfl) rfl) rfl) rfl) rfl) rfl) rfl) rfl⟩
  match k, hk with
  | 0, _ => rfl
  | 1, _ => rfl
  | 2, _ => rfl
  | 3, _ => rfl
  | 4, _ => rfl
  | 5, _ => rfl
  | 6, _ => rfl
  | 7, _ => rfl
  | k + 8, hk => omega
theorem c_asked_d {T : aT} {L : aL} {n m h k : Nat} {G : aG} {la s : Int32} {f : (Nat → Int32) → Int32} {σ : bS} (hn : 500 ≤ n) (hI : InvT T L) (hT : CT T L σ) (hG : CG 35 G σ) (hm : m < tM T) (hh : h < 2 ^ 31) (hf : L k = some f) (hs : CL σ s (L k)) : ∃ σ1 σ2, cGoing_look_d n (nI m) la (nI h) σ = some σ1 ∧ cLaws_valueOf n s σ1 = some (f (vr T G m la (nI (h % 24))), σ2) ∧ frC (fun a => a = 12 ∨ a = 13) σ σ1 ∧ frC (fun a => a = 12 ∨ a = 13) σ σ2 := by
  obtain ⟨σ1, a1, a2, a3⟩ := c_look_d (n := n) (la := la) hI hT hG hm hh
  rw [hf] at hs
  obtain ⟨σ2, b1, b2⟩ := hs.2 n σ1 hn (a3 11 (by decide)).2.1 (by rw [(a3 10 (by decide)).1])
  rw [hI.2.2.2.2.2.2.2.2.2.2 k f hf _ _ a2] at b1
  exact ⟨σ1, σ2, a1, b1, a3.mono (fun a h => Or.inr h), (a3.mono (fun a h => Or.inr h)).trans (b2.mono (fun a h => Or.inl h))⟩
theorem c_wishAs_d {T : aT} {L : aL} {n m h : Nat} {G : aG} {la : Int32} {σ : bS} (hn : 500 ≤ n) (hI : InvT T L) (hT : CT T L σ) (hG : CG 35 G σ) (hm : m < tM T) (hh : h < 2 ^ 31) : ∃ σ', cGoing_wishAs_d n (nI m) la (nI h) σ = some (sWish T L G m la h, σ') ∧ frC (fun a => a = 12 ∨ a = 13) σ σ' := by
  have hM := hI.2.2.2.1
  have hB := hI.1
  have hH := hI.2.2.2.2.2.1 m hm
  have hl := hT.2.2.2.2.2.1 m hm
  have e1 : sA σ 8 (nI m) = σ.2.1 8 m := sA_n _ _ (by omega)
  have e3 : sA σ 6 (nI m) = nI (tHome T m) := (sA_n _ _ (by omega)).trans (hT.2.2.2.1 m hm)
  unfold cGoing_wishAs_d sWish
  simp (disch := omega) only [bin_nI, e1]
  cases hL : L m with
  | none =>
    rw [hL] at hl
    have hl : σ.2.1 8 m = -1 := hl
    rw [hl, if_neg (by decide), e3]
    exact ⟨σ, rfl, frC.rf⟩
  | some f =>
    obtain ⟨σ1, σ2, a1, a2, a3, a4⟩ := c_asked_d (la := la) (h := h) hn hI hT hG hm hh hL hl
    rw [hL] at hl
    have e2 : sA σ1 8 (nI m) = σ.2.1 8 m := by rw [sA_n _ _ (by omega), (a3 8 (by decide)).2.1]
    rw [if_pos hl.1, a1, ob_def, e2, a2, ob_def]
    refine ⟨σ2, ?_, a4⟩
    have eb : sI σ2 1 0 = nI (tB T) := by rw [sI_d, (a4 1 (by decide)).1]; exact hT.1.1
    simp only [eb, cGoing_wishAs_d_b65, cGoing_wishAs_d_b79, cim1]
    by_cases z : f (vr T G m la (nI (h % 24))) < 0
    · rw [if_pos z, if_pos z]
    · rw [if_neg z, if_neg (nI_ne0 (by omega) (by omega)), if_neg (nI_ne0 (by omega) (by omega)), if_neg z]
theorem c_tollNow_d {T : aT} {L : aL} {n m b h : Nat} {G : aG} {σ : bS} (hn : 500 ≤ n) (hI : InvT T L) (hT : CT T L σ) (hG : CG 35 G σ) (hm : m < tM T) (hb : b < tG T) (hh : h < 2 ^ 31) (hh2 : G 0 0 = nI h) : ∃ σ', cGoing_tollNow_d n (nI m) (nI b) σ = some (sToll T L G m b h, σ') ∧ frC (fun a => a = 12 ∨ a = 13) σ σ' := by
  have hGG := hI.2.2.1
  have hl := hT.2.2.2.2.2.2.1 b hb
  have e1 : sA σ 9 (nI b) = σ.2.1 9 b := sA_n _ _ (by omega)
  have e3 : sA σ 36 (nI b) = G 3 b := (sA_n _ _ (by omega)).trans (hG.2.1 b (by omega)).1
  have e4 : sI σ 35 2 = nI h := hG.1.1.trans hh2
  unfold cGoing_tollNow_d sToll
  simp (disch := omega) only [bin_nI, e1, e3, e4]
  cases hL : L (7 + b) with
  | none =>
    rw [hL] at hl
    have hl : σ.2.1 9 b = -1 := hl
    rw [hl, if_neg (by decide), ci0_0]
    exact ⟨σ, rfl, frC.rf⟩
  | some f =>
    obtain ⟨σ1, σ2, a1, a2, a3, a4⟩ := c_asked_d (la := G 3 b) (h := h) hn hI hT hG hm hh hL hl
    rw [hL] at hl
    have e2 : sA σ1 9 (nI b) = σ.2.1 9 b := by rw [sA_n _ _ (by omega), (a3 9 (by decide)).2.1]
    rw [if_pos hl.1, a1, ob_def, e2, a2, ob_def, held_eq (by decide), ob_def]
    exact ⟨σ2, rfl, a4⟩
theorem c_wishNow_d {T : aT} {L : aL} {n m b h : Nat} {G : aG} {σ : bS} (hn : 500 ≤ n) (hI : InvT T L) (hT : CT T L σ) (hG : CG 35 G σ) (hm : m < tM T) (hb : b < tG T) (hh : h < 2 ^ 31) (hh2 : G 0 0 = nI h) : ∃ σ', cGoing_wishNow_d n (nI m) (nI b) σ = some (sWish T L G m (G 3 b) h, σ') ∧ frC (fun a => a = 12 ∨ a = 13) σ σ' := by
  have hGG := hI.2.2.1
  have e3 : sA σ 36 (nI b) = G 3 b := (sA_n _ _ (by omega)).trans (hG.2.1 b (by omega)).1
  have e4 : sI σ 35 2 = nI h := hG.1.1.trans hh2
  obtain ⟨σ', a1, a2⟩ := c_wishAs_d (la := G 3 b) hn hI hT hG hm hh
  refine ⟨σ', ?_, a2⟩
  unfold cGoing_wishNow_d
  rw [bin_nI (by omega) (by decide), e3, e4, a1]
  rfl
theorem c_could_d {T : aT} {L : aL} {n m b h : Nat} {G : aG} {σ : bS} (hn : 500 ≤ n) (hI : InvT T L) (hT : CT T L σ) (hG : CG 35 G σ) (hm : m < tM T) (hb : b < tG T) (hh : h < 2 ^ 31) (hh2 : G 0 0 = nI h) : ∃ σ', cGoing_couldCross_d n (nI m) (nI b) σ = some (if G 5 m = nI (tFoot T b) ∧ ¬ G 7 m < sToll T L G m b h then 1 else 0, σ') ∧ frC (fun a => a = 12 ∨ a = 13) σ σ' := by
  have hGG := hI.2.2.1
  have hM := hI.2.2.2.1
  have e1 : sA σ 38 (nI m) = G 5 m := (sA_n _ _ (by omega)).trans (hG.2.2 m (by omega)).1
  have e2 : sA σ 3 (nI b) = nI (tFoot T b) := (sA_n _ _ (by omega)).trans (hT.2.2.1 b hb)
  unfold cGoing_couldCross_d cGoing_couldCross_d_b37 cGoing_couldCross_d_b38
  simp (disch := omega) only [bin_nI, e1, e2]
  by_cases z : G 5 m = nI (tFoot T b)
  · obtain ⟨σ1, a1, a2⟩ := c_tollNow_d hn hI hT hG hm hb hh hh2
    have e3 : sA σ1 40 (nI m) = G 7 m := by rw [sA_n _ _ (by omega), (a2 40 (by decide)).2.1]; exact (hG.2.2 m (by omega)).2.2.1
    rw [if_pos z, a1, ob_def, e3]
    refine ⟨σ1, ?_, a2⟩
    by_cases y : G 7 m < sToll T L G m b h
    · rw [if_pos y, if_neg (fun q => q.2 y)]; rfl
    · rw [if_neg y, if_pos ⟨z, y⟩]; rfl
  · rw [if_neg z, if_neg (fun q => z q.1)]
    exact ⟨σ, rfl, frC.rf⟩
theorem c_goes_d {T : aT} {L : aL} {n m b h : Nat} {G : aG} {σ : bS} (hn : 500 ≤ n) (hI : InvT T L) (hT : CT T L σ) (hG : CG 35 G σ) (hm : m < tM T) (hb : b < tG T) (hh : h < 2 ^ 31) (hh2 : G 0 0 = nI h) : ∃ (r : Int32) (σ' : bS), cGoing_wouldGo_d n (nI m) (nI b) σ = some (r, σ') ∧ ((r = 1 ∧ sGoes T L G m b h) ∨ (r = 0 ∧ ¬ sGoes T L G m b h)) ∧ frC (fun a => a = 12 ∨ a = 13) σ σ' := by
  have hGG := hI.2.2.1
  have hl := hT.2.2.2.2.2.2.2.1
  have e3 : sA σ 36 (nI b) = G 3 b := (sA_n _ _ (by omega)).trans (hG.2.1 b (by omega)).1
  have e4 : sI σ 35 2 = nI h := hG.1.1.trans hh2
  unfold cGoing_wouldGo_d cGoing_wouldGo_d_b52 sGoes
  simp (disch := omega) only [bin_nI, e3, e4]
  rw [sI_d]
  cases hL : L 11 with
  | none =>
    rw [hL] at hl
    have hl : σ.1 1 12 = -1 := hl
    rw [hl, if_neg (by decide)]
    exact ⟨0, σ, rfl, Or.inr ⟨rfl, fun z => z⟩, frC.rf⟩
  | some f =>
    obtain ⟨σ1, σ2, a1, a2, a3, a4⟩ := c_asked_d (la := G 3 b) (h := h) hn hI hT hG hm hh hL hl
    rw [hL] at hl
    have e2 : sI σ1 1 12 = σ.1 1 12 := by rw [sI_d, (a3 1 (by decide)).1]
    rw [if_pos hl.1, a1, ob_def, e2, a2, ob_def]
    by_cases z : f (vr T G m (G 3 b) (nI (h % 24))) ≤ 0
    · rw [if_pos z]
      exact ⟨0, σ2, rfl, Or.inr ⟨rfl, fun y => Int32.not_lt.mpr z y⟩, a4⟩
    · rw [if_neg z]
      exact ⟨1, σ2, rfl, Or.inl ⟨rfl, Int32.not_le.mp z⟩, a4⟩
