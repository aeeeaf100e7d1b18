/-! by the rule -/
theorem and1 (x : Int32) : (x &&& ci_1) = 0 ∨ (x &&& ci_1) = ci_1 := by
  rcases Nat.mod_two_eq_zero_or_one x.toBitVec.toNat with z | z
  · left
    apply Int32.toBitVec_inj.mp
    apply BitVec.eq_of_toNat_eq
    show (x.toBitVec &&& 1#32).toNat = 0
    rw [BitVec.toNat_and]
    show x.toBitVec.toNat &&& 1 = 0
    rw [Nat.and_one_is_mod]
    exact z
  · right
    apply Int32.toBitVec_inj.mp
    apply BitVec.eq_of_toNat_eq
    show (x.toBitVec &&& 1#32).toNat = 1
    rw [BitVec.toNat_and]
    show x.toBitVec.toNat &&& 1 = 1
    rw [Nat.and_one_is_mod]
    exact z
def isFst (P : Nat → Prop) (c : Nat) (r : Int32) : Prop := (∃ b, b < c ∧ r = nI b ∧ P b ∧ ∀ j, j < b → ¬ P j) ∨ (r = -1 ∧ ∀ j, j < c → ¬ P j)
theorem isFst.uniq {P : Nat → Prop} {c : Nat} {r r' : Int32} (h : isFst P c r) (h' : isFst P c r') : r = r' := by
  rcases h with ⟨b, h1, rfl, h2, h3⟩ | ⟨rfl, h1⟩
  · rcases h' with ⟨b', h1', rfl, h2', h3'⟩ | ⟨rfl, h1'⟩
    · have : b = b' := by
        rcases Nat.lt_trichotomy b b' with z | z | z
        · exact absurd h2 (h3' b z)
        · exact z
        · exact absurd h2' (h3 b' z)
      rw [this]
    · exact absurd h2 (h1' b h1)
  · rcases h' with ⟨b', h1', rfl, h2', h3'⟩ | ⟨rfl, h1'⟩
    · exact absurd h2' (h1 b' h1')
    · rfl
def isRule (P Q : Nat → Prop) (c : Nat) (r : Int32) : Prop := (∃ b, b < c ∧ r = nI b ∧ P b ∧ ∀ j, j < b → ¬ P j) ∨ ((∀ j, j < c → ¬ P j) ∧ isFst Q c r)
theorem isRule.uniq {P Q : Nat → Prop} {c : Nat} {r r' : Int32} (h : isRule P Q c r) (h' : isRule P Q c r') : r = r' := by
  rcases h with z | ⟨h1, h2⟩
  · rcases h' with z' | ⟨h1', h2'⟩
    · exact isFst.uniq (Or.inl z) (Or.inl z')
    · obtain ⟨b, y, -, y2, -⟩ := z
      exact absurd y2 (h1' b y)
  · rcases h' with z' | ⟨h1', h2'⟩
    · obtain ⟨b, y, -, y2, -⟩ := z'
      exact absurd y2 (h1 b y)
    · exact h2.uniq h2'
noncomputable def pick (P Q : Nat → Prop) (c : Nat) : Int32 := @dite Int32 (∃ r, isRule P Q c r) (Classical.propDecidable _) (fun h => Classical.choose h) (fun _ => -1)
theorem pick_eq {P Q : Nat → Prop} {c : Nat} {r : Int32} (h : isRule P Q c r) : pick P Q c = r := by
  unfold pick
  rw [dif_pos ⟨r, h⟩]
  exact (Classical.choose_spec (⟨r, h⟩ : ∃ r, isRule P Q c r)).uniq h
abbrev canB (T : aT) (L : aL) (G : aG) (m b h : Nat) : Prop := G 5 m = nI (tFoot T b) ∧ ¬ G 7 m < sToll T L G m b h
abbrev isFr (U : Int32) (b : Nat) : Prop := ((U >>> (nI b &&& 31)) &&& ci_1) = 0
def P1 (T : aT) (L : aL) (G : aG) (U : Int32) (m h : Nat) : Nat → Prop := fun b => isFr U b ∧ G 3 b = nI (tHome T m) ∧ canB T L G m b h
def P2 (T : aT) (L : aL) (G : aG) (U : Int32) (m h : Nat) : Nat → Prop := fun b => isFr U b ∧ canB T L G m b h ∧ sGoes T L G m b h
noncomputable def sPick (T : aT) (L : aL) (G : aG) (U : Int32) (m h : Nat) : Int32 := pick (P1 T L G U m h) (P2 T L G U m h) (tG T)
/-- what is picked can be crossed -/
theorem isRule.can {T : aT} {L : aL} {G : aG} {U r : Int32} {m h : Nat} (hr : isRule (P1 T L G U m h) (P2 T L G U m h) (tG T) r) : (∃ b, b < tG T ∧ r = nI b ∧ canB T L G m b h) ∨ r = -1 := by
  rcases hr with ⟨b, x1, x2, x3, -⟩ | ⟨-, ⟨b, x1, x2, x3, -⟩ | ⟨x1, -⟩⟩
  · exact Or.inl ⟨b, x1, x2, x3.2.2⟩
  · exact Or.inl ⟨b, x1, x2, x3.2.1⟩
  · exact Or.inr x1
noncomputable def sMan (T : aT) (L : aL) (h : Nat) (x : Int32) (p : Int32 × aG) (m : Nat) : Int32 × aG :=
  if nI m = x ∨ 0 ≤ p.2 6 m ∨ p.2 5 m = nI (tHome T m) then p
  else if 0 ≤ sPick T L p.2 p.1 m h then (p.1 ||| (ci_1 <<< (sPick T L p.2 p.1 m h &&& 31)), sCross T L p.2 m (sPick T L p.2 p.1 m h).toNatClampNeg h)
  else (p.1, gset p.2 9 m (p.2 9 m + 1))
noncomputable def sMen (T : aT) (L : aL) (h : Nat) (x : Int32) (G : aG) : Nat → Int32 × aG
  | 0 => (0, G)
  | m + 1 => sMan T L h x (sMen T L h x G m) m
noncomputable def sRule (T : aT) (L : aL) (h : Nat) (x : Int32) (G : aG) : aG := sHour T (sMen T L h x G (tM T)).2 h
theorem gset9_inv {T : aT} {i m : Nat} {G : aG} {v : Int32} (h : InvG T i G) : InvG T i (gset G 9 m v) := h
theorem c_rule2_l {T : aT} {L : aL} {n m h : Nat} {G : aG} {U : Int32} (hn : 500 ≤ n) (hI : InvT T L) (hm : m < tM T) (hh : h < 2 ^ 31) (hh2 : G 0 0 = nI h) : ∀ (k j : Nat) (σ : bS), CT T L σ → CG 27 G σ → j ≤ tG T → tG T < j + k → (∀ b, b < j → ¬ P2 T L G U m h b) → ∃ (r : Int32) (σ' : bS), cGoing_bridgeByRule_b58 n k (nI m) U (nI j) σ = some (r, σ') ∧ isFst (P2 T L G U m h) (tG T) r ∧ frC sc12 σ σ'
  | 0, j, σ, hT, hG, h1, h2, a => by omega
  | k + 1, j, σ, hT, hG, h1, h2, a => by
    have hGG := hI.2.2.1
    rw [cGoing_bridgeByRule_b58, sI_d, hT.1.2.2.1]
    by_cases hj : j < tG T
    · rw [if_neg (nI_ge hj (by omega))]
      have nx : ¬ P2 T L G U m h j → ∀ b, b < j + 1 → ¬ P2 T L G U m h b := fun z b hb => by
        by_cases e : b = j
        · rw [e]; exact z
        · exact a b (by omega)
      by_cases u : isFr U j
      · rw [if_pos u]
        obtain ⟨σ1, c1, c2⟩ := c_could hn hI hT hG hm hj hh hh2
        by_cases z : canB T L G m j h
        · rw [if_pos z] at c1
          obtain ⟨r, σ2, d1, d2, d3⟩ := c_goes hn hI (hT.scr c2) (hG.scr (by omega) c2) hm hj hh hh2
          rw [c1, ob_def, if_neg one_ne, d1, ob_def]
          rcases d2 with ⟨rfl, y⟩ | ⟨rfl, y⟩
          · rw [if_neg one_ne]
            exact ⟨nI j, σ2, rfl, Or.inl ⟨j, hj, rfl, ⟨u, z, y⟩, a⟩, c2.trans d3⟩
          · rw [if_pos rfl, cGoing_bridgeByRule_b97, ci1_nI, nI_add]
            obtain ⟨r, σ3, e1, e2, e3⟩ := c_rule2_l hn hI hm hh hh2 k (j + 1) σ2 ((hT.scr c2).scr d3) ((hG.scr (by omega) c2).scr (by omega) d3) hj (by omega) (nx (fun q => y q.2.2))
            exact ⟨r, σ3, e1, e2, (c2.trans d3).trans e3⟩
        · rw [if_neg z] at c1
          rw [c1, ob_def, if_pos rfl, cGoing_bridgeByRule_b97, ci1_nI, nI_add]
          obtain ⟨r, σ3, e1, e2, e3⟩ := c_rule2_l hn hI hm hh hh2 k (j + 1) σ1 (hT.scr c2) (hG.scr (by omega) c2) hj (by omega) (nx (fun q => z q.2.1))
          exact ⟨r, σ3, e1, e2, c2.trans e3⟩
      · rw [if_neg u, cGoing_bridgeByRule_b97, ci1_nI, nI_add]
        exact c_rule2_l hn hI hm hh hh2 k (j + 1) σ hT hG hj (by omega) (nx (fun q => u q.1))
    · have e : j = tG T := by omega
      subst e
      rw [if_pos (Int32.le_refl _), cim1]
      exact ⟨-1, σ, rfl, Or.inr ⟨rfl, a⟩, frC.rf⟩
theorem c_rule1_l {T : aT} {L : aL} {n m h : Nat} {G : aG} {U : Int32} (hn : 500 ≤ n) (hI : InvT T L) (hm : m < tM T) (hh : h < 2 ^ 31) (hh2 : G 0 0 = nI h) : ∀ (k j : Nat) (σ : bS), CT T L σ → CG 27 G σ → j ≤ tG T → tG T < j + k → (∀ b, b < j → ¬ P1 T L G U m h b) → ∃ (r : Int32) (σ' : bS), cGoing_bridgeByRule_b2 n k (nI m) U (nI j) σ = some (r, σ') ∧ isRule (P1 T L G U m h) (P2 T L G U m h) (tG T) r ∧ frC sc12 σ σ'
  | 0, j, σ, hT, hG, h1, h2, a => by omega
  | k + 1, j, σ, hT, hG, h1, h2, a => by
    have hGG := hI.2.2.1
    have hMM := hI.2.2.2.1
    rw [cGoing_bridgeByRule_b2, sI_d, hT.1.2.2.1]
    by_cases hj : j < tG T
    · rw [if_neg (nI_ge hj (by omega))]
      have nx : ¬ P1 T L G U m h j → ∀ b, b < j + 1 → ¬ P1 T L G U m h b := fun z b hb => by
        by_cases e : b = j
        · rw [e]; exact z
        · exact a b (by omega)
      by_cases u : isFr U j
      · have q1 : sA σ 28 (nI j) = G 3 j := (sA_n _ _ (by omega)).trans (hG.2.1 j (by omega)).1
        have q2 : sA σ 6 (nI m) = nI (tHome T m) := (sA_n _ _ (by omega)).trans (hT.2.2.2.1 m hm)
        rw [if_pos u, bin_nI (by omega) (by decide), bin_nI (by omega) (by decide), q1, q2]
        by_cases v : G 3 j = nI (tHome T m)
        · rw [if_pos v]
          obtain ⟨σ1, c1, c2⟩ := c_could hn hI hT hG hm hj hh hh2
          by_cases z : canB T L G m j h
          · rw [if_pos z] at c1
            rw [c1, ob_def, if_neg one_ne]
            exact ⟨nI j, σ1, rfl, Or.inl ⟨j, hj, rfl, ⟨u, v, z⟩, a⟩, c2⟩
          · rw [if_neg z] at c1
            rw [c1, ob_def, if_pos rfl, cGoing_bridgeByRule_b50, ci1_nI, nI_add]
            obtain ⟨r, σ3, e1, e2, e3⟩ := c_rule1_l hn hI hm hh hh2 k (j + 1) σ1 (hT.scr c2) (hG.scr (by omega) c2) hj (by omega) (nx (fun q => z q.2.2))
            exact ⟨r, σ3, e1, e2, c2.trans e3⟩
        · rw [if_neg v, cGoing_bridgeByRule_b50, ci1_nI, nI_add]
          exact c_rule1_l hn hI hm hh hh2 k (j + 1) σ hT hG hj (by omega) (nx (fun q => v q.2.1))
      · rw [if_neg u, cGoing_bridgeByRule_b50, ci1_nI, nI_add]
        exact c_rule1_l hn hI hm hh hh2 k (j + 1) σ hT hG hj (by omega) (nx (fun q => u q.1))
    · have e : j = tG T := by omega
      subst e
      rw [if_pos (Int32.le_refl _)]
      obtain ⟨r, σ3, e1, e2, e3⟩ := c_rule2_l (U := U) hn hI hm hh hh2 n 0 σ hT hG (by omega) (by omega) (fun b hb => by omega)
      exact ⟨r, σ3, e1, Or.inr ⟨a, e2⟩, e3⟩
theorem scG_sc : ∀ a, sc12 a → scG 27 a := fun a h => by unfold scG; unfold sc12 at h; omega
theorem c_men_l {T : aT} {L : aL} {i n h : Nat} {x : Int32} {G : aG} (hn : 500 ≤ n) (hI : InvT T L) (hh : h + 1 < 2 ^ 31) (hh2 : G 0 0 = nI h) : ∀ (k j : Nat) (σ : bS), CT T L σ → CG 27 (sMen T L h x G j).2 σ → InvG T i (sMen T L h x G j).2 → (sMen T L h x G j).2 0 0 = nI h → j ≤ tM T → tM T < j + k → ∃ σ', cGoing_ruleHour_b4 n k x (sMen T L h x G j).1 (nI j) σ = some σ' ∧ CG 27 (sRule T L h x G) σ' ∧ frC (scG 27) σ σ' ∧ InvG T i (sMen T L h x G (tM T)).2 ∧ (sMen T L h x G (tM T)).2 0 0 = nI h
  | 0, j, σ, hT, hG, hi, ho, h1, h2 => by omega
  | k + 1, j, σ, hT, hG, hi, ho, h1, h2 => by
    have hGG := hI.2.2.1
    have hMM := hI.2.2.2.1
    rw [cGoing_ruleHour_b4, sI_d, hT.1.2.2.2]
    by_cases hj : j < tM T
    · rw [if_neg (nI_ge hj (by omega))]
      have es : sMen T L h x G (j + 1) = sMan T L h x (sMen T L h x G j) j := rfl
      obtain ⟨U, eU⟩ : ∃ U, U = (sMen T L h x G j).1 := ⟨_, rfl⟩
      obtain ⟨G1, eG⟩ : ∃ G1, G1 = (sMen T L h x G j).2 := ⟨_, rfl⟩
      have ep : sMen T L h x G j = (U, G1) := by rw [eU, eG]
      have skip : (nI j = x ∨ 0 ≤ G1 6 j ∨ G1 5 j = nI (tHome T j)) → ∃ σ', cGoing_ruleHour_b81 n (cGoing_ruleHour_b4 n k) x U (nI j) σ = some σ' ∧ CG 27 (sRule T L h x G) σ' ∧ frC (scG 27) σ σ' ∧ InvG T i (sMen T L h x G (tM T)).2 ∧ (sMen T L h x G (tM T)).2 0 0 = nI h := fun z => by
        have e : sMen T L h x G (j + 1) = sMen T L h x G j := by
          rw [es, ep]
          unfold sMan
          rw [if_pos z]
        rw [cGoing_ruleHour_b81, ci1_nI, nI_add, eU, ← e]
        exact c_men_l hn hI hh hh2 k (j + 1) σ hT (by rw [e]; exact hG) (by rw [e]; exact hi) (by rw [e]; exact ho) hj (by omega)
      rw [← eU]
      rw [← eG] at hG hi ho
      by_cases x1 : nI j = x
      · rw [if_pos x1]
        exact skip (Or.inl x1)
      · have q1 : sA σ 31 (nI j) = G1 6 j := (sA_n _ _ (by omega)).trans (hG.2.2 j (by omega)).2.1
        rw [if_neg x1, bin_nI (by omega) (by decide), q1]
        by_cases x2 : 0 ≤ G1 6 j
        · rw [if_pos x2]
          exact skip (Or.inr (Or.inl x2))
        · rw [if_neg x2, c_isHome hI hT hG hj, ob_def]
          by_cases x3 : G1 5 j = nI (tHome T j)
          · rw [if_pos x3]
            simp only [if_neg one_ne]
            exact skip (Or.inr (Or.inr x3))
          · rw [if_neg x3]
            simp only [if_true]
            obtain ⟨r, σ1, c1, c2, c3⟩ := c_rule1_l (U := U) (h := h) hn hI hj (by omega) ho n 0 σ hT hG (by omega) (by omega) (fun b hb => by omega)
            have er : sPick T L G1 U j h = r := pick_eq c2
            have hT1 := hT.scr c3
            have hG1 := hG.scr (by omega) c3
            have ez : ¬ (nI j = x ∨ 0 ≤ (U, G1).2 6 j ∨ (U, G1).2 5 j = nI (tHome T j)) := by
              rintro (y | y | y)
              · exact x1 y
              · exact x2 y
              · exact x3 y
            unfold cGoing_bridgeByRule
            rw [show cGoing_bridgeByRule_b2 n n (nI j) U ci_0 σ = _ from c1, ob_def]
            rcases c2.can with ⟨b, hb, rfl, hc⟩ | rfl
            · obtain ⟨σ2, d1, d2, d3⟩ := c_cross (h := h) hn hI hT1 hG1 hi hj hb (by omega) ho
              have e : sMen T L h x G (j + 1) = (U ||| (ci_1 <<< (nI b &&& 31)), sCross T L G1 j b h) := by
                rw [es, ep]
                unfold sMan
                rw [if_neg ez]
                show (if 0 ≤ sPick T L G1 U j h then (U ||| (ci_1 <<< (sPick T L G1 U j h &&& 31)), sCross T L G1 j (sPick T L G1 U j h).toNatClampNeg h) else _) = _
                rw [er, if_pos (nI_pos' (by omega)), nI_clamp (by omega)]
              rw [if_pos (nI_pos' (by omega)), d1, ob_def, cGoing_ruleHour_b81, ci1_nI, nI_add, ← ci1_nI, show (U ||| (ci_1 <<< (nI b &&& 31))) = (sMen T L h x G (j + 1)).1 from by rw [e]]
              obtain ⟨σ3, e1, e2, e3, e4⟩ := c_men_l (i := i) hn hI hh hh2 k (j + 1) σ2 (hT1.go (by omega) d3) (by rw [e]; exact d2) (by rw [e]; exact sCross_inv hI hi hj hb) (by rw [e]; exact ho) hj (by omega)
              exact ⟨σ3, e1, e2, ((c3.mono scG_sc).trans d3).trans e3, e4⟩
            · have e : sMen T L h x G (j + 1) = (U, gset G1 9 j (G1 9 j + 1)) := by
                rw [es, ep]
                unfold sMan
                rw [if_neg ez]
                show (if 0 ≤ sPick T L G1 U j h then _ else (U, gset G1 9 j (G1 9 j + 1))) = _
                rw [er, if_neg (by decide)]
              have q9 : sA σ1 34 (nI j) = G1 9 j := (sA_n _ _ (by omega)).trans (hG1.2.2 j (by omega)).2.2.2.2
              rw [if_neg (show ¬ (0 : Int32) ≤ -1 by decide), bin_nI (by omega) (by decide), bin_nI (by omega) (by decide), q9, cGoing_ruleHour_b81, ci1_nI, nI_add, show U = (sMen T L h x G (j + 1)).1 from by rw [e]]
              obtain ⟨σ3, e1, e2, e3, e4⟩ := c_men_l (i := i) hn hI hh hh2 k (j + 1) (uA σ1 34 (nI j) (G1 9 j + nI 1)) (hT1.of (fun a x y => ⟨rfl, uA_o _ _ _ _ (by omega)⟩)) (by
                rw [e]
                refine ⟨hG1.1, fun b hb => ?_, fun m hm => ?_⟩
                · rw [uA_o _ _ _ _ (by decide), uA_o _ _ _ _ (by decide)]
                  exact hG1.2.1 b hb
                · rw [uA_o _ _ _ _ (by decide), uA_o _ _ _ _ (by decide), uA_o _ _ _ _ (by decide), uA_o _ _ _ _ (by decide), uA_2, nI_clamp (by omega), (hG1.2.2 m hm).2.2.2.2]
                  refine ⟨(hG1.2.2 m hm).1, (hG1.2.2 m hm).2.1, (hG1.2.2 m hm).2.2.1, (hG1.2.2 m hm).2.2.2.1, ?_⟩
                  show _ = (if 9 = 9 ∧ m = j then G1 9 j + 1 else G1 9 m)
                  by_cases y : m = j
                  · simp [y]
                    rfl
                  · simp [y]) (by rw [e]; exact gset9_inv hi) (by rw [e]; exact ho) hj (by omega)
              exact ⟨σ3, e1, e2, (frCaA (c3.mono scG_sc) (by unfold scG; omega)).trans e3, e4⟩
    · have e : j = tM T := by omega
      subst e
      rw [if_pos (Int32.le_refl _)]
      obtain ⟨σ1, c1, c2, c3⟩ := c_hour (n := n) (by omega) hI hT hG hh ho
      rw [c1, ob_def]
      exact ⟨σ1, rfl, c2, c3, hi, ho⟩
theorem c_rule {T : aT} {L : aL} {i n h : Nat} {x : Int32} {G : aG} {σ : bS} (hn : 500 ≤ n) (hI : InvT T L) (hT : CT T L σ) (hG : CG 27 G σ) (hi : InvG T i G) (hh : h + 1 < 2 ^ 31) (hh2 : G 0 0 = nI h) : ∃ σ', cGoing_ruleHour n x σ = some σ' ∧ CG 27 (sRule T L h x G) σ' ∧ frC (scG 27) σ σ' ∧ InvG T i (sMen T L h x G (tM T)).2 ∧ (sMen T L h x G (tM T)).2 0 0 = nI h := by
  have hMM := hI.2.2.2.1
  unfold cGoing_ruleHour
  exact c_men_l (x := x) hn hI hh hh2 n 0 σ hT hG hi hh2 (by omega) (by omega)
theorem c_rule2_d_l {T : aT} {L : aL} {n m h : Nat} {G : aG} {U : Int32} (hn : 500 ≤ n) (hI : InvT T L) (hm : m < tM T) (hh : h < 2 ^ 31) (hh2 : G 0 0 = nI h) : ∀ (k j : Nat) (σ : bS), CT T L σ → CG 35 G σ → j ≤ tG T → tG T < j + k → (∀ b, b < j → ¬ P2 T L G U m h b) → ∃ (r : Int32) (σ' : bS), cGoing_bridgeByRule_d_b58 n k (nI m) U (nI j) σ = some (r, σ') ∧ isFst (P2 T L G U m h) (tG T) r ∧ frC sc12 σ σ'
  | 0, j, σ, hT, hG, h1, h2, a => by omega
  | k + 1, j, σ, hT, hG, h1, h2, a => by
    have hGG := hI.2.2.1
    rw [cGoing_bridgeByRule_d_b58, sI_d, hT.1.2.2.1]
    by_cases hj : j < tG T
    · rw [if_neg (nI_ge hj (by omega))]
      have nx : ¬ P2 T L G U m h j → ∀ b, b < j + 1 → ¬ P2 T L G U m h b := fun z b hb => by
        by_cases e : b = j
        · rw [e]; exact z
        · exact a b (by omega)
      by_cases u : isFr U j
      · rw [if_pos u]
        obtain ⟨σ1, c1, c2⟩ := c_could_d hn hI hT hG hm hj hh hh2
        by_cases z : canB T L G m j h
        · rw [if_pos z] at c1
          obtain ⟨r, σ2, d1, d2, d3⟩ := c_goes_d hn hI (hT.scr c2) (hG.scr (by omega) c2) hm hj hh hh2
          rw [c1, ob_def, if_neg one_ne, d1, ob_def]
          rcases d2 with ⟨rfl, y⟩ | ⟨rfl, y⟩
          · rw [if_neg one_ne]
            exact ⟨nI j, σ2, rfl, Or.inl ⟨j, hj, rfl, ⟨u, z, y⟩, a⟩, c2.trans d3⟩
          · rw [if_pos rfl, cGoing_bridgeByRule_d_b97, ci1_nI, nI_add]
            obtain ⟨r, σ3, e1, e2, e3⟩ := c_rule2_d_l hn hI hm hh hh2 k (j + 1) σ2 ((hT.scr c2).scr d3) ((hG.scr (by omega) c2).scr (by omega) d3) hj (by omega) (nx (fun q => y q.2.2))
            exact ⟨r, σ3, e1, e2, (c2.trans d3).trans e3⟩
        · rw [if_neg z] at c1
          rw [c1, ob_def, if_pos rfl, cGoing_bridgeByRule_d_b97, ci1_nI, nI_add]
          obtain ⟨r, σ3, e1, e2, e3⟩ := c_rule2_d_l hn hI hm hh hh2 k (j + 1) σ1 (hT.scr c2) (hG.scr (by omega) c2) hj (by omega) (nx (fun q => z q.2.1))
          exact ⟨r, σ3, e1, e2, c2.trans e3⟩
      · rw [if_neg u, cGoing_bridgeByRule_d_b97, ci1_nI, nI_add]
        exact c_rule2_d_l hn hI hm hh hh2 k (j + 1) σ hT hG hj (by omega) (nx (fun q => u q.1))
    · have e : j = tG T := by omega
      subst e
      rw [if_pos (Int32.le_refl _), cim1]
      exact ⟨-1, σ, rfl, Or.inr ⟨rfl, a⟩, frC.rf⟩
theorem c_rule1_d_l {T : aT} {L : aL} {n m h : Nat} {G : aG} {U : Int32} (hn : 500 ≤ n) (hI : InvT T L) (hm : m < tM T) (hh : h < 2 ^ 31) (hh2 : G 0 0 = nI h) : ∀ (k j : Nat) (σ : bS), CT T L σ → CG 35 G σ → j ≤ tG T → tG T < j + k → (∀ b, b < j → ¬ P1 T L G U m h b) → ∃ (r : Int32) (σ' : bS), cGoing_bridgeByRule_d_b2 n k (nI m) U (nI j) σ = some (r, σ') ∧ isRule (P1 T L G U m h) (P2 T L G U m h) (tG T) r ∧ frC sc12 σ σ'
  | 0, j, σ, hT, hG, h1, h2, a => by omega
  | k + 1, j, σ, hT, hG, h1, h2, a => by
    have hGG := hI.2.2.1
    have hMM := hI.2.2.2.1
    rw [cGoing_bridgeByRule_d_b2, sI_d, hT.1.2.2.1]
    by_cases hj : j < tG T
    · rw [if_neg (nI_ge hj (by omega))]
      have nx : ¬ P1 T L G U m h j → ∀ b, b < j + 1 → ¬ P1 T L G U m h b := fun z b hb => by
        by_cases e : b = j
        · rw [e]; exact z
        · exact a b (by omega)
      by_cases u : isFr U j
      · have q1 : sA σ 36 (nI j) = G 3 j := (sA_n _ _ (by omega)).trans (hG.2.1 j (by omega)).1
        have q2 : sA σ 6 (nI m) = nI (tHome T m) := (sA_n _ _ (by omega)).trans (hT.2.2.2.1 m hm)
        rw [if_pos u, bin_nI (by omega) (by decide), bin_nI (by omega) (by decide), q1, q2]
        by_cases v : G 3 j = nI (tHome T m)
        · rw [if_pos v]
          obtain ⟨σ1, c1, c2⟩ := c_could_d hn hI hT hG hm hj hh hh2
          by_cases z : canB T L G m j h
          · rw [if_pos z] at c1
            rw [c1, ob_def, if_neg one_ne]
            exact ⟨nI j, σ1, rfl, Or.inl ⟨j, hj, rfl, ⟨u, v, z⟩, a⟩, c2⟩
          · rw [if_neg z] at c1
            rw [c1, ob_def, if_pos rfl, cGoing_bridgeByRule_d_b50, ci1_nI, nI_add]
            obtain ⟨r, σ3, e1, e2, e3⟩ := c_rule1_d_l hn hI hm hh hh2 k (j + 1) σ1 (hT.scr c2) (hG.scr (by omega) c2) hj (by omega) (nx (fun q => z q.2.2))
            exact ⟨r, σ3, e1, e2, c2.trans e3⟩
        · rw [if_neg v, cGoing_bridgeByRule_d_b50, ci1_nI, nI_add]
          exact c_rule1_d_l hn hI hm hh hh2 k (j + 1) σ hT hG hj (by omega) (nx (fun q => v q.2.1))
      · rw [if_neg u, cGoing_bridgeByRule_d_b50, ci1_nI, nI_add]
        exact c_rule1_d_l hn hI hm hh hh2 k (j + 1) σ hT hG hj (by omega) (nx (fun q => u q.1))
    · have e : j = tG T := by omega
      subst e
      rw [if_pos (Int32.le_refl _)]
      obtain ⟨r, σ3, e1, e2, e3⟩ := c_rule2_d_l (U := U) hn hI hm hh hh2 n 0 σ hT hG (by omega) (by omega) (fun b hb => by omega)
      exact ⟨r, σ3, e1, Or.inr ⟨a, e2⟩, e3⟩
theorem scG_sc_d : ∀ a, sc12 a → scG 35 a := fun a h => by unfold scG; unfold sc12 at h; omega
theorem c_men_d_l {T : aT} {L : aL} {i n h : Nat} {x : Int32} {G : aG} (hn : 500 ≤ n) (hI : InvT T L) (hh : h + 1 < 2 ^ 31) (hh2 : G 0 0 = nI h) : ∀ (k j : Nat) (σ : bS), CT T L σ → CG 35 (sMen T L h x G j).2 σ → InvG T i (sMen T L h x G j).2 → (sMen T L h x G j).2 0 0 = nI h → j ≤ tM T → tM T < j + k → ∃ σ', cGoing_ruleHour_d_b4 n k x (sMen T L h x G j).1 (nI j) σ = some σ' ∧ CG 35 (sRule T L h x G) σ' ∧ frC (scG 35) σ σ' ∧ InvG T i (sMen T L h x G (tM T)).2 ∧ (sMen T L h x G (tM T)).2 0 0 = nI h
  | 0, j, σ, hT, hG, hi, ho, h1, h2 => by omega
  | k + 1, j, σ, hT, hG, hi, ho, h1, h2 => by
    have hGG := hI.2.2.1
    have hMM := hI.2.2.2.1
    rw [cGoing_ruleHour_d_b4, sI_d, hT.1.2.2.2]
    by_cases hj : j < tM T
    · rw [if_neg (nI_ge hj (by omega))]
      have es : sMen T L h x G (j + 1) = sMan T L h x (sMen T L h x G j) j := rfl
      obtain ⟨U, eU⟩ : ∃ U, U = (sMen T L h x G j).1 := ⟨_, rfl⟩
      obtain ⟨G1, eG⟩ : ∃ G1, G1 = (sMen T L h x G j).2 := ⟨_, rfl⟩
      have ep : sMen T L h x G j = (U, G1) := by rw [eU, eG]
      have skip : (nI j = x ∨ 0 ≤ G1 6 j ∨ G1 5 j = nI (tHome T j)) → ∃ σ', cGoing_ruleHour_d_b81 n (cGoing_ruleHour_d_b4 n k) x U (nI j) σ = some σ' ∧ CG 35 (sRule T L h x G) σ' ∧ frC (scG 35) σ σ' ∧ InvG T i (sMen T L h x G (tM T)).2 ∧ (sMen T L h x G (tM T)).2 0 0 = nI h := fun z => by
        have e : sMen T L h x G (j + 1) = sMen T L h x G j := by
          rw [es, ep]
          unfold sMan
          rw [if_pos z]
        rw [cGoing_ruleHour_d_b81, ci1_nI, nI_add, eU, ← e]
        exact c_men_d_l hn hI hh hh2 k (j + 1) σ hT (by rw [e]; exact hG) (by rw [e]; exact hi) (by rw [e]; exact ho) hj (by omega)
      rw [← eU]
      rw [← eG] at hG hi ho
      by_cases x1 : nI j = x
      · rw [if_pos x1]
        exact skip (Or.inl x1)
      · have q1 : sA σ 39 (nI j) = G1 6 j := (sA_n _ _ (by omega)).trans (hG.2.2 j (by omega)).2.1
        rw [if_neg x1, bin_nI (by omega) (by decide), q1]
        by_cases x2 : 0 ≤ G1 6 j
        · rw [if_pos x2]
          exact skip (Or.inr (Or.inl x2))
        · rw [if_neg x2, c_isHome_d hI hT hG hj, ob_def]
          by_cases x3 : G1 5 j = nI (tHome T j)
          · rw [if_pos x3]
            simp only [if_neg one_ne]
            exact skip (Or.inr (Or.inr x3))
          · rw [if_neg x3]
            simp only [if_true]
            obtain ⟨r, σ1, c1, c2, c3⟩ := c_rule1_d_l (U := U) (h := h) hn hI hj (by omega) ho n 0 σ hT hG (by omega) (by omega) (fun b hb => by omega)
            have er : sPick T L G1 U j h = r := pick_eq c2
            have hT1 := hT.scr c3
            have hG1 := hG.scr (by omega) c3
            have ez : ¬ (nI j = x ∨ 0 ≤ (U, G1).2 6 j ∨ (U, G1).2 5 j = nI (tHome T j)) := by
              rintro (y | y | y)
              · exact x1 y
              · exact x2 y
              · exact x3 y
            unfold cGoing_bridgeByRule_d
            rw [show cGoing_bridgeByRule_d_b2 n n (nI j) U ci_0 σ = _ from c1, ob_def]
            rcases c2.can with ⟨b, hb, rfl, hc⟩ | rfl
            · obtain ⟨σ2, d1, d2, d3⟩ := c_cross_d (h := h) hn hI hT1 hG1 hi hj hb (by omega) ho
              have e : sMen T L h x G (j + 1) = (U ||| (ci_1 <<< (nI b &&& 31)), sCross T L G1 j b h) := by
                rw [es, ep]
                unfold sMan
                rw [if_neg ez]
                show (if 0 ≤ sPick T L G1 U j h then (U ||| (ci_1 <<< (sPick T L G1 U j h &&& 31)), sCross T L G1 j (sPick T L G1 U j h).toNatClampNeg h) else _) = _
                rw [er, if_pos (nI_pos' (by omega)), nI_clamp (by omega)]
              rw [if_pos (nI_pos' (by omega)), d1, ob_def, cGoing_ruleHour_d_b81, ci1_nI, nI_add, ← ci1_nI, show (U ||| (ci_1 <<< (nI b &&& 31))) = (sMen T L h x G (j + 1)).1 from by rw [e]]
              obtain ⟨σ3, e1, e2, e3, e4⟩ := c_men_d_l (i := i) hn hI hh hh2 k (j + 1) σ2 (hT1.go (by omega) d3) (by rw [e]; exact d2) (by rw [e]; exact sCross_inv hI hi hj hb) (by rw [e]; exact ho) hj (by omega)
              exact ⟨σ3, e1, e2, ((c3.mono scG_sc_d).trans d3).trans e3, e4⟩
            · have e : sMen T L h x G (j + 1) = (U, gset G1 9 j (G1 9 j + 1)) := by
                rw [es, ep]
                unfold sMan
                rw [if_neg ez]
                show (if 0 ≤ sPick T L G1 U j h then _ else (U, gset G1 9 j (G1 9 j + 1))) = _
                rw [er, if_neg (by decide)]
              have q9 : sA σ1 42 (nI j) = G1 9 j := (sA_n _ _ (by omega)).trans (hG1.2.2 j (by omega)).2.2.2.2
              rw [if_neg (show ¬ (0 : Int32) ≤ -1 by decide), bin_nI (by omega) (by decide), bin_nI (by omega) (by decide), q9, cGoing_ruleHour_d_b81, ci1_nI, nI_add, show U = (sMen T L h x G (j + 1)).1 from by rw [e]]
              obtain ⟨σ3, e1, e2, e3, e4⟩ := c_men_d_l (i := i) hn hI hh hh2 k (j + 1) (uA σ1 42 (nI j) (G1 9 j + nI 1)) (hT1.of (fun a x y => ⟨rfl, uA_o _ _ _ _ (by omega)⟩)) (by
                rw [e]
                refine ⟨hG1.1, fun b hb => ?_, fun m hm => ?_⟩
                · rw [uA_o _ _ _ _ (by decide), uA_o _ _ _ _ (by decide)]
                  exact hG1.2.1 b hb
                · rw [uA_o _ _ _ _ (by decide), uA_o _ _ _ _ (by decide), uA_o _ _ _ _ (by decide), uA_o _ _ _ _ (by decide), uA_2, nI_clamp (by omega), (hG1.2.2 m hm).2.2.2.2]
                  refine ⟨(hG1.2.2 m hm).1, (hG1.2.2 m hm).2.1, (hG1.2.2 m hm).2.2.1, (hG1.2.2 m hm).2.2.2.1, ?_⟩
                  show _ = (if 9 = 9 ∧ m = j then G1 9 j + 1 else G1 9 m)
                  by_cases y : m = j
                  · simp [y]
                    rfl
                  · simp [y]) (by rw [e]; exact gset9_inv hi) (by rw [e]; exact ho) hj (by omega)
              exact ⟨σ3, e1, e2, (frCaA (c3.mono scG_sc_d) (by unfold scG; omega)).trans e3, e4⟩
    · have e : j = tM T := by omega
      subst e
      rw [if_pos (Int32.le_refl _)]
      obtain ⟨σ1, c1, c2, c3⟩ := c_hour_d (n := n) (by omega) hI hT hG hh ho
      rw [c1, ob_def]
      exact ⟨σ1, rfl, c2, c3, hi, ho⟩
theorem c_rule_d {T : aT} {L : aL} {i n h : Nat} {x : Int32} {G : aG} {σ : bS} (hn : 500 ≤ n) (hI : InvT T L) (hT : CT T L σ) (hG : CG 35 G σ) (hi : InvG T i G) (hh : h + 1 < 2 ^ 31) (hh2 : G 0 0 = nI h) : ∃ σ', cGoing_ruleHour_d n x σ = some σ' ∧ CG 35 (sRule T L h x G) σ' ∧ frC (scG 35) σ σ' ∧ InvG T i (sMen T L h x G (tM T)).2 ∧ (sMen T L h x G (tM T)).2 0 0 = nI h := by
  have hMM := hI.2.2.2.1
  unfold cGoing_ruleHour_d
  exact c_men_d_l (x := x) hn hI hh hh2 n 0 σ hT hG hi hh2 (by omega) (by omega)
