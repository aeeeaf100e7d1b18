/-! odds: what the seed does, and that who is home stays there -/
theorem pick_in {P Q : Nat → Prop} {c : Nat} : (∃ b, b < c ∧ pick P Q c = nI b) ∨ pick P Q c = -1 := by
  by_cases h : ∃ r, isRule P Q c r
  · obtain ⟨r, hr⟩ := h
    rw [pick_eq hr]
    rcases hr with ⟨b, x1, x2, -⟩ | ⟨-, ⟨b, x1, x2, -⟩ | ⟨x1, -⟩⟩
    · exact Or.inl ⟨b, x1, x2⟩
    · exact Or.inl ⟨b, x1, x2⟩
    · exact Or.inr x1
  · right
    unfold pick
    rw [dif_neg h]
theorem sMan_cases {T : aT} {L : aL} {h m : Nat} {x : Int32} {p : Int32 × aG} (hc : tG T ≤ 4) : (sMan T L h x p m).2 = p.2 ∨ (¬ p.2 5 m = nI (tHome T m) ∧ ((∃ b, b < tG T ∧ (sMan T L h x p m).2 = sCross T L p.2 m b h) ∨ (sMan T L h x p m).2 = gset p.2 9 m (p.2 9 m + 1))) := by
  unfold sMan
  by_cases z : nI m = x ∨ 0 ≤ p.2 6 m ∨ p.2 5 m = nI (tHome T m)
  · rw [if_pos z]
    exact Or.inl rfl
  · rw [if_neg z]
    refine Or.inr ⟨fun y => z (Or.inr (Or.inr y)), ?_⟩
    rcases pick_in (P := P1 T L p.2 p.1 m h) (Q := P2 T L p.2 p.1 m h) (c := tG T) with ⟨b, hb, e⟩ | e
    · have e' : sPick T L p.2 p.1 m h = nI b := e
      rw [e', if_pos (nI_pos' (by omega)), nI_clamp (by omega)]
      exact Or.inl ⟨b, hb, rfl⟩
    · have e' : sPick T L p.2 p.1 m h = -1 := e
      rw [e', if_neg (by decide)]
      exact Or.inr rfl
theorem sMen_inv {T : aT} {L : aL} {i h : Nat} {x : Int32} {G : aG} (hI : InvT T L) (hi : InvG T i G) (hh : G 0 0 = nI h) : ∀ m, m ≤ tM T → InvG T i (sMen T L h x G m).2 ∧ (sMen T L h x G m).2 0 0 = nI h
  | 0, _ => ⟨hi, hh⟩
  | m + 1, hm => by
    obtain ⟨a1, a2⟩ := sMen_inv (x := x) hI hi hh m (by omega)
    show InvG T i (sMan T L h x (sMen T L h x G m) m).2 ∧ (sMan T L h x (sMen T L h x G m) m).2 0 0 = nI h
    rcases sMan_cases (T := T) (L := L) (h := h) (x := x) (p := sMen T L h x G m) (m := m) hI.2.2.1 with e | ⟨-, ⟨b, hb, e⟩ | e⟩
    · rw [e]; exact ⟨a1, a2⟩
    · rw [e]; exact ⟨sCross_inv hI a1 (by omega) hb, a2⟩
    · rw [e]; exact ⟨gset9_inv a1, a2⟩
/-- home, and on no bridge -/
abbrev isH (T : aT) (m : Nat) (G : aG) : Prop := G 5 m = nI (tHome T m) ∧ G 6 m = -1
theorem isH_of {T : aT} {L : aL} {i m : Nat} {G : aG} (hI : InvT T L) (hi : InvG T i G) (hm : m < tM T) (h : G 5 m = nI (tHome T m)) : isH T m G := by
  have hB := hI.1
  have hh := hI.2.2.2.2.2.1 m hm
  rcases hi.2.2 m hm with ⟨a, -⟩ | ⟨a, -⟩
  · exact ⟨h, a⟩
  · exact absurd (h.symm.trans a) (nI_m1 (by omega))
theorem sMen_home {T : aT} {L : aL} {h m : Nat} {x : Int32} {G : aG} (hI : InvT T L) (hh : isH T m G) : ∀ j, isH T m (sMen T L h x G j).2
  | 0 => hh
  | j + 1 => by
    have ih := sMen_home (h := h) (x := x) (G := G) hI hh j
    have hGG := hI.2.2.1
    show isH T m (sMan T L h x (sMen T L h x G j) j).2
    rcases sMan_cases (T := T) (L := L) (h := h) (x := x) (p := sMen T L h x G j) (m := j) hI.2.2.1 with e | ⟨nh, ⟨b, hb, e⟩ | e⟩
    · rw [e]; exact ih
    · rw [e]
      have ne : ¬ m = j := fun z => nh (by subst z; exact ih.1)
      have nb : ¬ (sMen T L h x G j).2 6 m = nI b := fun z => nI_m1 (show b < 2 ^ 31 by omega) (z.symm.trans ih.2)
      constructor
      · show (if (sMen T L h x G j).2 3 b < 0 then (if m = j then -1 else (sMen T L h x G j).2 5 m) else if m = j ∨ (m < tM T ∧ (sMen T L h x G j).2 6 m = nI b) then (sMen T L h x G j).2 3 b else (sMen T L h x G j).2 5 m) = _
        rw [if_neg ne, if_neg (show ¬ (m = j ∨ (m < tM T ∧ (sMen T L h x G j).2 6 m = nI b)) from fun z => z.elim ne (fun y => nb y.2))]
        split <;> exact ih.1
      · show (if (sMen T L h x G j).2 3 b < 0 then (if m = j then nI b else (sMen T L h x G j).2 6 m) else if m = j ∨ (m < tM T ∧ (sMen T L h x G j).2 6 m = nI b) then -1 else (sMen T L h x G j).2 6 m) = _
        rw [if_neg ne, if_neg (show ¬ (m = j ∨ (m < tM T ∧ (sMen T L h x G j).2 6 m = nI b)) from fun z => z.elim ne (fun y => nb y.2))]
        split <;> exact ih.2
    · rw [e]; exact ih
theorem sRule_home {T : aT} {L : aL} {h m : Nat} {x : Int32} {G : aG} (hI : InvT T L) (hh : isH T m G) : isH T m (sRule T L h x G) := sMen_home hI hh (tM T)
/-- hours by the rule, one after another -/
noncomputable def it (T : aT) (L : aL) (h : Nat) (G : aG) : Nat → aG
  | 0 => G
  | j + 1 => sRule T L (h + j) ci_m1 (it T L h G j)
theorem it_h {T : aT} {L : aL} {h : Nat} {G : aG} (hh : G 0 0 = nI h) : ∀ j, it T L h G j 0 0 = nI (h + j)
  | 0 => hh
  | j + 1 => rfl
theorem it_inv {T : aT} {L : aL} {h : Nat} {G : aG} (hI : InvT T L) (hh : G 0 0 = nI h) (hi : InvG T 5000 G) : ∀ j, h + j ≤ 170000 → InvG T 5000 (it T L h G j)
  | 0, _ => hi
  | j + 1, hj => by
    have ih := it_inv hI hh hi j (by omega)
    exact sRule_inv hI (sMen_inv hI ih (it_h hh j) (tM T) (Nat.le_refl _)).1 (by omega)
theorem it_home {T : aT} {L : aL} {h m : Nat} {G : aG} (hI : InvT T L) {j : Nat} (hh : isH T m (it T L h G j)) : ∀ k, isH T m (it T L h G (j + k))
  | 0 => hh
  | k + 1 => sRule_home hI (it_home hI hh k)
/-- another seed -/
def setS (G : aG) (s : Int32) : aG := fun t i => if t = 10 then (if i = 0 then s else G 10 i) else G t i
theorem setS_cross {T : aT} {L : aL} {G : aG} {s : Int32} {m b h : Nat} : sCross T L (setS G s) m b h = setS (sCross T L G m b h) s := by
  have w : ∀ la, sWish T L (setS G s) m la h = sWish T L G m la h := fun _ => rfl
  have o : sToll T L (setS G s) m b h = sToll T L G m b h := rfl
  have n : ∀ t i, ¬ t = 10 → setS G s t i = G t i := fun t i h => if_neg h
  funext t i
  by_cases e : t = 10
  · subst e
    simp [sCross, setS]
  · rw [show setS (sCross T L G m b h) s t i = sCross T L G m b h t i from if_neg e]
    unfold sCross
    simp only [n 3 b (by decide), n 3 i (by decide), n 4 b (by decide), n 4 i (by decide), n 5 i (by decide), n 6 i (by decide), n 7 m (by decide), n 7 i (by decide), n 8 m (by decide), n 8 i (by decide), n 9 i (by decide), n t i e, w, o]
theorem setS_gset {G : aG} {s v : Int32} {m : Nat} : gset (setS G s) 9 m v = setS (gset G 9 m v) s := by
  funext t i
  unfold gset setS
  by_cases e : t = 10
  · subst e
    simp
  · by_cases e9 : t = 9 ∧ i = m
    · rw [if_pos e9, if_neg e]
      exact (if_pos e9).symm
    · rw [if_neg e9, if_neg e, if_neg e]
      exact (if_neg e9).symm
theorem setS_man {T : aT} {L : aL} {h m : Nat} {x U s : Int32} {G : aG} : sMan T L h x (U, setS G s) m = ((sMan T L h x (U, G) m).1, setS (sMan T L h x (U, G) m).2 s) := by
  have ep : sPick T L (setS G s) U m h = sPick T L G U m h := rfl
  unfold sMan
  show (if nI m = x ∨ 0 ≤ G 6 m ∨ G 5 m = nI (tHome T m) then (U, setS G s) else if 0 ≤ sPick T L (setS G s) U m h then (U ||| (ci_1 <<< (sPick T L (setS G s) U m h &&& 31)), sCross T L (setS G s) m (sPick T L (setS G s) U m h).toNatClampNeg h) else (U, gset (setS G s) 9 m (G 9 m + 1))) = _
  rw [ep, setS_cross, setS_gset]
  split
  · rfl
  · split
    · rfl
    · rfl
theorem setS_men {T : aT} {L : aL} {h : Nat} {x s : Int32} {G : aG} : ∀ m, sMen T L h x (setS G s) m = ((sMen T L h x G m).1, setS (sMen T L h x G m).2 s)
  | 0 => rfl
  | m + 1 => by
    show sMan T L h x (sMen T L h x (setS G s) m) m = ((sMan T L h x (sMen T L h x G m) m).1, setS (sMan T L h x (sMen T L h x G m) m).2 s)
    rw [setS_men m]
    exact setS_man
theorem setS_hour {T : aT} {G : aG} {s : Int32} {h : Nat} (hd : tDawn T = -1) (hp : tPil T = 0) : sHour T (setS G s) h = setS (sHour T G h) s := by
  have e0 : ∀ S G (i : Nat), (if i < tG T then pl S (nI (h + 1)) (tPil T) (nI (tB T)) i (if tDawn T = nI ((h + 1) % 24) then dw S (nI (h + 1)) (nI (tB T)) i else (G : aG) 3 i) else G 3 i) = G 3 i := fun S G i => by
    rw [hp, pl_0, hd, if_neg (show ¬ (-1 : Int32) = nI ((h + 1) % 24) from fun z => nI_m1 (show (h + 1) % 24 < 2 ^ 31 by omega) z.symm)]
    split <;> rfl
  funext t i
  unfold sHour
  simp only [e0]
  unfold setS
  by_cases e : t = 10
  · subst e
    simp
  · by_cases e3 : t = 0
    · subst e3
      simp
    · by_cases e4 : t = 3
      · subst e4
        simp
      · simp [e, e3, e4]
theorem setS_rule {T : aT} {L : aL} {G : aG} {x s : Int32} {h : Nat} (hd : tDawn T = -1) (hp : tPil T = 0) : sRule T L h x (setS G s) = setS (sRule T L h x G) s := by
  unfold sRule
  rw [setS_men]
  exact setS_hour hd hp
theorem setS_it {T : aT} {L : aL} {G : aG} {s : Int32} {h : Nat} (hd : tDawn T = -1) (hp : tPil T = 0) : ∀ j, it T L h (setS G s) j = setS (it T L h G j) s
  | 0 => rfl
  | j + 1 => by
    show sRule T L (h + j) ci_m1 (it T L h (setS G s) j) = setS (sRule T L (h + j) ci_m1 (it T L h G j)) s
    rw [setS_it hd hp j, setS_rule hd hp]
/-! the loops -/
theorem m_rules_l {n c h : Nat} {T : aT} {L : aL} {G : aG} (hn : 1000 ≤ n) (hI : InvT T L) (hh : G 0 0 = nI h) (hi : InvG T 5000 G) (hc : c ≤ 300) (hb : h + 301 ≤ 170000) : ∀ (k j : Nat) (σ : bS), MTx T L σ → MG T 48 (it T L h G j) σ → σ.1 0 40 = nI 48 → j ≤ c → c < j + k → ∃ σ', m_rulesGo_b2 n k (nI c) (nI j) σ = some σ' ∧ MG T 48 (it T L h G c) σ' ∧ frS 48 σ σ'
  | 0, j, σ, hT, hG, hw, h1, h2 => by omega
  | k + 1, j, σ, hT, hG, hw, h1, h2 => by
    rw [m_rulesGo_b2]
    by_cases hj : j < c
    · obtain ⟨σ1, c1, c2, c3⟩ := m_rule_eq (x := ci_m1) (n := n) (w := 48) (h := h + j) hn hI hT hG (it_inv hI hh hi j (by omega)) hw (by omega) (by omega) (it_h hh j)
      rw [if_neg (nI_ge hj (by omega)), c1, ob_def, ci1_nI, nI_add]
      obtain ⟨σ2, d1, d2, d3⟩ := m_rules_l hn hI hh hi hc hb k (j + 1) σ1 (hT.goS c3) c2 ((c3.1 40 (by decide)).trans hw) hj (by omega)
      exact ⟨σ2, d1, d2, c3.trans d3⟩
    · have e : j = c := by omega
      subst e
      rw [if_pos (Int32.le_refl _)]
      exact ⟨σ, rfl, hG, frS.rf⟩
theorem c_seed_l {n c h m : Nat} {T : aT} {L : aL} {G : aG} (hn : 1000 ≤ n) (hI : InvT T L) (hm : m < tM T) (hh : G 0 0 = nI h) (hi : InvG T 5000 G) (hc : c ≤ 300) (hb : h + 301 ≤ 170000) : ∀ (k j : Nat) (σ : bS), CT T L σ → CG 35 (it T L h G j) σ → j ≤ c → c < j + k → ∃ σ', cTop_isHomeBySeed_b22 n k (nI m) (nI c) (nI j) σ = some (if it T L h G c 5 m = nI (tHome T m) then 1 else 0, σ') ∧ frC (scG 35) σ σ'
  | 0, j, σ, hT, hG, h1, h2 => by omega
  | k + 1, j, σ, hT, hG, h1, h2 => by
    have e1 := c_isHome_d (n := n) hI hT hG hm
    rw [cTop_isHomeBySeed_b22]
    by_cases hj : j < c
    · rw [if_neg (nI_ge hj (by omega)), e1, ob_def]
      by_cases z : it T L h G j 5 m = nI (tHome T m)
      · have y := it_home (L := L) hI (isH_of hI (it_inv hI hh hi j (by omega)) hm z) (c - j)
        rw [show j + (c - j) = c by omega] at y
        rw [if_pos z, if_pos y.1]
        simp only [if_neg one_ne]
        unfold cTop_isHomeBySeed_b53
        rw [e1, ob_def, if_pos z]
        exact ⟨σ, rfl, frC.rf⟩
      · rw [if_neg z]
        simp only [if_true]
        obtain ⟨σ1, c1, c2, c3, -⟩ := c_rule_d (x := ci_m1) (n := n) (h := h + j) (by omega) hI hT hG (it_inv hI hh hi j (by omega)) (by omega) (it_h hh j)
        rw [c1, ob_def, ci1_nI, nI_add]
        obtain ⟨σ2, d1, d2⟩ := c_seed_l hn hI hm hh hi hc hb k (j + 1) σ1 (hT.go (by omega) c3) c2 hj (by omega)
        exact ⟨σ2, d1, c3.trans d2⟩
    · have e : j = c := by omega
      subst e
      rw [if_pos (Int32.le_refl _)]
      unfold cTop_isHomeBySeed_b53
      rw [e1, ob_def]
      exact ⟨σ, by split <;> rfl, frC.rf⟩
theorem setS_inv {T : aT} {i : Nat} {G : aG} {s : Int32} (h : InvG T i G) : InvG T i (setS G s) := h
theorem c_seed {i n c h m : Nat} {T : aT} {L : aL} {G : aG} {s : Int32} {σC σM : bS} (hn : 1000 ≤ n) (hi : i ≤ 3072) (hm : m < tM T) (hh : G 0 0 = nI h) (hc : c ≤ 300) (hb : h + 301 ≤ 170000) (H : RelB i T L G σC σM) : ∃ σ', cTop_isHomeBySeed n (nI m) (nI c) s σC = some (if it T L h (setS G s) c 5 m = nI (tHome T m) then 1 else 0, σ') ∧ frC scrC σC σ' := by
  have g := drm_cg H.2.2.2.1
  have f : frC (scG 35) (drm G σC) (uI (drm G σC) 35 1 s) := frC.uI (by unfold scG; omega)
  have hT1 : CT T L (drm G σC) := H.2.1.fr drm_fr (fun a x y => by omega)
  obtain ⟨σ1, c1, c2⟩ := c_seed_l (n := n) (c := c) (h := h) (m := m) (L := L) (G := setS G s) hn H.1 hm hh (setS_inv (H.2.2.2.2.2.1.mono (by omega))) hc hb n 0 (uI (drm G σC) 35 1 s) (hT1.go (by omega) f) ⟨⟨g.1.1, g.1.2.1, g.1.2.2.1, rfl⟩, g.2.1, g.2.2⟩ (by omega) (by omega)
  refine ⟨σ1, ?_, ((drm_fr.mono (fun a z => by unfold scrC; omega)).trans (f.mono scG35)).trans (c2.mono scG35)⟩
  unfold cTop_isHomeBySeed
  rw [drm_eq H.2.2.2.1, ob_def]
  exact c1
theorem m_seed {i n c h m : Nat} {T : aT} {L : aL} {G : aG} {v : Int32} {σC σM : bS} (hn : 1000 ≤ n) (hi : i ≤ 3072) (hm : m < tM T) (hh : G 0 0 = nI h) (hc : c ≤ 300) (hb : h + 301 ≤ 170000) (H : RelB i T L G σC σM) : ∃ σ1 σ2, m_tries n σM = some σ1 ∧ sA σ1 24 ci_3 = tSeed T ∧ sI σ1 0 40 = nI 48 ∧ m_rulesGo n (nI c) (uA σ1 29 (nI (48 + 46)) v) = some σ2 ∧ m_isHome n (nI m) σ2 = some (if it T L h (setS G v) c 5 m = nI (tHome T m) then 1 else 0, σ2) ∧ frQ σM σ2 := by
  obtain ⟨σM1, m1, m1g, m1w, m1f, m1o⟩ := m_tries_eq (T := T) (n := n) (by omega) ⟨H.1.2.2.1, H.1.2.2.2.1⟩ H.2.2.2.2.1
  have hGG := H.1.2.2.1
  have hMM := H.1.2.2.2.1
  have hT1 : MTx T L σM1 := H.2.2.1.of (fun a x y => m1o a (by omega))
  have f : frR 48 σM1 (uA σM1 29 (nI (48 + 46)) v) := frRa frR.rf (by omega) (by omega) (by omega)
  have rd : ∀ p, (uA σM1 29 (nI (48 + 46)) v).2.1 29 p = if p = 48 + 46 then v else σM1.2.1 29 p := fun p => by
    rw [uA_2, nI_clamp (by omega)]
    simp
  have g : MG T 48 (setS G v) (uA σM1 29 (nI (48 + 46)) v) := by
    refine ⟨⟨?_, ?_, ?_, ?_⟩, fun b hb => ⟨?_, ?_⟩, fun m hm => ⟨?_, ?_, ?_, ?_, ?_⟩⟩
    · rw [rd, if_neg (by omega)]; exact m1g.1.1
    · rw [rd, if_neg (by omega)]; exact m1g.1.2.1
    · rw [rd, if_neg (by omega)]; exact m1g.1.2.2.1
    · rw [rd, if_pos (by omega)]; rfl
    · rw [rd, if_neg (by omega)]; exact (m1g.2.1 b hb).1
    · rw [rd, if_neg (by omega)]; exact (m1g.2.1 b hb).2
    · rw [rd, if_neg (by omega)]; exact (m1g.2.2 m hm).1
    · rw [rd, if_neg (by omega)]; exact (m1g.2.2 m hm).2.1
    · rw [rd, if_neg (by omega)]; exact (m1g.2.2 m hm).2.2.1
    · rw [rd, if_neg (by omega)]; exact (m1g.2.2 m hm).2.2.2.1
    · rw [rd, if_neg (by omega)]; exact (m1g.2.2 m hm).2.2.2.2
  have hi5 : InvG T 5000 (setS G v) := setS_inv (H.2.2.2.2.2.1.mono (by omega))
  obtain ⟨σ2, c1, c2, c3⟩ := m_rules_l (n := n) (c := c) (h := h) (L := L) (G := setS G v) hn H.1 hh hi5 hc hb n 0 _ (hT1.go f) g m1w (by omega) (by omega)
  refine ⟨σM1, σ2, m1, (sA_n σM1 24 (j := 3) (by decide)).trans hT1.2.1.2.2.2, m1w, c1, ?_, m1f.trans ((frQ.ofR48 f).trans (frQ.ofS48 c3 (by omega) (by omega)))⟩
  exact m_isHome_eq H.1 ((hT1.go f).goS c3) c2 (it_inv (G := setS G v) H.1 hh hi5 c (by omega)) ((c3.1 40 (by decide)).trans m1w) (by omega) hm
/-- the reference's next seed -/
theorem m_odds_1 {i n c h m k s j : Nat} {T : aT} {L : aL} {G : aG} {acc : Int32} {σC σM : bS} (hn : 1000 ≤ n) (hi : i ≤ 3072) (hm : m < tM T) (hh : G 0 0 = nI h) (hc : c ≤ 300) (hb : h + 301 ≤ 170000) (hs : s ≤ 20) (hj : j < s) (H : RelB i T L G σC σM) : ∃ σ2, m_odds_b37 n (k + 1) (nI m) (nI c) (nI s) acc (nI j) σM = m_odds_b37 n k (nI m) (nI c) (nI s) (if it T L h (setS G (tSeed T + nI j)) c 5 m = nI (tHome T m) then acc + 1 else acc) (nI (j + 1)) σ2 ∧ frQ σM σ2 := by
  obtain ⟨σ1, σ2, a1, a2, a3, a4, a5, a6⟩ := m_seed (v := tSeed T + nI j) hn hi hm hh hc hb H
  refine ⟨σ2, ?_, a6⟩
  rw [m_odds_b37, if_neg (nI_ge hj (by omega)), a1, ob_def, ci_3_n, bin_nI (by decide) (by decide), ← ci_3_n, a2, a3, cb_46_n, nI_add, bin_nI (by decide) (by decide), a4, ob_def, a5, ob_def]
  by_cases z : it T L h (setS G (tSeed T + nI j)) c 5 m = nI (tHome T m)
  · rw [if_pos z, if_pos z]
    simp only [if_neg one_ne]
    rw [m_odds_b84, ci1_1, show (nI j + 1 : Int32) = nI (j + 1) from nI_add j 1]
  · rw [if_neg z, if_neg z]
    simp only [if_true]
    rw [m_odds_b84, show (nI j + ci_1 : Int32) = nI (j + 1) from nI_add j 1]
theorem odds_l {i n n1 c h m s : Nat} {T : aT} {L : aL} {G : aG} (hn : 1000 ≤ n) (hn1 : 1000 ≤ n1) (hi : i ≤ 3072) (hm : m < tM T) (hh : G 0 0 = nI h) (hc : c ≤ 300) (hb : h + 301 ≤ 170000) (hs : s ≤ 20) : ∀ (k j : Nat) (acc : Int32) (σC σM : bS), RelB i T L G σC σM → j ≤ s → s < j + k → ∃ r σC' σM', cTop_odds_b73 n k (nI m) (nI c) (nI s) ci_0 (nI s) acc (nI j) σC = some (r, σC') ∧ m_odds_b37 n1 k (nI m) (nI c) (nI s) acc (nI j) σM = some (r, σM') ∧ RelB i T L G σC' σM'
  | 0, j, acc, σC, σM, H, h1, h2 => by omega
  | k + 1, j, acc, σC, σM, H, h1, h2 => by
    by_cases hj : j < s
    · obtain ⟨σM1, m1, m2⟩ := m_odds_1 (k := k) (acc := acc) hn1 hi hm hh hc hb hs hj H
      obtain ⟨σC1, c1, c2⟩ := c_seed (s := tSeed T + nI j) hn hi hm hh hc hb H
      have H1 := H.q c2 m2
      rw [m1, cTop_odds_b73, if_neg (nI_ge hj (by omega)), sI_d, H.2.1.2.1.2.2.2, c1, ob_def]
      by_cases z : it T L h (setS G (tSeed T + nI j)) c 5 m = nI (tHome T m)
      · rw [if_pos z, if_pos z]
        simp only [if_neg one_ne]
        rw [cTop_odds_b102, show (nI j + ci_1 : Int32) = nI (j + 1) from nI_add j 1, ci1_1]
        exact odds_l hn hn1 hi hm hh hc hb hs k (j + 1) _ σC1 σM1 H1 hj (by omega)
      · rw [if_neg z, if_neg z]
        simp only [if_true]
        rw [cTop_odds_b102, show (nI j + ci_1 : Int32) = nI (j + 1) from nI_add j 1]
        exact odds_l hn hn1 hi hm hh hc hb hs k (j + 1) _ σC1 σM1 H1 hj (by omega)
    · have e : j = s := by omega
      subst e
      rw [cTop_odds_b73, m_odds_b37, if_pos (Int32.le_refl _), if_pos (Int32.le_refl _), if_pos ci0_0]
      exact ⟨acc, σC, σM, rfl, rfl, H⟩
/-- the reference, when no seed matters -/
theorem odds_s {i n c h m s : Nat} {T : aT} {L : aL} {G : aG} {σC : bS} (hn : 1000 ≤ n) (hi : i ≤ 3072) (hm : m < tM T) (hh : G 0 0 = nI h) (hc : c ≤ 300) (hb : h + 301 ≤ 170000) (hs : s ≤ 20) (hd : tDawn T = -1) (hp : tPil T = 0) : ∀ (k j a : Nat) (σM : bS), RelB i T L G σC σM → j ≤ s → s < j + k → ∃ σM', m_odds_b37 n k (nI m) (nI c) (nI s) (nI a) (nI j) σM = some (nI (if it T L h G c 5 m = nI (tHome T m) then a + (s - j) else a), σM') ∧ frQ σM σM'
  | 0, j, a, σM, H, h1, h2 => by omega
  | k + 1, j, a, σM, H, h1, h2 => by
    by_cases hj : j < s
    · obtain ⟨σM1, m1, m2⟩ := m_odds_1 (k := k) (acc := nI a) hn hi hm hh hc hb hs hj H
      have e : it T L h (setS G (tSeed T + nI j)) c 5 m = it T L h G c 5 m := by
        rw [setS_it hd hp]
        rfl
      rw [m1, e]
      by_cases z : it T L h G c 5 m = nI (tHome T m)
      · obtain ⟨σM2, d1, d2⟩ := odds_s hn hi hm hh hc hb hs hd hp k (j + 1) (a + 1) σM1 (H.q frC.rf m2) hj (by omega)
        rw [if_pos z] at d1
        rw [if_pos z, if_pos z, show (nI a + 1 : Int32) = nI (a + 1) from nI_add a 1, d1]
        refine ⟨σM2, ?_, m2.trans d2⟩
        congr 3
        omega
      · obtain ⟨σM2, d1, d2⟩ := odds_s hn hi hm hh hc hb hs hd hp k (j + 1) a σM1 (H.q frC.rf m2) hj (by omega)
        rw [if_neg z] at d1
        rw [if_neg z, if_neg z, d1]
        exact ⟨σM2, rfl, m2.trans d2⟩
    · have e : j = s := by omega
      subst e
      rw [m_odds_b37, if_pos (Int32.le_refl _)]
      refine ⟨σM, ?_, frQ.rf⟩
      rw [Nat.sub_self, Nat.add_zero]
      split <;> rfl
theorem sim_odds {i : Nat} {σC σM : bS} (hi : i ≤ 3072) (h : Rel i σC σM) (x y v : Int32) : Sim_odds (Rel (i + 6)) x y v σC σM := by
  have hrel := h
  obtain ⟨T, L, G, H0⟩ := h
  have H : RelB i T L G σC σM := H0
  have h2 := H.2.1
  have h3 := H.2.2.1
  have hM := H.1.2.2.2.1
  obtain ⟨hr, r1, r2, r3⟩ := Rel.hour H.2.2.2.2.2.1 hi
  rcases ncases (tM T) (by omega) x with ⟨m, hm, rfl⟩ | hx
  · rcases kcases 300 (by decide) y with ⟨c, hc, rfl⟩ | hy
    · by_cases hv : v < ci_1 ∨ cb_20 < v
      · refine ⟨1000, 1000, -1, σC, σM, ?_, ?_, hrel.mono (by omega)⟩
        · unfold cTop_odds
          rw [c_isMan1 h2.1.2.2.2 (by omega) hm, ob_def, if_neg one_ne, c_far1 hc, ob_def, if_neg one_ne]
          by_cases z : v < ci_1
          · rw [if_pos z]; rfl
          · rw [if_neg z, if_neg (Int32.not_le.mpr (hv.resolve_left z))]; rfl
        · unfold m_odds
          rw [m_isMan1 h3.1.2.2.2 (by omega) hm, ob_def, if_neg one_ne, m_far1 hc, ob_def, if_neg one_ne, m_isIn0 hv, ob_def, if_pos rfl]
          rfl
      · have v1 : ¬ v < ci_1 := fun z => hv (Or.inl z)
        have v2 : v ≤ cb_20 := Int32.not_lt.mp (fun z => hv (Or.inr z))
        obtain ⟨s, hs0, hs, rfl⟩ : ∃ s, 1 ≤ s ∧ s ≤ 20 ∧ v = nI s := by
          have v0 : ¬ v < 0 := fun z => v1 (Int32.lt_trans z (by decide))
          obtain ⟨s, hs, rfl⟩ := nI_of v0
          refine ⟨s, ?_, ?_, rfl⟩
          · rw [ci1_nI] at v1
            by_cases q : s < 1
            · exact absurd ((nI_ltI hs (by decide)).mpr q) v1
            · omega
          · rw [cb_20_n] at v2
            exact (nI_leI hs (by decide)).mp v2
        have eM : m_isIn 1000 (nI s) ci_1 cb_20 σM = some (1, σM) := by
          rw [ci1_nI, cb_20_n]
          exact m_isIn1 hs0 hs (by decide)
        have d1 : sI σC 1 15 = tDawn T := h2.2.1.1
        have d2 : sI σC 1 16 = tPil T := h2.2.1.2.1
        have many : ∃ r σC' σM', cTop_odds_b52 1000 (nI m) (nI c) (nI s) σC = some (r, σC') ∧ m_odds_b37 1000 1000 (nI m) (nI c) (nI s) ci_0 ci_0 σM = some (r, σM') ∧ RelB i T L G σC' σM' := by
          obtain ⟨r, σC', σM', a1, a2, a3⟩ := odds_l (n := 1000) (n1 := 1000) (by omega) (by omega) hi hm r2 hc (by omega) hs 1000 0 ci_0 σC σM H (by omega) (by omega)
          refine ⟨r, σC', σM', ?_, a2, a3⟩
          unfold cTop_odds_b52 cTop_odds_b53 cTop_odds_b65
          rw [if_pos ci0_0]
          exact a1
        by_cases e1 : 0 ≤ tDawn T
        · obtain ⟨r, σC', σM', a1, a2, a3⟩ := many
          refine ⟨1000, 1000, r, σC', σM', ?_, ?_, a3.rel.mono (by omega)⟩
          · unfold cTop_odds
            rw [c_isMan1 h2.1.2.2.2 (by omega) hm, ob_def, if_neg one_ne, c_far1 hc, ob_def, if_neg one_ne, if_neg v1, if_pos v2, d1, if_pos e1, a1]
          · unfold m_odds
            rw [m_isMan1 h3.1.2.2.2 (by omega) hm, ob_def, if_neg one_ne, m_far1 hc, ob_def, if_neg one_ne, eM, ob_def, if_neg one_ne, a2]
        · by_cases e2 : tPil T = 0
          · have hd : tDawn T = -1 := by
              rcases H.1.2.2.2.2.2.2.1 with z | ⟨d, hd, z⟩
              · exact z
              · exact absurd (by rw [z]; exact nI_pos' (by omega)) e1
            obtain ⟨σC1, c1, c2⟩ := c_seed (n := 1000) (s := tSeed T + nI 0) (by omega) hi hm r2 hc (by omega) H
            have e : it T L hr (setS G (tSeed T + nI 0)) c 5 m = it T L hr G c 5 m := by
              rw [setS_it hd e2]
              rfl
            rw [e] at c1
            obtain ⟨σM1, m1, m2⟩ := odds_s (n := 1000) (by omega) hi hm r2 hc (by omega) hs hd e2 1000 0 0 σM H (by omega) (by omega)
            have hsd : sI σC 1 18 = tSeed T := h2.2.1.2.2.2
            refine ⟨1000, 1000, nI (if it T L hr G c 5 m = nI (tHome T m) then 0 + (s - 0) else 0), σC1, σM1, ?_, ?_, (H.q c2 m2).rel.mono (by omega)⟩
            · unfold cTop_odds
              rw [c_isMan1 h2.1.2.2.2 (by omega) hm, ob_def, if_neg one_ne, c_far1 hc, ob_def, if_neg one_ne, if_neg v1, if_pos v2, d1, if_neg e1, d2, if_pos e2]
              unfold cTop_odds_b53 cTop_odds_b65
              rw [if_neg (show ¬ ci_1 = 0 by decide), cTop_odds_b73, if_neg (show ¬ ci_1 ≤ ci_0 by decide), hsd, show (ci_0 : Int32) = nI 0 from rfl, c1, ob_def]
              by_cases z : it T L hr G c 5 m = nI (tHome T m)
              · rw [if_pos z, if_pos z]
                simp only [if_neg one_ne]
                rw [cTop_odds_b102, cTop_odds_b73, if_pos (show ci_1 ≤ nI 0 + ci_1 by decide), if_neg (show ¬ ci_1 = 0 by decide)]
                show some ((nI 0 + ci_1) * nI s, σC1) = _
                rw [ci1_nI, nI_add, nI_mul]
                congr 3
                omega
              · rw [if_neg z, if_neg z]
                simp only [if_true]
                rw [cTop_odds_b102, cTop_odds_b73, if_pos (show ci_1 ≤ nI 0 + ci_1 by decide), if_neg (show ¬ ci_1 = 0 by decide)]
                show some (nI 0 * nI s, σC1) = _
                rw [nI_mul, Nat.zero_mul]
            · unfold m_odds
              rw [m_isMan1 h3.1.2.2.2 (by omega) hm, ob_def, if_neg one_ne, m_far1 hc, ob_def, if_neg one_ne, eM, ob_def, if_neg one_ne]
              exact m1
          · obtain ⟨r, σC', σM', a1, a2, a3⟩ := many
            refine ⟨1000, 1000, r, σC', σM', ?_, ?_, a3.rel.mono (by omega)⟩
            · unfold cTop_odds
              rw [c_isMan1 h2.1.2.2.2 (by omega) hm, ob_def, if_neg one_ne, c_far1 hc, ob_def, if_neg one_ne, if_neg v1, if_pos v2, d1, if_neg e1, d2, if_neg e2, a1]
            · unfold m_odds
              rw [m_isMan1 h3.1.2.2.2 (by omega) hm, ob_def, if_neg one_ne, m_far1 hc, ob_def, if_neg one_ne, eM, ob_def, if_neg one_ne, a2]
    · refine ⟨1000, 1000, -1, σC, σM, ?_, ?_, hrel.mono (by omega)⟩
      · unfold cTop_odds
        rw [c_isMan1 h2.1.2.2.2 (by omega) hm, ob_def, if_neg one_ne, c_far0 hy, ob_def, if_pos rfl]
        rfl
      · unfold m_odds
        rw [m_isMan1 h3.1.2.2.2 (by omega) hm, ob_def, if_neg one_ne, m_far0 hy, ob_def, if_pos rfl]
        rfl
  · refine ⟨1000, 1000, -1, σC, σM, ?_, ?_, hrel.mono (by omega)⟩
    · unfold cTop_odds
      rw [c_isMan0 h2.1.2.2.2 hx, ob_def, if_pos rfl]
      rfl
    · unfold m_odds
      rw [m_isMan0 h3.1.2.2.2 hx, ob_def, if_pos rfl]
      rfl
