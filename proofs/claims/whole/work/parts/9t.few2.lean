/-! WISHERS: the fewest, on the class's side -/
def eW (ho : Nat → Nat) (W : Nat → Nat → Nat → Nat) (s N X h sp : Nat) : Prop := eV ho W s N (pc s - pc X) X h (sp / 2) (decide (sp % 2 = 1))
theorem eW_at {ho : Nat → Nat} {W : Nat → Nat → Nat → Nat} {s N X h la : Nat} {ab : Bool} : eW ho W s N X h (2 * la + abN ab) ↔ eV ho W s N (pc s - pc X) X h la ab := by
  have a1 := abN_le ab
  unfold eW
  rw [show (2 * la + abN ab) / 2 = la by omega]
  have : decide ((2 * la + abN ab) % 2 = 1) = ab := by
    cases ab
    · exact decide_eq_false (show ¬ (2 * la + 0) % 2 = 1 by omega)
    · exact decide_eq_true (show (2 * la + 1) % 2 = 1 by omega)
  rw [this]
theorem eV_le {ho : Nat → Nat} {W : Nat → Nat → Nat → Nat} {s N k X h la : Nat} {ab : Bool} (H : eV ho W s N k X h la ab) : h ≤ N := by
  obtain ⟨l, -, ds, -, e, -⟩ := H
  omega
def oddB (sp : Nat) : Bool := decide (sp % 2 = 1)
theorem sp_is (sp : Nat) : sp = 2 * (sp / 2) + abN (oddB sp) := by
  unfold oddB
  by_cases z : sp % 2 = 1
  · rw [decide_eq_true z]
    show sp = 2 * (sp / 2) + 1
    omega
  · rw [decide_eq_false z]
    show sp = 2 * (sp / 2) + 0
    omega
/-- a spot's chances are those of where it leads -/
theorem eW_suc {ho : Nat → Nat} {W : Nat → Nat → Nat → Nat} {s most N X h sp : Nat} (hs : s < 128) (hX : (s &&& X) = X) (ne : X < s) (hN : N ≤ most) : eW ho W s N X h sp ↔ ∃ Y h' sp', suc ho W s most X h (sp / 2) (oddB sp) 7 Y h' sp' ∧ eW ho W s N Y h' sp' := by
  have st := sub_strict hs hX ne
  unfold eW
  rw [show pc s - pc X = (pc s - pc X - 1) + 1 by omega, eV_S]
  constructor
  · rintro ⟨m, m1, m2, m3, d, la', ab', m4, m5⟩
    have hl := eV_le m5
    refine ⟨X ||| 2 ^ m, if d = true then h + 1 else h, 2 * la' + abN ab', ⟨m, m1, m2, m3, rfl, d, la', ab', fun u => ?_, m4, rfl, rfl⟩, ?_⟩
    · rw [if_pos u] at hl
      omega
    · show eW ho W s N (X ||| 2 ^ m) (if d = true then h + 1 else h) (2 * la' + abN ab')
      rw [eW_at, pc_or (by omega) m1 m3, show pc s - (pc X + 1) = pc s - pc X - 1 by omega]
      exact m5
  · rintro ⟨Y, h', sp', ⟨m, m1, m2, m3, rfl, d, la', ab', m4, m5, rfl, rfl⟩, e⟩
    have e : eW ho W s N (X ||| 2 ^ m) (if d = true then h + 1 else h) (2 * la' + abN ab') := e
    rw [eW_at, pc_or (by omega) m1 m3, show pc s - (pc X + 1) = pc s - pc X - 1 by omega] at e
    exact ⟨m, m1, m2, m3, d, la', ab', m5, e⟩
abbrev Unp (h X j h' X' sp' : Nat) : Prop := h < h' ∨ (h' = h ∧ (X < X' ∨ (X' = X ∧ j ≤ sp')))
def okS (T : aT) (s l0 most X h sp : Nat) : Prop := (s &&& X) = X ∧ h ≤ pc X ∧ h ≤ most ∧ sp < 14 ∧ sp / 2 ≤ tB T ∧ (l0 = 0 ∨ 1 ≤ sp / 2)
def FI (T : aT) (ho : Nat → Nat) (W : Nat → Nat → Nat → Nat) (s l0 most h X j : Nat) (R : Nat → Nat) : Prop := (∀ X' h' sp', X' < 128 → h' < 8 → rch R X' h' sp' → okS T s l0 most X' h' sp') ∧ (∀ N, N ≤ most → (eW ho W s N 0 0 (2 * l0) ↔ ∃ X' h' sp', X' < 128 ∧ h' < 8 ∧ Unp h X j h' X' sp' ∧ rch R X' h' sp' ∧ eW ho W s N X' h' sp')) ∧ (∀ X' h' sp', X' < 128 → h' < 8 → rch R X' h' sp' → ¬ Unp h X j h' X' sp' → X' < s → ∀ Y h'' sp'', suc ho W s most X' h' (sp' / 2) (oddB sp') 7 Y h'' sp'' → rch R Y h'' sp'') ∧ rch R 0 0 (2 * l0)
/-- on to a later place, with nothing reached between -/
theorem FI.on {T : aT} {ho : Nat → Nat} {W : Nat → Nat → Nat → Nat} {s l0 most h X j h2 X2 j2 : Nat} {R : Nat → Nat} (D : FI T ho W s l0 most h X j R) (le : ∀ h' X' sp', Unp h2 X2 j2 h' X' sp' → Unp h X j h' X' sp') (no : ∀ X' h' sp', X' < 128 → h' < 8 → rch R X' h' sp' → Unp h X j h' X' sp' → ¬ Unp h2 X2 j2 h' X' sp' → (∀ N, N ≤ most → ¬ eW ho W s N X' h' sp') ∧ ¬ X' < s) : FI T ho W s l0 most h2 X2 j2 R := by
  obtain ⟨v, e, c, st⟩ := D
  refine ⟨v, fun N hN => (e N hN).trans ⟨?_, ?_⟩, fun X' h' sp' a b r u lt => ?_, st⟩
  · rintro ⟨X', h', sp', a, b, u, r, q⟩
    refine ⟨X', h', sp', a, b, ?_, r, q⟩
    apply Classical.byContradiction
    intro z
    exact (no X' h' sp' a b r u z).1 N hN q
  · rintro ⟨X', h', sp', a, b, u, r, q⟩
    exact ⟨X', h', sp', a, b, le _ _ _ u, r, q⟩
  · by_cases z : Unp h X j h' X' sp'
    · exact absurd lt (no X' h' sp' a b r z u).2
    · exact c X' h' sp' a b r z lt
theorem FI.step {T : aT} {ho : Nat → Nat} {W : Nat → Nat → Nat → Nat} {s l0 most h X j : Nat} {R R' : Nat → Nat} (hs : s < 128) (hX : X < s) (hh : h < 8) (hm7 : most ≤ 7) (D : FI T ho W s l0 most h X j R) (r : rch R X h j) (hR : ∀ Y h' sp', h' < 8 → (rch R' Y h' sp' ↔ rch R Y h' sp' ∨ suc ho W s most X h (j / 2) (oddB j) 7 Y h' sp')) (ok : ∀ Y h' sp', suc ho W s most X h (j / 2) (oddB j) 7 Y h' sp' → sp' < 14 ∧ sp' / 2 ≤ tB T ∧ (l0 = 0 ∨ 1 ≤ sp' / 2)) : FI T ho W s l0 most h X (j + 1) R' := by
  obtain ⟨v, e, c, st⟩ := D
  obtain ⟨v1, v2, v3, v4, v5, v6⟩ := v X h j (by omega) hh r
  -- where a crossing leads
  have sc : ∀ Y h' sp', suc ho W s most X h (j / 2) (oddB j) 7 Y h' sp' → Y < 128 ∧ h' < 8 ∧ Unp h X (j + 1) h' Y sp' ∧ (s &&& Y) = Y ∧ h' ≤ pc Y ∧ h' ≤ most := fun Y h' sp' q => by
    obtain ⟨m, m1, m2, m3, rfl, d, la', ab', m4, m5, rfl, rfl⟩ := q
    have g := or_gt m3
    have p := pc_or (show X < 128 by omega) m1 m3
    refine ⟨or128 (by omega) m1, ?_, ?_, sub_or v1 m2, ?_, ?_⟩
    · split
      · have := m4 (by assumption)
        omega
      · omega
    · split
      · exact Or.inl (by omega)
      · exact Or.inr ⟨rfl, Or.inl g⟩
    · split <;> omega
    · split
      · have := m4 (by assumption)
        omega
      · exact v3
  refine ⟨fun X' h' sp' a b q => ?_, fun N hN => (e N hN).trans ⟨?_, ?_⟩, fun X' h' sp' a b q u lt Y h2 sp2 q2 => ?_, (hR 0 0 _ (by omega)).mpr (Or.inl st)⟩
  · rcases (hR X' h' sp' b).mp q with q | q
    · exact v X' h' sp' a b q
    · obtain ⟨-, -, -, s1, s2, s3⟩ := sc X' h' sp' q
      obtain ⟨o1, o2, o3⟩ := ok X' h' sp' q
      exact ⟨s1, s2, s3, o1, o2, o3⟩
  · rintro ⟨X', h', sp', a, b, u, q, ev⟩
    by_cases z : h' = h ∧ X' = X ∧ sp' = j
    · obtain ⟨rfl, rfl, rfl⟩ := z
      obtain ⟨Y, h2, sp2, q2, ev2⟩ := (eW_suc hs v1 hX hN).mp ev
      obtain ⟨s1, s2, s3, -⟩ := sc Y h2 sp2 q2
      exact ⟨Y, h2, sp2, s1, s2, s3, (hR Y h2 sp2 s2).mpr (Or.inr q2), ev2⟩
    · refine ⟨X', h', sp', a, b, ?_, (hR X' h' sp' b).mpr (Or.inl q), ev⟩
      rcases u with u | ⟨u1, u | ⟨u2, u3⟩⟩
      · exact Or.inl u
      · exact Or.inr ⟨u1, Or.inl u⟩
      · refine Or.inr ⟨u1, Or.inr ⟨u2, ?_⟩⟩
        by_cases y : sp' = j
        · exact absurd ⟨u1, u2, y⟩ z
        · omega
  · rintro ⟨X', h', sp', a, b, u, q, ev⟩
    rcases (hR X' h' sp' b).mp q with q | q
    · refine ⟨X', h', sp', a, b, ?_, q, ev⟩
      rcases u with u | ⟨u1, u | ⟨u2, u3⟩⟩
      · exact Or.inl u
      · exact Or.inr ⟨u1, Or.inl u⟩
      · exact Or.inr ⟨u1, Or.inr ⟨u2, by omega⟩⟩
    · exact ⟨X, h, j, by omega, hh, Or.inr ⟨rfl, Or.inr ⟨rfl, Nat.le_refl _⟩⟩, r, (eW_suc hs v1 hX hN).mpr ⟨X', h', sp', q, ev⟩⟩
  · have h28 : h2 < 8 := by
      obtain ⟨m, m1, m2, m3, m4, d, la', ab', m5, m6, m7, m8⟩ := q2
      rw [m7]
      split
      · have := m5 (by assumption)
        omega
      · exact b
    rw [hR Y h2 sp2 h28]
    rcases (hR X' h' sp' b).mp q with q | q
    · by_cases z : h' = h ∧ X' = X ∧ sp' = j
      · obtain ⟨rfl, rfl, rfl⟩ := z
        exact Or.inr q2
      · refine Or.inl (c X' h' sp' a b q (fun w => u ?_) lt Y h2 sp2 q2)
        rcases w with w | ⟨w1, w | ⟨w2, w3⟩⟩
        · exact Or.inl w
        · exact Or.inr ⟨w1, Or.inl w⟩
        · refine Or.inr ⟨w1, Or.inr ⟨w2, ?_⟩⟩
          by_cases y : sp' = j
          · exact absurd ⟨w1, w2, y⟩ z
          · omega
    · exact absurd (sc X' h' sp' q).2.2.1 u
theorem c_few44_l {T : aT} {L : aL} {n b h s l0 c most hr X : Nat} {G : aG} {r26 : Int32 → Int32 → bS → Option (Int32 × bS)} {r33 : Int32 → Int32 → Int32 → bS → Option (Int32 × bS)} (hn : 20 ≤ n) (hI : InvT T L) (hs : s < 2 ^ tM T) (hXs : X < s) (hhr : hr ≤ most) (hm7 : most ≤ 7) (hmp : most ≤ 0 ∨ c = 2) (hc1 : 1 ≤ c) : ∀ (k j : Nat) (σ : bS) (R : Nat → Nat), CT T L σ → Prep T L G b h s l0 c σ → KR R σ → FI T (tHome T) (wN T L G h) s l0 most hr X j R → j ≤ 14 → 14 < j + k → ∃ σ' R', cRows_fewestWishers_b44 n r26 r33 k (nI most) (nI hr) (nI X) (nI j) σ = r33 (nI most) (nI hr) (nI (X + 1)) σ' ∧ KR R' σ' ∧ FI T (tHome T) (wN T L G h) s l0 most hr (X + 1) 0 R' ∧ fr62 σ σ' := by
  have hM := hI.2.2.2.1
  have hB := hI.1
  have h7 : (2 : Nat) ^ tM T ≤ 2 ^ 7 := Nat.pow_le_pow_right (by decide) hM
  have leU : ∀ j h' X' sp', Unp hr (X + 1) 0 h' X' sp' → Unp hr X j h' X' sp' := fun j h' X' sp' u => by
    rcases u with u | ⟨u1, u | ⟨u2, u3⟩⟩
    · exact Or.inl u
    · exact Or.inr ⟨u1, Or.inl (by omega)⟩
    · exact Or.inr ⟨u1, Or.inl (by omega)⟩
  have noU : ∀ j h' X' sp', Unp hr X j h' X' sp' → ¬ Unp hr (X + 1) 0 h' X' sp' → h' = hr ∧ X' = X ∧ j ≤ sp' := fun j h' X' sp' u z => by
    rcases u with u | ⟨u1, u | ⟨u2, u3⟩⟩
    · exact absurd (Or.inl u) z
    · by_cases y : X' = X + 1
      · exact absurd (Or.inr ⟨u1, Or.inr ⟨y, Nat.zero_le _⟩⟩) z
      · exact absurd (Or.inr ⟨u1, Or.inl (by omega)⟩) z
    · exact ⟨u1, u2, u3⟩
  intro k
  induction k with
  | zero =>
    intro j σ R hT hP H D h1 h2
    omega
  | succ k ih =>
    intro j σ R hT hP H D h1 h2
    rw [cRows_fewestWishers_b44, cb_14_n]
    by_cases hj : j < 14
    · rw [if_neg (nI_ge hj (by omega)), c_subE hP.1 (by omega), ob_def]
      by_cases e : (s &&& X) = X
      · have st := sub_strict (by omega) e hXs
        obtain ⟨k1, k2⟩ := H (8 * X + hr) (by omega)
        rw [if_pos e]
        simp only [if_neg one_ne]
        rw [cb_8_n, nI_mul, nI_add, show X * 8 + hr = 8 * X + hr by omega, bin_nI (by omega) (by decide), sA_n _ _ (by omega), k1]
        by_cases r : (R (8 * X + hr)).testBit j = true
        · obtain ⟨v1, v2, v3, v4, v5, v6⟩ := D.1 X hr j (by omega) (by omega) r
          have ej := sp_is j
          obtain ⟨σ1, R1, c1, c2, c3, c4⟩ := c_spread_l (n := n) (R0 := R) (ab := oddB j) (la := j / 2) (hr := hr) (most := most) (c := c) hn hI hs (show X < 2 ^ tM T by omega) v5 v6 v2 hhr hm7 hmp hc1 st n 0 σ R hT hP H (fun Y h' sp' _ => ⟨Or.inl, fun u => u.elim id (fun ⟨m, hm, _⟩ => by omega)⟩) (by omega) (by omega)
          rw [← ej] at c1
          have D1 := D.step (R' := R1) (by omega) hXs (by omega) hm7 r c3 (fun Y h' sp' q => by
            obtain ⟨m, m1, m2, m3, m4, d, la', ab', m5, m6, m7, m8⟩ := q
            have a2 := abN_le ab'
            have p7 := pc_le (s := s)
            have hcap : pc X + hr < pc s * c := by
              rcases hmp with q | q
              · have : pc s * 1 ≤ pc s * c := Nat.mul_le_mul_left _ hc1
                omega
              · rw [q]
                omega
            have lv : la' ≤ tB T ∧ (l0 = 0 ∨ 1 ≤ la') := by
              cases d
              · exact (c_after (n := n) hn hI hT hP (show X < 2 ^ tM T by omega) (bit_lt hs m2) m2 v5 v6 (by omega) hcap).2 la' ab' m6
              · have w := m5 rfl
                have c2 : c = 2 := by omega
                exact (c_paidE (n := n) hn hI hT hP (show X < 2 ^ tM T by omega) (bit_lt hs m2) m2 v5 (by omega) (by rw [c2]; omega)).2 la' ab' m6
            have e2 : sp' / 2 = la' := by omega
            rw [e2]
            exact ⟨by omega, lv.1, lv.2⟩)
          rw [if_pos ((bit14 (by omega) hj).mpr r), show cRows_spread n (nI X) (nI j) (nI hr) (nI most) σ = some σ1 from c1, ob_def, cRows_fewestWishers_b88, ci1_nI, nI_add]
          obtain ⟨σ2, R2, d1, d2, d3, d4⟩ := ih (j + 1) σ1 R1 (hT.fr c4 (fun a x y => by omega)) (hP.fr c4 (by decide) (by decide)) c2 D1 (by omega) (by omega)
          exact ⟨σ2, R2, d1, d2, d3, c4.trans d4⟩
        · rw [if_neg (fun u => r ((bit14 (by omega) hj).mp u)), cRows_fewestWishers_b88, ci1_nI, nI_add]
          refine ih (j + 1) σ R hT hP H (D.on (fun h' X' sp' u => ?_) (fun X' h' sp' a b q u z => ?_)) (by omega) (by omega)
          · rcases u with u | ⟨u1, u | ⟨u2, u3⟩⟩
            · exact Or.inl u
            · exact Or.inr ⟨u1, Or.inl u⟩
            · exact Or.inr ⟨u1, Or.inr ⟨u2, by omega⟩⟩
          · exfalso
            rcases u with u | ⟨u1, u | ⟨u2, u3⟩⟩
            · exact z (Or.inl u)
            · exact z (Or.inr ⟨u1, Or.inl u⟩)
            · by_cases y : sp' = j
              · rw [u1, u2, y] at q
                exact r q
              · exact z (Or.inr ⟨u1, Or.inr ⟨u2, by omega⟩⟩)
      · rw [if_neg e]
        simp only [if_true]
        rw [cRows_fewestWishers_b94, ci1_nI, nI_add]
        refine ⟨σ, R, rfl, H, D.on (leU j) (fun X' h' sp' a b q u z => ?_), frC.rf⟩
        obtain ⟨u1, u2, u3⟩ := noU j h' X' sp' u z
        exfalso
        have := (D.1 X' h' sp' a b q).1
        rw [u2] at this
        exact e this
    · have e : j = 14 := by omega
      subst e
      rw [if_pos (Int32.le_refl _), cRows_fewestWishers_b94, ci1_nI, nI_add]
      refine ⟨σ, R, rfl, H, D.on (leU 14) (fun X' h' sp' a b q u z => ?_), frC.rf⟩
      obtain ⟨u1, u2, u3⟩ := noU 14 h' X' sp' u z
      have := (D.1 X' h' sp' a b q).2.2.2.1
      omega
/-- what the class has found, and what it leaves -/
def FewR (T : aT) (ho : Nat → Nat) (W : Nat → Nat → Nat → Nat) (s l0 most N0 : Nat) (R : Nat → Nat) : Prop := (∀ N, N < N0 → N ≤ most → ¬ eW ho W s N 0 0 (2 * l0)) ∧ (N0 ≤ most → eW ho W s N0 0 0 (2 * l0) ∧ FI T ho W s l0 most N0 s 0 R) ∧ N0 ≤ most + 1
theorem FI.land {T : aT} {ho : Nat → Nat} {W : Nat → Nat → Nat → Nat} {s l0 most h : Nat} {R : Nat → Nat} (hs : s < 128) (hm : h ≤ most) (hm7 : most ≤ 7) (D : FI T ho W s l0 most h s 0 R) : eW ho W s h 0 0 (2 * l0) ↔ ∃ sp, sp < 14 ∧ sp % 2 = 0 ∧ (R (8 * s + h)).testBit sp = true := by
  rw [D.2.1 h hm]
  constructor
  · rintro ⟨X', h', sp', a, b, u, r, q⟩
    obtain ⟨v1, v2, v3, v4, v5, v6⟩ := D.1 X' h' sp' a b r
    have le := eV_le q
    rcases u with u | ⟨u1, u | ⟨u2, -⟩⟩
    · omega
    · have := sb_le v1
      omega
    · subst u1 u2
      have q : eV ho W X' h' (pc X' - pc X') X' h' (sp' / 2) (decide (sp' % 2 = 1)) := q
      rw [Nat.sub_self, eV_0] at q
      have := of_decide_eq_false q.2
      exact ⟨sp', v4, by omega, r⟩
  · rintro ⟨sp, h1, h2, h3⟩
    refine ⟨s, h, sp, hs, by omega, Or.inr ⟨rfl, Or.inr ⟨rfl, Nat.zero_le _⟩⟩, h3, ?_⟩
    show eV ho W s h (pc s - pc s) s h (sp / 2) (decide (sp % 2 = 1))
    rw [Nat.sub_self, eV_0]
    exact ⟨rfl, decide_eq_false (by omega)⟩
theorem c_few33_l {T : aT} {L : aL} {n b h s l0 c most hr : Nat} {G : aG} {r26 : Int32 → Int32 → bS → Option (Int32 × bS)} (hn : 20 ≤ n) (hI : InvT T L) (hs : s < 2 ^ tM T) (hhr : hr ≤ most) (hm7 : most ≤ 7) (hmp : most ≤ 0 ∨ c = 2) (hc1 : 1 ≤ c) : ∀ (k X : Nat) (σ : bS) (R : Nat → Nat), CT T L σ → Prep T L G b h s l0 c σ → KR R σ → FI T (tHome T) (wN T L G h) s l0 most hr X 0 R → X ≤ s → s < X + k → ∃ σ' R', KR R' σ' ∧ FI T (tHome T) (wN T L G h) s l0 most hr s 0 R' ∧ fr62 σ σ' ∧ ((eW (tHome T) (wN T L G h) s hr 0 0 (2 * l0) ∧ cRows_fewestWishers_b33 n r26 k (nI most) (nI hr) (nI X) σ = some (nI hr, σ')) ∨ (¬ eW (tHome T) (wN T L G h) s hr 0 0 (2 * l0) ∧ cRows_fewestWishers_b33 n r26 k (nI most) (nI hr) (nI X) σ = r26 (nI most) (nI (hr + 1)) σ')) := by
  have hM := hI.2.2.2.1
  have h7 : (2 : Nat) ^ tM T ≤ 2 ^ 7 := Nat.pow_le_pow_right (by decide) hM
  intro k
  induction k with
  | zero =>
    intro X σ R hT hP H D h1 h2
    omega
  | succ k ih =>
    intro X σ R hT hP H D h1 h2
    have e10 : sI σ 59 10 = nI s := hP.1
    rw [cRows_fewestWishers_b33, e10]
    by_cases hX : X < s
    · obtain ⟨σ1, R1, c1, c2, c3, c4⟩ := c_few44_l (n := n) (r26 := r26) (r33 := cRows_fewestWishers_b33 n r26 k) hn hI hs hX hhr hm7 hmp hc1 n 0 σ R hT hP H D (by omega) (by omega)
      rw [if_neg (nI_ge hX (by omega)), show cRows_fewestWishers_b44 n r26 (cRows_fewestWishers_b33 n r26 k) n (nI most) (nI hr) (nI X) ci_0 σ = _ from c1]
      obtain ⟨σ2, R2, d1, d2, d3, d4⟩ := ih (X + 1) σ1 R1 (hT.fr c4 (fun a x y => by omega)) (hP.fr c4 (by decide) (by decide)) c2 c3 (by omega) (by omega)
      exact ⟨σ2, R2, d1, d2, c4.trans d3, d4⟩
    · have e : X = s := by omega
      subst e
      obtain ⟨k1, k2⟩ := H (8 * X + hr) (by omega)
      rw [if_pos (Int32.le_refl _), cb_8_n, nI_mul, nI_add, show X * 8 + hr = 8 * X + hr by omega, bin_nI (by omega) (by decide), sA_n _ _ (by omega), k1]
      refine ⟨σ, R, H, D, frC.rf, ?_⟩
      have la := D.land (by omega) hhr hm7
      by_cases z : eW (tHome T) (wN T L G h) X hr 0 0 (2 * l0)
      · exact Or.inl ⟨z, by rw [if_neg (fun u => (landed_is k2).mp u (la.mp z))]⟩
      · exact Or.inr ⟨z, by rw [if_pos ((landed_is k2).mpr (fun u => z (la.mpr u))), ci1_nI, nI_add]⟩
theorem FI.pass {T : aT} {ho : Nat → Nat} {W : Nat → Nat → Nat → Nat} {s l0 most h : Nat} {R : Nat → Nat} (hs : s < 128) (hm : h ≤ most) (hm7 : most ≤ 7) (D : FI T ho W s l0 most h s 0 R) (z : ¬ eW ho W s h 0 0 (2 * l0)) : FI T ho W s l0 most (h + 1) 0 0 R := by
  refine D.on (fun h' X' sp' u => ?_) (fun X' h' sp' a b q u y => ?_)
  · rcases u with u | ⟨u1, -⟩
    · exact Or.inl (by omega)
    · exact Or.inl (by omega)
  · have v := D.1 X' h' sp' a b q
    have vl := sb_le v.1
    rcases u with u | ⟨u1, u | ⟨u2, -⟩⟩
    · exfalso
      by_cases w : h' = h + 1
      · refine y (Or.inr ⟨w, ?_⟩)
        by_cases t : X' = 0
        · exact Or.inr ⟨t, Nat.zero_le _⟩
        · exact Or.inl (by omega)
      · exact y (Or.inl (by omega))
    · omega
    · subst u1 u2
      refine ⟨fun N hN ev => ?_, Nat.lt_irrefl _⟩
      have ev : eV ho W X' N (pc X' - pc X') X' h' (sp' / 2) (decide (sp' % 2 = 1)) := ev
      rw [Nat.sub_self, eV_0] at ev
      have e2 := of_decide_eq_false ev.2
      exact z ((D.land hs hm hm7).mpr ⟨sp', v.2.2.2.1, by omega, q⟩)
theorem c_few26_l {T : aT} {L : aL} {n b h s l0 c most : Nat} {G : aG} (hn : 200 ≤ n) (hI : InvT T L) (hs : s < 2 ^ tM T) (hm7 : most ≤ 7) (hmp : most ≤ 0 ∨ c = 2) (hc1 : 1 ≤ c) : ∀ (k hr : Nat) (σ : bS) (R : Nat → Nat), CT T L σ → Prep T L G b h s l0 c σ → KR R σ → FI T (tHome T) (wN T L G h) s l0 most hr 0 0 R → (∀ N, N < hr → N ≤ most → ¬ eW (tHome T) (wN T L G h) s N 0 0 (2 * l0)) → hr ≤ most + 1 → most + 1 < hr + k → ∃ N0 σ' R', cRows_fewestWishers_b26 n k (nI most) (nI hr) σ = some (nI N0, σ') ∧ KR R' σ' ∧ FewR T (tHome T) (wN T L G h) s l0 most N0 R' ∧ fr62 σ σ' := by
  have hM := hI.2.2.2.1
  have h7 : (2 : Nat) ^ tM T ≤ 2 ^ 7 := Nat.pow_le_pow_right (by decide) hM
  intro k
  induction k with
  | zero =>
    intro hr σ R hT hP H D a h1 h2
    omega
  | succ k ih =>
    intro hr σ R hT hP H D a h1 h2
    rw [cRows_fewestWishers_b26]
    by_cases hh : hr ≤ most
    · obtain ⟨σ1, R1, c1, c2, c3, c4⟩ := c_few33_l (n := n) (r26 := cRows_fewestWishers_b26 n k) (by omega) hI hs hh hm7 hmp hc1 n 0 σ R hT hP H D (by omega) (by omega)
      rw [if_neg (fun u => by have := (nI_ltI (by omega) (by omega)).mp u; omega)]
      rcases c4 with ⟨z, c4⟩ | ⟨z, c4⟩
      · rw [show cRows_fewestWishers_b33 n (cRows_fewestWishers_b26 n k) n (nI most) (nI hr) ci_0 σ = _ from c4]
        exact ⟨hr, σ1, R1, rfl, c1, ⟨a, fun _ => ⟨z, c2⟩, by omega⟩, c3⟩
      · rw [show cRows_fewestWishers_b33 n (cRows_fewestWishers_b26 n k) n (nI most) (nI hr) ci_0 σ = _ from c4]
        obtain ⟨N0, σ2, R2, d1, d2, d3, d4⟩ := ih (hr + 1) σ1 R1 (hT.fr c3 (fun a x y => by omega)) (hP.fr c3 (by decide) (by decide)) c1 (c2.pass (by omega) hh hm7 z) (fun N hN hN2 => by
          by_cases y : N = hr
          · subst y
            exact z
          · exact a N (by omega) hN2) (by omega) (by omega)
        exact ⟨N0, σ2, R2, d1, d2, d3, c3.trans d4⟩
    · have e : hr = most + 1 := by omega
      rw [if_pos ((nI_ltI (by omega) (by omega)).mpr (by omega)), ci1_nI, nI_add]
      exact ⟨most + 1, σ, R, rfl, H, ⟨fun N hN => a N (by omega), fun u => by omega, by omega⟩, frC.rf⟩
theorem c_few {T : aT} {L : aL} {n b h s l0 c most : Nat} {G : aG} {σ : bS} (hn : 2000 ≤ n) (hI : InvT T L) (hs0 : 0 < s) (hs : s < 2 ^ tM T) (hm7 : most ≤ 7) (hmp : most ≤ 0 ∨ c = 2) (hc1 : 1 ≤ c) (hT : CT T L σ) (hP : Prep T L G b h s l0 c σ) : ∃ N0 σ' R', cRows_fewestWishers n (nI most) σ = some (nI N0, σ') ∧ KR R' σ' ∧ FewR T (tHome T) (wN T L G h) s l0 most N0 R' ∧ fr62 σ σ' := by
  have hB := hI.1
  have hl0 := hP.2.2.2.2.1
  obtain ⟨σ1, a1, a2, a3⟩ := f_fill_62 (n := n) (by omega) ci_0 σ
  have e12 : sI σ1 59 12 = lI l0 := by
    rw [sI_d, (a3 59 (by decide)).1]
    exact hP.2.2.1.trans hP.2.2.2.1
  have f2 : fr62 σ (uA σ1 62 ci_0 (nI (2 ^ (2 * l0)))) := frCaA a3 rfl
  have only : ∀ X' h' sp', h' < 8 → (rch (fun i => if i = 0 then 2 ^ (2 * l0) else 0) X' h' sp' ↔ X' = 0 ∧ h' = 0 ∧ sp' = 2 * l0) := fun X' h' sp' hh => by
    show ((if 8 * X' + h' = 0 then 2 ^ (2 * l0) else 0).testBit sp' = true) ↔ _
    by_cases z : 8 * X' + h' = 0
    · rw [if_pos z, Nat.testBit_two_pow, decide_eq_true_iff]
      exact ⟨fun u => ⟨by omega, by omega, u.symm⟩, fun u => u.2.2.symm⟩
    · rw [if_neg z, Nat.zero_testBit]
      exact ⟨fun u => (by cases u), fun u => absurd (by rw [u.1, u.2.1]) z⟩
  obtain ⟨N0, σ2, R2, c1, c2, c3, c4⟩ := c_few26_l (n := n) (l0 := l0) (most := most) (c := c) (by omega) hI hs hm7 hmp hc1 n 0 (uA σ1 62 ci_0 (nI (2 ^ (2 * l0)))) (fun i => if i = 0 then 2 ^ (2 * l0) else 0) (hT.fr f2 (fun a x y => by omega)) (hP.fr f2 (by decide) (by decide)) (fun i hi => by
    rw [uA_2, show ci_0.toNatClampNeg = 0 by decide]
    show _ = nI (if i = 0 then 2 ^ (2 * l0) else 0) ∧ (if i = 0 then 2 ^ (2 * l0) else 0) < 2 ^ 14
    by_cases z : i = 0
    · rw [if_pos ⟨rfl, z⟩, if_pos z]
      exact ⟨rfl, Nat.pow_lt_pow_right (by decide) (by omega)⟩
    · rw [if_neg (fun u => z u.2), if_neg z, a2 i hi]
      exact ⟨rfl, by decide⟩) ⟨fun X' h' sp' a b r => by
      obtain ⟨rfl, rfl, rfl⟩ := (only X' h' sp' b).mp r
      exact ⟨Nat.and_zero s, Nat.zero_le _, Nat.zero_le _, by omega, by omega, by omega⟩, fun N hN => ⟨fun q => ⟨0, 0, 2 * l0, by omega, by omega, Or.inr ⟨rfl, Or.inr ⟨rfl, Nat.zero_le _⟩⟩, (only 0 0 _ (by omega)).mpr ⟨rfl, rfl, rfl⟩, q⟩, fun ⟨X', h', sp', a, b, u, r, q⟩ => by
      obtain ⟨rfl, rfl, rfl⟩ := (only X' h' sp' b).mp r
      exact q⟩, fun X' h' sp' a b r u => by
      obtain ⟨rfl, rfl, rfl⟩ := (only X' h' sp' b).mp r
      exact absurd (Or.inr ⟨rfl, Or.inr ⟨rfl, Nat.zero_le _⟩⟩) u, (only 0 0 _ (by omega)).mpr ⟨rfl, rfl, rfl⟩⟩ (fun N hN => by omega) (by omega) (by omega)
  refine ⟨N0, σ2, R2, ?_, c2, c3, f2.trans c4⟩
  unfold cRows_fewestWishers
  rw [a1, ob_def, e12, spI_is (ab := false) (x := ci_0) rfl, ob_def, bin_c0 (by decide) (by decide)]
  show cRows_fewestWishers_b26 n n (nI most) ci_0 (uA σ1 62 ci_0 (ci_1 <<< (nI (2 * l0 + abN false) &&& 31))) = _
  rw [show 2 * l0 + abN false = 2 * l0 from rfl, shl14 (by omega)]
  exact c1
