/-! from which spots so many bring all home: the class -/
/-- what stands of one set and number of hires -/
def HpO (ho : Nat → Nat) (W : Nat → Nat → Nat → Nat) (s N : Nat) (R : Nat → Nat) (X h : Nat) (σ : bS) : Prop := ∃ B, B < 2 ^ 14 ∧ σ.2.1 63 (8 * X + h) = nI B ∧ ∀ sp, sp < 14 → (B.testBit sp = true ↔ rch R X h sp ∧ eW ho W s N X h sp)
/-- what the reaching left behind: where one leads is reached too, up to N hires -/
def Clo (T : aT) (ho : Nat → Nat) (W : Nat → Nat → Nat → Nat) (s l0 most N : Nat) (R : Nat → Nat) : Prop := (∀ X h sp, X < 128 → h < 8 → rch R X h sp → okS T s l0 most X h sp) ∧ (∀ X h sp, X < 128 → h ≤ N → rch R X h sp → X < s → ∀ Y h' sp', suc ho W s N X h (sp / 2) (oddB sp) 7 Y h' sp' → rch R Y h' sp') ∧ rch R 0 0 (2 * l0) ∧ N ≤ most ∧ most ≤ 7
theorem FI.clo {T : aT} {ho : Nat → Nat} {W : Nat → Nat → Nat → Nat} {s l0 most N : Nat} {R : Nat → Nat} (hN : N ≤ most) (hm7 : most ≤ 7) (D : FI T ho W s l0 most N s 0 R) : Clo T ho W s l0 most N R := by
  refine ⟨D.1, fun X h sp hX hh r lt Y h' sp' q => ?_, D.2.2.2, hN, hm7⟩
  refine D.2.2.1 X h sp hX (by omega) r (fun u => ?_) lt Y h' sp' ?_
  · rcases u with u | ⟨u1, u | ⟨u2, -⟩⟩ <;> omega
  · obtain ⟨m, m1, m2, m3, m4, d, la', ab', m5, m6⟩ := q
    exact ⟨m, m1, m2, m3, m4, d, la', ab', fun u => by have := m5 u; omega, m6⟩
theorem c_hope_l {T : aT} {L : aL} {n b h s l0 c most N hr X sp : Nat} {G : aG} {R : Nat → Nat} {σ : bS} (hn : 20 ≤ n) (hI : InvT T L) (hs : s < 2 ^ tM T) (hXs : X < s) (hmp : most ≤ 0 ∨ c = 2) (hc1 : 1 ≤ c) (hT : CT T L σ) (hP : Prep T L G b h s l0 c σ) (C : Clo T (tHome T) (wN T L G h) s l0 most N R) (hh : hr ≤ N) (r : rch R X hr sp) (HP : ∀ m, m < 7 → s.testBit m = true → X.testBit m = false → ∀ h', h' ≤ N → HpO (tHome T) (wN T L G h) s N R (X ||| 2 ^ m) h' σ) : ∀ (k j : Nat), (∀ Y h' sp', suc (tHome T) (wN T L G h) s N X hr (sp / 2) (oddB sp) j Y h' sp' → ¬ eW (tHome T) (wN T L G h) s N Y h' sp') → j ≤ 7 → 7 < j + k → ∃ v, cRows_isHopeful_b29 n k (nI X) (nI sp) (nI hr) (nI N) (nI j) σ = some (v, σ) ∧ ((v = 1 ∧ eW (tHome T) (wN T L G h) s N X hr sp) ∨ (v = 0 ∧ ¬ eW (tHome T) (wN T L G h) s N X hr sp)) := by
  have hM := hI.2.2.2.1
  have hB := hI.1
  have h7 : (2 : Nat) ^ tM T ≤ 2 ^ 7 := Nat.pow_le_pow_right (by decide) hM
  have hNm := C.2.2.2.1
  have hm7 := C.2.2.2.2
  obtain ⟨v1, v2, v3, v4, v5, v6⟩ := C.1 X hr sp (by omega) (by omega) r
  have st := sub_strict (by omega) v1 hXs
  have ej := sp_is sp
  have p7 := pc_le (s := s)
  have ews := fun (Y h' sp' : Nat) => @eW_suc (tHome T) (wN T L G h) s N N X hr sp (by omega) v1 hXs (Nat.le_refl _)
  have hcap : pc X + hr < pc s * c := by
    rcases hmp with q | q
    · have : pc s * 1 ≤ pc s * c := Nat.mul_le_mul_left _ hc1
      omega
    · rw [q]
      omega
  intro k
  induction k with
  | zero =>
    intro j a h1 h2
    omega
  | succ k ih =>
    intro j a h1 h2
    rw [cRows_isHopeful_b29, cb7_nI]
    by_cases hj : j < 7
    · rw [if_neg (nI_ge hj (by omega)), c_leftE hP.1 (by omega) (by omega) hj, ob_def]
      by_cases z : (s.testBit j && !X.testBit j) = true
      · have z2 := Bool.and_eq_true_iff.mp z
        have xf : X.testBit j = false := by
          have := z2.2
          cases q : X.testBit j
          · rfl
          · rw [q] at this
            cases this
        have hjm := bit_lt hs z2.1
        have xlt : X ||| 2 ^ j < 128 := or128 (by omega) hj
        have kf := c_freeE (n := n) (ab := oddB sp) (la := sp / 2) (hr := hr) hn hI hT hP (show X < 2 ^ tM T by omega) hjm z2.1 v5 v6 (by omega) hcap
        have kv := (c_after (n := n) (ab := oddB sp) (la := sp / 2) (t := pc X + hr) hn hI hT hP (show X < 2 ^ tM T by omega) hjm z2.1 v5 v6 (by omega) hcap).2
        rw [← ej] at kf
        have ei : ((nI X ||| (ci_1 <<< (nI j &&& 31))) * cb_8) + nI hr = nI (8 * (X ||| 2 ^ j) + hr) := by
          rw [or_eq hj, cb_8_n, nI_mul, nI_add, show (X ||| 2 ^ j) * 8 + hr = 8 * (X ||| 2 ^ j) + hr by omega]
        -- neither way leads home: on to the next
        have on : (∀ la' ab', tr (tHome T) (wN T L G h) X (sp / 2) (oddB sp) j false (pc X + hr) = some (la', ab') → ¬ eW (tHome T) (wN T L G h) s N (X ||| 2 ^ j) hr (2 * la' + abN ab')) → (hr < N → ∀ la' ab', tr (tHome T) (wN T L G h) X (sp / 2) (oddB sp) j true (pc X + hr) = some (la', ab') → ¬ eW (tHome T) (wN T L G h) s N (X ||| 2 ^ j) (hr + 1) (2 * la' + abN ab')) → ∃ v, cRows_isHopeful_b142 n (cRows_isHopeful_b29 n k) (nI X) (nI sp) (nI hr) (nI N) (nI j) σ = some (v, σ) ∧ ((v = 1 ∧ eW (tHome T) (wN T L G h) s N X hr sp) ∨ (v = 0 ∧ ¬ eW (tHome T) (wN T L G h) s N X hr sp)) := fun nf np => by
          rw [cRows_isHopeful_b142, ci1_nI, nI_add]
          refine ih (j + 1) (fun Y h' sp' q => ?_) (by omega) (by omega)
          obtain ⟨m, m1, m2, m3, rfl, d, la', ab', m5, m6, rfl, rfl⟩ := q
          by_cases y : m = j
          · subst y
            cases d
            · exact nf la' ab' m6
            · exact np (m5 rfl) la' ab' m6
          · exact a _ _ _ ⟨m, by omega, m2, m3, rfl, d, la', ab', m5, m6, rfl, rfl⟩
        -- with a wisher
        have paid : (∀ la' ab', tr (tHome T) (wN T L G h) X (sp / 2) (oddB sp) j false (pc X + hr) = some (la', ab') → ¬ eW (tHome T) (wN T L G h) s N (X ||| 2 ^ j) hr (2 * la' + abN ab')) → ∃ v, cRows_isHopeful_b96 n (cRows_isHopeful_b29 n k) (nI X) (nI sp) (nI hr) (nI N) (nI j) (nI (8 * (X ||| 2 ^ j) + hr)) σ = some (v, σ) ∧ ((v = 1 ∧ eW (tHome T) (wN T L G h) s N X hr sp) ∨ (v = 0 ∧ ¬ eW (tHome T) (wN T L G h) s N X hr sp)) := fun nf => by
          unfold cRows_isHopeful_b96
          by_cases w : hr < N
          · have c2 : c = 2 := by omega
            obtain ⟨kp, kpv⟩ := c_paidE (n := n) (ab := oddB sp) (la := sp / 2) (hr := hr) hn hI hT hP (show X < 2 ^ tM T by omega) hjm z2.1 v5 (by omega) (by rw [c2]; omega)
            rw [← ej] at kp
            rw [if_neg (nI_ge w (by omega)), kp, ob_def, cRows_isHopeful_b115]
            cases e : tr (tHome T) (wN T L G h) X (sp / 2) (oddB sp) j true (pc X + hr) with
            | none =>
              show ∃ v, (if (-1 : Int32) < 0 then _ else _) = _ ∧ _
              rw [if_pos (by decide)]
              exact on nf (fun _ la' ab' q => by rw [e] at q; cases q)
            | some o =>
              obtain ⟨la', ab'⟩ := o
              obtain ⟨l1, l2⟩ := kpv la' ab' e
              have a2 := abN_le ab'
              obtain ⟨B, b1, b2, b3⟩ := HP j hj z2.1 xf (hr + 1) (by omega)
              have rr := C.2.1 X hr sp (by omega) hh r hXs (X ||| 2 ^ j) (hr + 1) (2 * la' + abN ab') ⟨j, hj, z2.1, xf, rfl, true, la', ab', fun _ => w, e, rfl, rfl⟩
              show ∃ v, (if nI (2 * la' + abN ab') < 0 then _ else bin_ (nI (8 * (X ||| 2 ^ j) + hr) + ci_1) 1024 (if (((sA σ 63 (nI (8 * (X ||| 2 ^ j) + hr) + ci_1)) >>> (nI (2 * la' + abN ab') &&& 31)) &&& ci_1) = ci_1 then bz ci_1 σ else cRows_isHopeful_b142 n (cRows_isHopeful_b29 n k) (nI X) (nI sp) (nI hr) (nI N) (nI j) σ)) = _ ∧ _
              rw [if_neg (nI_pos (by omega)), nI_s, show 8 * (X ||| 2 ^ j) + hr + 1 = 8 * (X ||| 2 ^ j) + (hr + 1) by omega, bin_nI (by omega) (by decide), sA_n _ _ (by omega), b2]
              by_cases t : eW (tHome T) (wN T L G h) s N (X ||| 2 ^ j) (hr + 1) (2 * la' + abN ab')
              · rw [if_pos ((bit14 (by omega) (by omega)).mpr ((b3 _ (by omega)).mpr ⟨rr, t⟩))]
                exact ⟨1, rfl, Or.inl ⟨rfl, (ews 0 0 0).mpr ⟨_, _, _, ⟨j, hj, z2.1, xf, rfl, true, la', ab', fun _ => w, e, rfl, rfl⟩, t⟩⟩⟩
              · rw [if_neg (fun u => t ((b3 _ (by omega)).mp ((bit14 (by omega) (by omega)).mp u)).2)]
                exact on nf (fun _ la2 ab2 q => by
                  rw [e] at q
                  have q := Option.some.inj q
                  have q1 : la' = la2 := congrArg Prod.fst q
                  have q2 : ab' = ab2 := congrArg Prod.snd q
                  subst q1 q2
                  exact t)
          · rw [if_pos ((nI_leI (by omega) (by omega)).mpr (by omega)), cRows_isHopeful_b115, if_pos (show ci_m1 < 0 by decide)]
            exact on nf (fun w' => absurd w' w)
        rw [if_pos z]
        simp only [if_neg one_ne]
        rw [kf, ob_def, ei]
        cases e : tr (tHome T) (wN T L G h) X (sp / 2) (oddB sp) j false (pc X + hr) with
        | none =>
          show ∃ v, (if (-1 : Int32) < 0 then _ else _) = _ ∧ _
          rw [if_pos (by decide)]
          exact paid (fun la' ab' q => by rw [e] at q; cases q)
        | some o =>
          obtain ⟨la', ab'⟩ := o
          obtain ⟨l1, l2⟩ := kv la' ab' e
          have a2 := abN_le ab'
          obtain ⟨B, b1, b2, b3⟩ := HP j hj z2.1 xf hr hh
          have rr := C.2.1 X hr sp (by omega) hh r hXs (X ||| 2 ^ j) hr (2 * la' + abN ab') ⟨j, hj, z2.1, xf, rfl, false, la', ab', (fun u => by cases u), e, rfl, rfl⟩
          show ∃ v, (if nI (2 * la' + abN ab') < 0 then _ else bin_ (nI (8 * (X ||| 2 ^ j) + hr)) 1024 (if (((sA σ 63 (nI (8 * (X ||| 2 ^ j) + hr))) >>> (nI (2 * la' + abN ab') &&& 31)) &&& ci_1) = ci_1 then bz ci_1 σ else cRows_isHopeful_b96 n (cRows_isHopeful_b29 n k) (nI X) (nI sp) (nI hr) (nI N) (nI j) (nI (8 * (X ||| 2 ^ j) + hr)) σ)) = _ ∧ _
          rw [if_neg (nI_pos (by omega)), bin_nI (by omega) (by decide), sA_n _ _ (by omega), b2]
          by_cases t : eW (tHome T) (wN T L G h) s N (X ||| 2 ^ j) hr (2 * la' + abN ab')
          · rw [if_pos ((bit14 (by omega) (by omega)).mpr ((b3 _ (by omega)).mpr ⟨rr, t⟩))]
            exact ⟨1, rfl, Or.inl ⟨rfl, (ews 0 0 0).mpr ⟨_, _, _, ⟨j, hj, z2.1, xf, rfl, false, la', ab', (fun u => by cases u), e, rfl, rfl⟩, t⟩⟩⟩
          · rw [if_neg (fun u => t ((b3 _ (by omega)).mp ((bit14 (by omega) (by omega)).mp u)).2)]
            exact paid (fun la2 ab2 q => by
              rw [e] at q
              have q := Option.some.inj q
              have q1 : la' = la2 := congrArg Prod.fst q
              have q2 : ab' = ab2 := congrArg Prod.snd q
              subst q1 q2
              exact t)
      · rw [if_neg z]
        simp only [if_true]
        rw [cRows_isHopeful_b142, ci1_nI, nI_add]
        refine ih (j + 1) (fun Y h' sp' q => ?_) (by omega) (by omega)
        obtain ⟨m, m1, m2, m3, m4⟩ := q
        by_cases y : m = j
        · subst y
          exact absurd (by rw [m2, m3]; rfl) z
        · exact a _ _ _ ⟨m, by omega, m2, m3, m4⟩
    · have e : j = 7 := by omega
      subst e
      rw [if_pos (Int32.le_refl _)]
      refine ⟨0, rfl, Or.inr ⟨rfl, fun q => ?_⟩⟩
      obtain ⟨Y, h', sp', q1, q2⟩ := (ews 0 0 0).mp q
      exact a Y h' sp' q1 q2
theorem c_hope {T : aT} {L : aL} {n b h s l0 c most N hr X sp : Nat} {G : aG} {R : Nat → Nat} {σ : bS} (hn : 20 ≤ n) (hI : InvT T L) (hs : s < 2 ^ tM T) (hXs : X ≤ s) (hmp : most ≤ 0 ∨ c = 2) (hc1 : 1 ≤ c) (hT : CT T L σ) (hP : Prep T L G b h s l0 c σ) (C : Clo T (tHome T) (wN T L G h) s l0 most N R) (hh : hr ≤ N) (r : rch R X hr sp) (HP : ∀ X', X < X' → X' ≤ s → (s &&& X') = X' → ∀ h', h' ≤ N → HpO (tHome T) (wN T L G h) s N R X' h' σ) : ∃ v, cRows_isHopeful n (nI X) (nI sp) (nI hr) (nI N) σ = some (v, σ) ∧ ((v = 1 ∧ eW (tHome T) (wN T L G h) s N X hr sp) ∨ (v = 0 ∧ ¬ eW (tHome T) (wN T L G h) s N X hr sp)) := by
  have hM := hI.2.2.2.1
  have h7 : (2 : Nat) ^ tM T ≤ 2 ^ 7 := Nat.pow_le_pow_right (by decide) hM
  have hNm := C.2.2.2.1
  have hm7 := C.2.2.2.2
  obtain ⟨v1, v2, v3, v4, v5, v6⟩ := C.1 X hr sp (by omega) (by omega) r
  have e10 : sI σ 59 10 = nI s := hP.1
  unfold cRows_isHopeful
  rw [e10]
  by_cases z : X = s
  · subst z
    have ev : eW (tHome T) (wN T L G h) X N X hr sp ↔ hr = N ∧ sp % 2 = 0 := by
      show eV (tHome T) (wN T L G h) X N (pc X - pc X) X hr (sp / 2) (decide (sp % 2 = 1)) ↔ _
      rw [Nat.sub_self, eV_0]
      exact ⟨fun u => ⟨u.1, by have := of_decide_eq_false u.2; omega⟩, fun u => ⟨u.1, decide_eq_false (by omega)⟩⟩
    rw [if_pos rfl, ev]
    unfold cRows_isHopeful_b24 cRows_isHopeful_b25
    by_cases y : hr = N
    · rw [if_pos (by rw [y]), if_neg (show ¬ ci_2 = 0 by decide), ci_2_n, brem_n (by omega) (by decide) (by decide)]
      by_cases w : sp % 2 = 0
      · rw [w, if_pos (show (nI 0 : Int32) = 0 from rfl)]
        exact ⟨1, rfl, Or.inl ⟨rfl, y, rfl⟩⟩
      · rw [if_neg (fun u => w (nI_inj (by omega) (by decide) (u.trans (show (0 : Int32) = nI 0 from rfl))))]
        exact ⟨0, rfl, Or.inr ⟨rfl, fun u => w u.2⟩⟩
    · rw [if_neg (fun u => y (nI_inj (by omega) (by omega) u))]
      exact ⟨0, rfl, Or.inr ⟨rfl, fun u => y u.1⟩⟩
  · rw [if_neg (fun u => z (nI_inj (by omega) (by omega) u))]
    refine c_hope_l hn hI hs (by omega) hmp hc1 hT hP C hh r (fun m m1 m2 m3 h' hh' => ?_) n 0 (fun Y h' sp' q => ?_) (by omega) (by omega)
    · have so := sub_or v1 m2
      exact HP _ (or_gt m3) (sb_le so) so h' hh'
    · obtain ⟨m, hm, -⟩ := q
      omega
abbrev fr63 (σ σ' : bS) : Prop := frC (fun a => a = 63) σ σ'
theorem c_hopeB_l {T : aT} {L : aL} {n b h s l0 c most N hr X : Nat} {G : aG} {R : Nat → Nat} {r5 : Int32 → Int32 → bS → Option bS} {r11 : Int32 → Int32 → Int32 → bS → Option bS} {σ : bS} (hn : 20 ≤ n) (hI : InvT T L) (hs : s < 2 ^ tM T) (hXs : X ≤ s) (hmp : most ≤ 0 ∨ c = 2) (hc1 : 1 ≤ c) (hT : CT T L σ) (hP : Prep T L G b h s l0 c σ) (H : KR R σ) (C : Clo T (tHome T) (wN T L G h) s l0 most N R) (hh : hr ≤ N) (HP : ∀ X', X < X' → X' ≤ s → (s &&& X') = X' → ∀ h', h' ≤ N → HpO (tHome T) (wN T L G h) s N R X' h' σ) : ∀ (k j B : Nat), B < 2 ^ 14 → (∀ sp, B.testBit sp = true ↔ sp < j ∧ rch R X hr sp ∧ eW (tHome T) (wN T L G h) s N X hr sp) → j ≤ 14 → 14 < j + k → ∃ B', B' < 2 ^ 14 ∧ (∀ sp, sp < 14 → (B'.testBit sp = true ↔ rch R X hr sp ∧ eW (tHome T) (wN T L G h) s N X hr sp)) ∧ cRows_findHopeful_b29 n r5 r11 k (nI N) (nI X) (nI hr) (nI B) (nI j) σ = r11 (nI N) (nI X) (nI hr + ci_m1) (uA σ 63 (nI (8 * X + hr)) (nI B')) := by
  have hM := hI.2.2.2.1
  have h7 : (2 : Nat) ^ tM T ≤ 2 ^ 7 := Nat.pow_le_pow_right (by decide) hM
  have hNm := C.2.2.2.1
  have hm7 := C.2.2.2.2
  have e8 : nI X * cb_8 + nI hr = nI (8 * X + hr) := by
    rw [cb_8_n, nI_mul, nI_add, show X * 8 + hr = 8 * X + hr by omega]
  intro k
  induction k with
  | zero =>
    intro j B hB D h1 h2
    omega
  | succ k ih =>
    intro j B hB D h1 h2
    rw [cRows_findHopeful_b29, cb_14_n, e8]
    by_cases hj : j < 14
    · obtain ⟨k1, k2⟩ := H (8 * X + hr) (by omega)
      rw [if_neg (nI_ge hj (by omega)), bin_nI (by omega) (by decide), sA_n _ _ (by omega), k1]
      have no : ¬ (rch R X hr j ∧ eW (tHome T) (wN T L G h) s N X hr j) → ∃ B', B' < 2 ^ 14 ∧ (∀ sp, sp < 14 → (B'.testBit sp = true ↔ rch R X hr sp ∧ eW (tHome T) (wN T L G h) s N X hr sp)) ∧ cRows_findHopeful_b89 n r5 r11 (cRows_findHopeful_b29 n r5 r11 k) (nI N) (nI X) (nI hr) (nI j) (nI B) σ = r11 (nI N) (nI X) (nI hr + ci_m1) (uA σ 63 (nI (8 * X + hr)) (nI B')) := fun z => by
        unfold cRows_findHopeful_b89 cRows_findHopeful_b90
        rw [ci0_nI, nI_or, Nat.or_zero, nI_s]
        refine ih (j + 1) B hB (fun sp => ?_) (by omega) (by omega)
        rw [D sp]
        constructor
        · rintro ⟨a, q⟩
          exact ⟨by omega, q⟩
        · rintro ⟨a, q⟩
          by_cases y : sp = j
          · rw [y] at q
            exact absurd q z
          · exact ⟨by omega, q⟩
      by_cases r : (R (8 * X + hr)).testBit j = true
      · rw [if_pos ((bit14 (by omega) hj).mpr r)]
        unfold cRows_findHopeful_b61
        rw [if_neg (show ¬ ci_1 = 0 by decide)]
        obtain ⟨v, a1, a2⟩ := c_hope (n := n) hn hI hs hXs hmp hc1 hT hP C hh r HP
        rw [a1, ob_def]
        rcases a2 with ⟨rfl, a2⟩ | ⟨rfl, a2⟩
        · rw [if_neg one_ne]
          unfold cRows_findHopeful_b90
          rw [shl14 hj, nI_or, nI_s]
          refine ih (j + 1) (B ||| 2 ^ j) (Nat.or_lt_two_pow (n := 14) hB (Nat.pow_lt_pow_right (by decide) hj)) (fun sp => ?_) (by omega) (by omega)
          rw [Nat.testBit_or, Nat.testBit_two_pow, Bool.or_eq_true, decide_eq_true_iff, D sp]
          constructor
          · rintro (⟨a, q⟩ | q)
            · exact ⟨by omega, q⟩
            · subst q
              exact ⟨by omega, r, a2⟩
          · rintro ⟨a, q⟩
            by_cases y : sp = j
            · exact Or.inr y.symm
            · exact Or.inl ⟨by omega, q⟩
        · rw [if_pos rfl]
          exact no (fun u => a2 u.2)
      · rw [if_neg (fun u => r ((bit14 (by omega) hj).mp u))]
        unfold cRows_findHopeful_b61
        rw [if_pos (show ci_0 = 0 by decide)]
        exact no (fun u => r u.1)
    · have e : j = 14 := by omega
      subst e
      rw [if_pos (Int32.le_refl _), bin_nI (by omega) (by decide), cRows_findHopeful_b115]
      exact ⟨B, hB, fun sp hsp => (D sp).trans ⟨fun u => u.2, fun u => ⟨hsp, u⟩⟩, rfl⟩
theorem HpO.of {ho : Nat → Nat} {W : Nat → Nat → Nat → Nat} {s N : Nat} {R : Nat → Nat} {X h : Nat} {σ σ' : bS} (H : HpO ho W s N R X h σ) (e : σ'.2.1 63 (8 * X + h) = σ.2.1 63 (8 * X + h)) : HpO ho W s N R X h σ' := by
  obtain ⟨B, b1, b2, b3⟩ := H
  exact ⟨B, b1, e.trans b2, b3⟩
theorem dec_n {x : Nat} : nI (x + 1) + ci_m1 = nI x := by
  rw [show (nI (x + 1) + ci_m1 : Int32) = nI (x + 1) - nI 1 by rw [Int32.sub_eq_add_neg]; rfl, nI_sub (by omega)]
  rfl
theorem c_hopeH_l {T : aT} {L : aL} {n b h s l0 c most N X : Nat} {G : aG} {R : Nat → Nat} {r5 : Int32 → Int32 → bS → Option bS} (hn : 20 ≤ n) (hI : InvT T L) (hs : s < 2 ^ tM T) (hXs : X ≤ s) (hmp : most ≤ 0 ∨ c = 2) (hc1 : 1 ≤ c) (C : Clo T (tHome T) (wN T L G h) s l0 most N R) : ∀ (k j : Nat) (σ : bS), CT T L σ → Prep T L G b h s l0 c σ → KR R σ → (∀ X', X < X' → X' ≤ s → (s &&& X') = X' → ∀ h', h' ≤ N → HpO (tHome T) (wN T L G h) s N R X' h' σ) → ((s &&& X) = X → ∀ h', j ≤ h' → h' ≤ N → HpO (tHome T) (wN T L G h) s N R X h' σ) → j ≤ N + 1 → j < k → ∃ σ', cRows_findHopeful_b11 n r5 k (nI N) (nI X) (nI j - ci_1) σ = r5 (nI N) (nI X + ci_m1) σ' ∧ (∀ X', X ≤ X' → X' ≤ s → (s &&& X') = X' → ∀ h', h' ≤ N → HpO (tHome T) (wN T L G h) s N R X' h' σ') ∧ fr63 σ σ' := by
  have hM := hI.2.2.2.1
  have h7 : (2 : Nat) ^ tM T ≤ 2 ^ 7 := Nat.pow_le_pow_right (by decide) hM
  have hNm := C.2.2.2.1
  have hm7 := C.2.2.2.2
  intro k
  induction k with
  | zero =>
    intro j σ hT hP H A D h1 h2
    omega
  | succ k ih =>
    intro j σ hT hP H A D h1 h2
    rw [cRows_findHopeful_b11]
    by_cases hj : j = 0
    · subst hj
      rw [if_pos (show nI 0 - ci_1 < 0 by decide), cRows_findHopeful_b118, cRows_findHopeful_b121]
      refine ⟨σ, rfl, fun X' a1 a2 a3 h' a4 => ?_, frC.rf⟩
      by_cases z : X' = X
      · subst z
        exact D a3 h' (Nat.zero_le _) a4
      · exact A X' (by omega) a2 a3 h' a4
    · obtain ⟨j', rfl⟩ : ∃ j', j = j' + 1 := ⟨j - 1, by omega⟩
      have ej : nI (j' + 1) - ci_1 = nI j' := by
        rw [ci1_nI, nI_sub (by omega)]
        rfl
      rw [ej, if_neg (nI_pos (by omega)), c_subE hP.1 (by omega), ob_def]
      by_cases e : (s &&& X) = X
      · rw [if_pos e]
        simp only [if_neg one_ne]
        obtain ⟨B, b1, b2, b3⟩ := c_hopeB_l (n := n) (hr := j') (r5 := r5) (r11 := cRows_findHopeful_b11 n r5 k) hn hI hs hXs hmp hc1 hT hP H C (by omega) A n 0 0 (by decide) (fun sp => by
          rw [Nat.zero_testBit]
          exact ⟨fun u => (by cases u), fun u => by omega⟩) (by omega) (by omega)
        rw [show cRows_findHopeful_b29 n r5 (cRows_findHopeful_b11 n r5 k) n (nI N) (nI X) (nI j') ci_0 ci_0 σ = _ from b3]
        have f1 : fr63 σ (uA σ 63 (nI (8 * X + j')) (nI B)) := frC.uA rfl
        have rd : ∀ p, (uA σ 63 (nI (8 * X + j')) (nI B)).2.1 63 p = if p = 8 * X + j' then nI B else σ.2.1 63 p := fun p => by
          rw [uA_2, nI_clamp (by omega)]
          simp
        have e2 : nI j' + ci_m1 = nI j' - ci_1 := by
          rw [Int32.sub_eq_add_neg]
          rfl
        rw [e2]
        obtain ⟨σ2, d1, d2, d3⟩ := ih j' (uA σ 63 (nI (8 * X + j')) (nI B)) (hT.fr f1 (fun a x y => by omega)) (hP.fr f1 (by decide) (by decide)) (fun i hi => by rw [uA_o _ _ _ _ (by decide)]; exact H i hi) (fun X' a1 a2 a3 h' a4 => (A X' a1 a2 a3 h' a4).of (by rw [rd, if_neg (by omega)])) (fun _ h' a1 a2 => by
          by_cases z : h' = j'
          · subst z
            exact ⟨B, b1, by rw [rd, if_pos rfl], b2⟩
          · exact (D e h' (by omega) a2).of (by rw [rd, if_neg (by omega)])) (by omega) (by omega)
        exact ⟨σ2, d1, d2, f1.trans d3⟩
      · rw [if_neg e]
        simp only [if_true]
        rw [cRows_findHopeful_b118, cRows_findHopeful_b121]
        refine ⟨σ, rfl, fun X' a1 a2 a3 h' a4 => ?_, frC.rf⟩
        by_cases z : X' = X
        · subst z
          exact absurd a3 e
        · exact A X' (by omega) a2 a3 h' a4
theorem c_hopeX_l {T : aT} {L : aL} {n b h s l0 c most N : Nat} {G : aG} {R : Nat → Nat} (hn : 20 ≤ n) (hI : InvT T L) (hs : s < 2 ^ tM T) (hmp : most ≤ 0 ∨ c = 2) (hc1 : 1 ≤ c) (C : Clo T (tHome T) (wN T L G h) s l0 most N R) : ∀ (k j : Nat) (σ : bS), CT T L σ → Prep T L G b h s l0 c σ → KR R σ → (∀ X', j ≤ X' → X' ≤ s → (s &&& X') = X' → ∀ h', h' ≤ N → HpO (tHome T) (wN T L G h) s N R X' h' σ) → j ≤ s + 1 → j < k → ∃ σ', cRows_findHopeful_b5 n k (nI N) (nI j - ci_1) σ = some σ' ∧ (∀ X', X' ≤ s → (s &&& X') = X' → ∀ h', h' ≤ N → HpO (tHome T) (wN T L G h) s N R X' h' σ') ∧ fr63 σ σ' := by
  have hM := hI.2.2.2.1
  have h7 : (2 : Nat) ^ tM T ≤ 2 ^ 7 := Nat.pow_le_pow_right (by decide) hM
  have hNm := C.2.2.2.1
  have hm7 := C.2.2.2.2
  intro k
  induction k with
  | zero =>
    intro j σ hT hP H A h1 h2
    omega
  | succ k ih =>
    intro j σ hT hP H A h1 h2
    rw [cRows_findHopeful_b5]
    by_cases hj : j = 0
    · subst hj
      rw [if_pos (show nI 0 - ci_1 < 0 by decide)]
      exact ⟨σ, rfl, fun X' => A X' (Nat.zero_le _), frC.rf⟩
    · obtain ⟨j', rfl⟩ : ∃ j', j = j' + 1 := ⟨j - 1, by omega⟩
      have ej : nI (j' + 1) - ci_1 = nI j' := by
        rw [ci1_nI, nI_sub (by omega)]
        rfl
      have eN : nI N = nI (N + 1) - ci_1 := by
        rw [ci1_nI, nI_sub (by omega)]
        rfl
      rw [ej, if_neg (nI_pos (by omega))]
      obtain ⟨σ1, c1, c2, c3⟩ := c_hopeH_l (n := n) (X := j') (r5 := cRows_findHopeful_b5 n k) hn hI hs (by omega) hmp hc1 C n (N + 1) σ hT hP H (fun X' a1 => A X' (by omega)) (fun _ h' a1 a2 => by omega) (by omega) (by omega)
      rw [← eN] at c1
      rw [c1, show nI j' + ci_m1 = nI j' - ci_1 by rw [Int32.sub_eq_add_neg]; rfl]
      obtain ⟨σ2, d1, d2, d3⟩ := ih j' σ1 (hT.fr c3 (fun a x y => by omega)) (hP.fr c3 (by decide) (by decide)) (fun i hi => by rw [(c3 62 (by decide)).2.1]; exact H i hi) c2 (by omega) (by omega)
      exact ⟨σ2, d1, d2, c3.trans d3⟩
theorem c_hopes {T : aT} {L : aL} {n b h s l0 c most N : Nat} {G : aG} {R : Nat → Nat} {σ : bS} (hn : 200 ≤ n) (hI : InvT T L) (hs : s < 2 ^ tM T) (hmp : most ≤ 0 ∨ c = 2) (hc1 : 1 ≤ c) (hT : CT T L σ) (hP : Prep T L G b h s l0 c σ) (H : KR R σ) (C : Clo T (tHome T) (wN T L G h) s l0 most N R) : ∃ σ', cRows_findHopeful n (nI N) σ = some σ' ∧ (∀ X', X' ≤ s → (s &&& X') = X' → ∀ h', h' ≤ N → HpO (tHome T) (wN T L G h) s N R X' h' σ') ∧ fr63 σ σ' := by
  have hM := hI.2.2.2.1
  have h7 : (2 : Nat) ^ tM T ≤ 2 ^ 7 := Nat.pow_le_pow_right (by decide) hM
  have e10 : sI σ 59 10 = nI s := hP.1
  have es : nI s = nI (s + 1) - ci_1 := by
    rw [ci1_nI, nI_sub (by omega)]
    rfl
  unfold cRows_findHopeful
  rw [e10, es]
  exact c_hopeX_l (by omega) hI hs hmp hc1 C n (s + 1) σ hT hP H (fun X' a1 a2 => by omega) (by omega) (by omega)
