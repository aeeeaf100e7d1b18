/-! WISHERS: which spots the class reaches -/
theorem shl14_0 : ∀ k : Fin 14, (1 : Int32) <<< (nI k.val &&& 31) = nI (2 ^ k.val) := by decide +kernel
theorem shl14 {k : Nat} (hk : k < 14) : ci_1 <<< (nI k &&& 31) = nI (2 ^ k) := by rw [ci1_1]; exact shl14_0 ⟨k, hk⟩
theorem smod14 : ∀ j : Fin 14, (nI j.val &&& 31).toBitVec.smod 32 = BitVec.ofNat 32 j.val := by decide +kernel
theorem nI_shr14 {s j : Nat} (hs : s < 2 ^ 31) (hj : j < 14) : nI s >>> (nI j &&& 31) = nI (s >>> j) := by
  have e := smod14 ⟨j, hj⟩
  have e : (nI j &&& 31).toBitVec.smod 32 = BitVec.ofNat 32 j := e
  have hle : s >>> j ≤ s := Nat.shiftRight_le s j
  apply Int32.toBitVec_inj.mp
  rw [Int32.toBitVec_shiftRight, e]
  show (BitVec.ofNat 32 s).sshiftRight (BitVec.ofNat 32 j).toNat = BitVec.ofNat 32 (s >>> j)
  have m : (BitVec.ofNat 32 s).msb = false := by
    rw [BitVec.msb_eq_false_iff_two_mul_lt, BitVec.toNat_ofNat]
    omega
  rw [BitVec.sshiftRight_eq_of_msb_false m]
  apply BitVec.eq_of_toNat_eq
  rw [BitVec.toNat_ushiftRight, BitVec.toNat_ofNat, BitVec.toNat_ofNat, BitVec.toNat_ofNat, Nat.mod_eq_of_lt (show s < 2 ^ 32 by omega), Nat.mod_eq_of_lt (show j < 2 ^ 32 by omega), Nat.mod_eq_of_lt (show s >>> j < 2 ^ 32 by omega)]
theorem bit14 {s j : Nat} (hs : s < 2 ^ 31) (hj : j < 14) : ((nI s >>> (nI j &&& 31)) &&& ci_1) = ci_1 ↔ s.testBit j = true := by
  have e : ((nI s >>> (nI j &&& 31)) &&& ci_1) = if s.testBit j = true then 1 else 0 := by
    rw [nI_shr14 hs hj, ci1_nI, nI_and, Nat.and_one_is_mod, Nat.shiftRight_eq_div_pow, Nat.testBit_eq_decide_div_mod_eq]
    rcases Nat.mod_two_eq_zero_or_one (s / 2 ^ j) with z | z
    · rw [z]
      rfl
    · rw [z]
      rfl
  rw [e]
  cases s.testBit j
  · exact ⟨fun z => absurd z (by decide), fun z => by cases z⟩
  · exact ⟨fun _ => rfl, fun _ => by decide⟩
theorem landed_bits : ∀ k : Fin 14, (5461).testBit k.val = decide (k.val % 2 = 0) := by decide +kernel
theorem landed_is {R : Nat} (hR : R < 2 ^ 14) : (nI R &&& cs_5461) = 0 ↔ ¬ ∃ sp, sp < 14 ∧ sp % 2 = 0 ∧ R.testBit sp = true := by
  have le : R &&& 5461 ≤ 5461 := Nat.and_le_right
  rw [cs_5461_n, nI_and]
  constructor
  · intro z ⟨sp, h1, h2, h3⟩
    have z := nI_inj (by omega) (by decide) (z.trans (show (0 : Int32) = nI 0 from rfl))
    have v := congrArg (fun w => w.testBit sp) z
    have lb := landed_bits ⟨sp, h1⟩
    have lb : (5461).testBit sp = decide (sp % 2 = 0) := lb
    simp only [Nat.testBit_and, Nat.zero_testBit, h3, lb, h2, decide_true, Bool.and_self] at v
    cases v
  · intro no
    have q : R &&& 5461 = 0 := by
      apply Nat.eq_of_testBit_eq
      intro j
      rw [Nat.testBit_and, Nat.zero_testBit]
      by_cases y : j < 14
      · have lb := landed_bits ⟨j, y⟩
        have lb : (5461).testBit j = decide (j % 2 = 0) := lb
        rw [lb]
        by_cases w : j % 2 = 0
        · cases v : R.testBit j
          · rfl
          · exact absurd ⟨j, y, w, v⟩ no
        · rw [decide_eq_false w, Bool.and_false]
      · rw [Nat.testBit_lt_two_pow (Nat.lt_of_lt_of_le hR (Nat.pow_le_pow_right (by decide) (by omega))), Bool.false_and]
    rw [q]
    rfl
def KR (R : Nat → Nat) (σ : bS) : Prop := ∀ a, a < 1024 → σ.2.1 62 a = nI (R a) ∧ R a < 2 ^ 14
/-- a spot is reached -/
abbrev rch (R : Nat → Nat) (X h sp : Nat) : Prop := (R (8 * X + h)).testBit sp = true
def ad (R : Nat → Nat) (a sp : Nat) : Nat → Nat := fun i => if i = a then R i ||| 2 ^ sp else R i
theorem ad_bit {R : Nat → Nat} {X h sp X' h' sp' : Nat} (h1 : h < 8) (h2 : h' < 8) : rch (ad R (8 * X + h) sp) X' h' sp' ↔ rch R X' h' sp' ∨ (X' = X ∧ h' = h ∧ sp' = sp) := by
  show ((if 8 * X' + h' = 8 * X + h then R (8 * X' + h') ||| 2 ^ sp else R (8 * X' + h')).testBit sp' = true) ↔ _
  by_cases z : 8 * X' + h' = 8 * X + h
  · have e1 : X' = X := by omega
    have e2 : h' = h := by omega
    subst e1 e2
    rw [if_pos rfl, Nat.testBit_or, Bool.or_eq_true, Nat.testBit_two_pow, decide_eq_true_iff]
    exact ⟨fun u => u.elim Or.inl (fun v => Or.inr ⟨rfl, rfl, v.symm⟩), fun u => u.elim Or.inl (fun v => Or.inr v.2.2.symm)⟩
  · rw [if_neg z]
    exact ⟨Or.inl, fun u => u.elim id (fun v => absurd (by rw [v.1, v.2.1]) z)⟩
theorem KR.ad {R : Nat → Nat} {σ : bS} {a sp : Nat} (H : KR R σ) (ha : a < 1024) (hs : sp < 14) : KR (ad R a sp) (uA σ 62 (nI a) (nI (R a ||| 2 ^ sp))) := fun i hi => by
  have b := Nat.or_lt_two_pow (n := 14) (H i hi).2 (show 2 ^ sp < 2 ^ 14 from Nat.pow_lt_pow_right (by decide) hs)
  rw [uA_2, nI_clamp (by omega)]
  show _ = nI (if i = a then R i ||| 2 ^ sp else R i) ∧ (if i = a then R i ||| 2 ^ sp else R i) < 2 ^ 14
  by_cases z : i = a
  · subst z
    rw [if_pos ⟨rfl, rfl⟩, if_pos rfl]
    exact ⟨rfl, b⟩
  · rw [if_neg (fun u => z u.2), if_neg z]
    exact H i hi
/-- where one crossing leads, of the men below j -/
def suc (ho : Nat → Nat) (W : Nat → Nat → Nat → Nat) (s most X h la : Nat) (ab : Bool) (j : Nat) (Y h' sp' : Nat) : Prop := ∃ m, m < j ∧ s.testBit m = true ∧ X.testBit m = false ∧ Y = X ||| 2 ^ m ∧ ∃ d la' ab', (d = true → h < most) ∧ tr ho W X la ab m d (pc X + h) = some (la', ab') ∧ h' = (if d = true then h + 1 else h) ∧ sp' = 2 * la' + abN ab'
abbrev fr62 (σ σ' : bS) : Prop := frC (fun a => a = 62) σ σ'
theorem c_spread_l {T : aT} {L : aL} {n b h s l0 c most X hr la : Nat} {ab : Bool} {G : aG} {R0 : Nat → Nat} (hn : 20 ≤ n) (hI : InvT T L) (hs : s < 2 ^ tM T) (hX : X < 2 ^ tM T) (hla : la ≤ tB T) (hl : l0 = 0 ∨ 1 ≤ la) (hhr : hr ≤ pc X) (hhm : hr ≤ most) (hm7 : most ≤ 7) (hmp : most ≤ 0 ∨ c = 2) (hc1 : 1 ≤ c) (hXs : pc X + 1 ≤ pc s) : ∀ (k j : Nat) (σ : bS) (R : Nat → Nat), CT T L σ → Prep T L G b h s l0 c σ → KR R σ → (∀ Y h' sp', h' < 8 → (rch R Y h' sp' ↔ rch R0 Y h' sp' ∨ suc (tHome T) (wN T L G h) s most X hr la ab j Y h' sp')) → j ≤ 7 → 7 < j + k → ∃ σ' R', cRows_spread_b3 n k (nI X) (nI (2 * la + abN ab)) (nI hr) (nI most) (nI j) σ = some σ' ∧ KR R' σ' ∧ (∀ Y h' sp', h' < 8 → (rch R' Y h' sp' ↔ rch R0 Y h' sp' ∨ suc (tHome T) (wN T L G h) s most X hr la ab 7 Y h' sp')) ∧ fr62 σ σ'
  | 0, j, σ, R, hT, hP, H, D, h1, h2 => by omega
  | k + 1, j, σ, R, hT, hP, H, D, h1, h2 => by
    have hM := hI.2.2.2.1
    have hB := hI.1
    have h7 : (2 : Nat) ^ tM T ≤ 2 ^ 7 := Nat.pow_le_pow_right (by decide) hM
    have a1 := abN_le ab
    have p7 := pc_le (s := s)
    rw [cRows_spread_b3, cb7_nI]
    by_cases hj : j < 7
    · rw [if_neg (nI_ge hj (by omega)), c_leftE hP.1 (by omega) (by omega) hj, ob_def]
      by_cases z : (s.testBit j && !X.testBit j) = true
      · have z2 := Bool.and_eq_true_iff.mp z
        have xf : X.testBit j = false := by
          have := z2.2
          cases q : X.testBit j
          · rfl
          · rw [q] at this
            cases this
        have hjm := bit_lt hs z2.1
        have xlt : X ||| 2 ^ j < 128 := or128 (by omega) hj
        have hcap : pc X + hr < pc s * c := by
          rcases hmp with q | q
          · have : pc s * 1 ≤ pc s * c := Nat.mul_le_mul_left _ hc1
            omega
          · rw [q]
            omega
        have kf := c_freeE (n := n) (ab := ab) (hr := hr) hn hI hT hP hX hjm z2.1 hla hl (by omega) hcap
        have kv := (c_after (n := n) (ab := ab) (t := pc X + hr) hn hI hT hP hX hjm z2.1 hla hl (by omega) hcap).2
        rw [if_pos z]
        simp only [if_neg one_ne]
        rw [kf, ob_def]
        -- the first: without a wisher
        have free : ∃ σ1 R1, (if (spO (tr (tHome T) (wN T L G h) X la ab j false (pc X + hr)), σ).1 < 0 then cRows_spread_b66 n (cRows_spread_b3 n k) (nI X) (nI (2 * la + abN ab)) (nI hr) (nI most) (nI j) (((nI X ||| (ci_1 <<< (nI j &&& 31))) * cb_8) + nI hr) σ else bin_ (((nI X ||| (ci_1 <<< (nI j &&& 31))) * cb_8) + nI hr) 1024 (bin_ (((nI X ||| (ci_1 <<< (nI j &&& 31))) * cb_8) + nI hr) 1024 (cRows_spread_b66 n (cRows_spread_b3 n k) (nI X) (nI (2 * la + abN ab)) (nI hr) (nI most) (nI j) (((nI X ||| (ci_1 <<< (nI j &&& 31))) * cb_8) + nI hr) (uA σ 62 (((nI X ||| (ci_1 <<< (nI j &&& 31))) * cb_8) + nI hr) ((sA σ 62 (((nI X ||| (ci_1 <<< (nI j &&& 31))) * cb_8) + nI hr)) ||| (ci_1 <<< (spO (tr (tHome T) (wN T L G h) X la ab j false (pc X + hr)) &&& 31))))))) = cRows_spread_b66 n (cRows_spread_b3 n k) (nI X) (nI (2 * la + abN ab)) (nI hr) (nI most) (nI j) (nI (8 * (X ||| 2 ^ j) + hr)) σ1 ∧ KR R1 σ1 ∧ (∀ Y h' sp', h' < 8 → (rch R1 Y h' sp' ↔ rch R Y h' sp' ∨ (Y = X ||| 2 ^ j ∧ h' = hr ∧ ∃ la' ab', tr (tHome T) (wN T L G h) X la ab j false (pc X + hr) = some (la', ab') ∧ sp' = 2 * la' + abN ab'))) ∧ fr62 σ σ1 := by
          have ei : ((nI X ||| (ci_1 <<< (nI j &&& 31))) * cb_8) + nI hr = nI (8 * (X ||| 2 ^ j) + hr) := by
            rw [or_eq hj, cb_8_n, nI_mul, nI_add, show (X ||| 2 ^ j) * 8 + hr = 8 * (X ||| 2 ^ j) + hr by omega]
          rw [ei]
          cases e : tr (tHome T) (wN T L G h) X la ab j false (pc X + hr) with
          | none =>
            refine ⟨σ, R, if_pos (show (-1 : Int32) < 0 by decide), H, fun Y h' sp' hh => ⟨Or.inl, fun u => u.elim id (fun ⟨_, _, la', ab', q, _⟩ => by cases q)⟩, frC.rf⟩
          | some o =>
            obtain ⟨la', ab'⟩ := o
            obtain ⟨l1, l2⟩ := kv la' ab' e
            have a2 := abN_le ab'
            refine ⟨uA σ 62 (nI (8 * (X ||| 2 ^ j) + hr)) (nI (R (8 * (X ||| 2 ^ j) + hr) ||| 2 ^ (2 * la' + abN ab'))), ad R (8 * (X ||| 2 ^ j) + hr) (2 * la' + abN ab'), ?_, H.ad (by omega) (by omega), fun Y h' sp' hh => ?_, frC.uA rfl⟩
            · show (if nI (2 * la' + abN ab') < 0 then _ else bin_ (nI (8 * (X ||| 2 ^ j) + hr)) 1024 (bin_ (nI (8 * (X ||| 2 ^ j) + hr)) 1024 (cRows_spread_b66 n (cRows_spread_b3 n k) (nI X) (nI (2 * la + abN ab)) (nI hr) (nI most) (nI j) (nI (8 * (X ||| 2 ^ j) + hr)) (uA σ 62 (nI (8 * (X ||| 2 ^ j) + hr)) ((sA σ 62 (nI (8 * (X ||| 2 ^ j) + hr))) ||| (ci_1 <<< (nI (2 * la' + abN ab') &&& 31))))))) = _
              rw [if_neg (nI_pos (by omega)), bin_nI (by omega) (by decide), bin_nI (by omega) (by decide), sA_n _ _ (by omega), (H _ (by omega)).1, shl14 (by omega), nI_or]
            · rw [ad_bit (by omega) hh]
              constructor
              · rintro (u | ⟨u1, u2, u3⟩)
                · exact Or.inl u
                · exact Or.inr ⟨u1, u2, la', ab', rfl, u3⟩
              · rintro (u | ⟨u1, u2, la2, ab2, q, u3⟩)
                · exact Or.inl u
                · have q := Option.some.inj q
                  have q1 : la' = la2 := congrArg Prod.fst q
                  have q2 : ab' = ab2 := congrArg Prod.snd q
                  subst q1 q2
                  exact Or.inr ⟨u1, u2, u3⟩
        obtain ⟨σ1, R1, f1, f2, f3, f4⟩ := free
        show ∃ σ' R', (if (spO (tr (tHome T) (wN T L G h) X la ab j false (pc X + hr)), σ).1 < 0 then _ else _) = _ ∧ _
        rw [f1]
        have hT1 := hT.fr f4 (fun a x y => by omega)
        have hP1 := hP.fr f4 (by decide) (by decide)
        -- the second: with one
        have paid : ∃ σ2 R2, cRows_spread_b66 n (cRows_spread_b3 n k) (nI X) (nI (2 * la + abN ab)) (nI hr) (nI most) (nI j) (nI (8 * (X ||| 2 ^ j) + hr)) σ1 = cRows_spread_b3 n k (nI X) (nI (2 * la + abN ab)) (nI hr) (nI most) (nI (j + 1)) σ2 ∧ KR R2 σ2 ∧ (∀ Y h' sp', h' < 8 → (rch R2 Y h' sp' ↔ rch R1 Y h' sp' ∨ (hr < most ∧ Y = X ||| 2 ^ j ∧ h' = hr + 1 ∧ ∃ la' ab', tr (tHome T) (wN T L G h) X la ab j true (pc X + hr) = some (la', ab') ∧ sp' = 2 * la' + abN ab'))) ∧ fr62 σ1 σ2 := by
          unfold cRows_spread_b66
          by_cases w : hr < most
          · have c2 : c = 2 := by omega
            obtain ⟨kp, kpv⟩ := c_paidE (n := n) (ab := ab) (hr := hr) hn hI hT1 hP1 hX hjm z2.1 hla (by omega) (by rw [c2]; omega)
            rw [if_neg (nI_ge w (by omega)), kp, ob_def, cRows_spread_b85]
            cases e : tr (tHome T) (wN T L G h) X la ab j true (pc X + hr) with
            | none =>
              refine ⟨σ1, R1, ?_, f2, fun Y h' sp' hh => ⟨Or.inl, fun u => u.elim id (fun ⟨_, _, _, la', ab', q, _⟩ => by cases q)⟩, frC.rf⟩
              show (if (-1 : Int32) < 0 then _ else _) = _
              rw [if_pos (by decide), cRows_spread_b108, ci1_nI, nI_add]
            | some o =>
              obtain ⟨la', ab'⟩ := o
              obtain ⟨l1, l2⟩ := kpv la' ab' e
              have a2 := abN_le ab'
              refine ⟨uA σ1 62 (nI (8 * (X ||| 2 ^ j) + (hr + 1))) (nI (R1 (8 * (X ||| 2 ^ j) + (hr + 1)) ||| 2 ^ (2 * la' + abN ab'))), ad R1 (8 * (X ||| 2 ^ j) + (hr + 1)) (2 * la' + abN ab'), ?_, f2.ad (by omega) (by omega), fun Y h' sp' hh => ?_, frC.uA rfl⟩
              · show (if nI (2 * la' + abN ab') < 0 then _ else bin_ (nI (8 * (X ||| 2 ^ j) + hr) + ci_1) 1024 (bin_ (nI (8 * (X ||| 2 ^ j) + hr) + ci_1) 1024 (cRows_spread_b108 n (cRows_spread_b3 n k) (nI X) (nI (2 * la + abN ab)) (nI hr) (nI most) (nI j) (uA σ1 62 (nI (8 * (X ||| 2 ^ j) + hr) + ci_1) ((sA σ1 62 (nI (8 * (X ||| 2 ^ j) + hr) + ci_1)) ||| (ci_1 <<< (nI (2 * la' + abN ab') &&& 31))))))) = _
                rw [if_neg (nI_pos (by omega)), nI_s, show 8 * (X ||| 2 ^ j) + hr + 1 = 8 * (X ||| 2 ^ j) + (hr + 1) by omega, bin_nI (by omega) (by decide), bin_nI (by omega) (by decide), sA_n _ _ (by omega), (f2 _ (by omega)).1, shl14 (by omega), nI_or, cRows_spread_b108, nI_s]
              · rw [ad_bit (by omega) hh]
                constructor
                · rintro (u | ⟨u1, u2, u3⟩)
                  · exact Or.inl u
                  · exact Or.inr ⟨w, u1, u2, la', ab', rfl, u3⟩
                · rintro (u | ⟨-, u1, u2, la2, ab2, q, u3⟩)
                  · exact Or.inl u
                  · have q := Option.some.inj q
                    have q1 : la' = la2 := congrArg Prod.fst q
                    have q2 : ab' = ab2 := congrArg Prod.snd q
                    subst q1 q2
                    exact Or.inr ⟨u1, u2, u3⟩
          · refine ⟨σ1, R1, ?_, f2, fun Y h' sp' hh => ⟨Or.inl, fun u => u.elim id (fun v => absurd v.1 w)⟩, frC.rf⟩
            rw [if_pos ((nI_leI (by omega) (by omega)).mpr (by omega)), cRows_spread_b85, if_pos (show ci_m1 < 0 by decide), cRows_spread_b108, ci1_nI, nI_add]
        obtain ⟨σ2, R2, g1, g2, g3, g4⟩ := paid
        rw [g1]
        obtain ⟨σ3, R3, d1, d2, d3, d4⟩ := c_spread_l (n := n) (R0 := R0) (ab := ab) hn hI hs hX hla hl hhr hhm hm7 hmp hc1 hXs k (j + 1) σ2 R2 (hT1.fr g4 (fun a x y => by omega)) (hP1.fr g4 (by decide) (by decide)) g2 (fun Y h' sp' hh => by
          rw [g3 Y h' sp' hh, f3 Y h' sp' hh, D Y h' sp' hh]
          constructor
          · rintro (((u | ⟨m, m1, m2⟩) | ⟨u1, u2, la', ab', u3, u4⟩) | ⟨u0, u1, u2, la', ab', u3, u4⟩)
            · exact Or.inl u
            · exact Or.inr ⟨m, by omega, m2⟩
            · exact Or.inr ⟨j, by omega, z2.1, xf, u1, false, la', ab', (fun v => by cases v), u3, u2, u4⟩
            · exact Or.inr ⟨j, by omega, z2.1, xf, u1, true, la', ab', fun _ => u0, u3, u2, u4⟩
          · rintro (u | ⟨m, m1, m2, m3, m4, d, la', ab', m5, m6, m7, m8⟩)
            · exact Or.inl (Or.inl (Or.inl u))
            · by_cases y : m = j
              · subst y
                cases d
                · exact Or.inl (Or.inr ⟨m4, m7, la', ab', m6, m8⟩)
                · exact Or.inr ⟨m5 rfl, m4, m7, la', ab', m6, m8⟩
              · exact Or.inl (Or.inl (Or.inr ⟨m, by omega, m2, m3, m4, d, la', ab', m5, m6, m7, m8⟩))) hj (by omega)
        exact ⟨σ3, R3, d1, d2, d3, f4.trans (g4.trans d4)⟩
      · rw [if_neg z]
        simp only [if_true]
        rw [cRows_spread_b108, ci1_nI, nI_add]
        refine c_spread_l (R0 := R0) (ab := ab) hn hI hs hX hla hl hhr hhm hm7 hmp hc1 hXs k (j + 1) σ R hT hP H (fun Y h' sp' hh => ?_) hj (by omega)
        rw [D Y h' sp' hh]
        constructor
        · rintro (u | ⟨m, m1, m2⟩)
          · exact Or.inl u
          · exact Or.inr ⟨m, by omega, m2⟩
        · rintro (u | ⟨m, m1, m2, m3, m4⟩)
          · exact Or.inl u
          · by_cases y : m = j
            · subst y
              exact absurd (by rw [m2, m3]; rfl) z
            · exact Or.inr ⟨m, by omega, m2, m3, m4⟩
    · have e : j = 7 := by omega
      subst e
      rw [if_pos (Int32.le_refl _)]
      exact ⟨σ, R, rfl, H, D, frC.rf⟩
