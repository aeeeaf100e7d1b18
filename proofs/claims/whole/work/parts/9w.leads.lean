/-! the class's row: whether a beginning leads on -/
def frK (σ σ' : bS) : Prop := frC (fun a => a = 59 ∨ a = 67) σ σ' ∧ ∀ k, ¬ k = 9 → σ'.1 59 k = σ.1 59 k
theorem frK.rf {σ : bS} : frK σ σ := ⟨frC.rf, fun _ _ => rfl⟩
theorem frK.trans {σ σ1 σ2 : bS} (h : frK σ σ1) (g : frK σ1 σ2) : frK σ σ2 := ⟨h.1.trans g.1, fun k hk => (g.2 k hk).trans (h.2 k hk)⟩
theorem frK.u9 {σ : bS} {v : Int32} : frK σ (uI σ 59 9 v) := ⟨frC.uI (Or.inl rfl), fun k hk => by rw [uI_1, if_neg (fun z => hk z.2)]⟩
theorem frK.u67 {σ : bS} {i v : Int32} : frK σ (uA σ 67 i v) := ⟨frC.uA (Or.inr rfl), fun k hk => rfl⟩
def Ht (T : aT) (L : aL) (G : aG) (b h s l0 c N : Nat) (R : Nat → Nat) (σ : bS) : Prop := CT T L σ ∧ Prep T L G b h s l0 c σ ∧ ∀ X', X' ≤ s → (s &&& X') = X' → ∀ h', h' ≤ N → HpO (tHome T) (wN T L G h) s N R X' h' σ
theorem Ht.fr {T : aT} {L : aL} {G : aG} {b h s l0 c N : Nat} {R : Nat → Nat} {σ σ' : bS} (H : Ht T L G b h s l0 c N R σ) (f : frK σ σ') : Ht T L G b h s l0 c N R σ' := by
  obtain ⟨h1, h2, h3⟩ := H
  refine ⟨h1.fr f.1 (fun a x y => by omega), ?_, fun X' a1 a2 h' a3 => (h3 X' a1 a2 h' a3).of (by rw [(f.1 63 (by decide)).2.1])⟩
  obtain ⟨p1, p2, p3, p4, p5, p6⟩ := h2
  exact ⟨(f.2 10 (by decide)).trans p1, (f.2 11 (by decide)).trans p2, (f.2 12 (by decide)).trans p3, p4, p5, fun m l t a1 a2 a3 a4 a5 => by rw [(f.1 60 (by decide)).2.1]; exact p6 m l t a1 a2 a3 a4 a5⟩
def LD (T : aT) (L : aL) (G : aG) (h s l0 N : Nat) (r : Nat → Nat) (f ch : Nat) : Prop := ∃ la ab, rP (tHome T) (wN T L G h) r (hdP f ch) l0 f = some (la, ab) ∧ eV (tHome T) (wN T L G h) s N (pc s - f) (xs r f) (nh (hdP f ch) f) la ab
def hbN (hd : Nat → Bool) : Nat → Nat
  | 0 => 0
  | p + 1 => if hd p = true then hbN hd p ||| 2 ^ p else hbN hd p
theorem hbN_bit (hd : Nat → Bool) (q : Nat) : ∀ p, (hbN hd p).testBit q = true ↔ q < p ∧ hd q = true
  | 0 => by
    rw [hbN, Nat.zero_testBit]
    exact ⟨fun h => (by cases h), fun h => by omega⟩
  | p + 1 => by
    rw [hbN]
    by_cases z : hd p = true
    · rw [if_pos z, Nat.testBit_or, Bool.or_eq_true, hbN_bit hd q p, Nat.testBit_two_pow, decide_eq_true_iff]
      constructor
      · rintro (⟨a, b⟩ | rfl)
        · exact ⟨by omega, b⟩
        · exact ⟨by omega, z⟩
      · rintro ⟨a, b⟩
        by_cases y : q = p
        · exact Or.inr y.symm
        · exact Or.inl ⟨by omega, b⟩
    · rw [if_neg z, hbN_bit hd q p]
      constructor
      · rintro ⟨a, b⟩
        exact ⟨by omega, b⟩
      · rintro ⟨a, b⟩
        by_cases y : q = p
        · subst y
          exact absurd b z
        · exact ⟨by omega, b⟩
theorem hbN_lt (hd : Nat → Bool) : ∀ p, hbN hd p < 2 ^ p
  | 0 => show 0 < 1 by decide
  | p + 1 => by
    have ih := hbN_lt hd p
    have q : (2 : Nat) ^ (p + 1) = 2 * 2 ^ p := by rw [Nat.pow_succ]; omega
    rw [hbN]
    split
    · exact Nat.or_lt_two_pow (by omega) (by omega)
    · omega
theorem nh_pc0 : ∀ f : Fin 8, ∀ ch : Fin 128, ch.val < 2 ^ f.val → nh (hdP f.val ch.val) f.val = pc ch.val := by decide +kernel
theorem pow_128 {f : Nat} (hf : f ≤ 7) : 2 ^ f ≤ 128 := show 2 ^ f ≤ 2 ^ 7 from Nat.pow_le_pow_right (by decide) hf
theorem nh_pc {f ch : Nat} (hf : f ≤ 7) (h : ch < 2 ^ f) : nh (hdP f ch) f = pc ch := nh_pc0 ⟨f, by omega⟩ ⟨ch, by have := pow_128 hf; omega⟩ h
theorem nh_mono (hd : Nat → Bool) (p : Nat) : ∀ k, nh hd p ≤ nh hd (p + k)
  | 0 => Nat.le_refl _
  | k + 1 => Nat.le_trans (nh_mono hd p k) (by rw [show p + (k + 1) = p + k + 1 by omega, nh]; omega)
theorem odd_of {la : Nat} {ab : Bool} : oddB (2 * la + abN ab) = ab ∧ (2 * la + abN ab) / 2 = la := by
  cases ab
  · exact ⟨decide_eq_false (by unfold abN; simp), by unfold abN; simp⟩
  · exact ⟨decide_eq_true (by unfold abN; simp), by unfold abN; simp; omega⟩
theorem c_leads_l {T : aT} {L : aL} {n b h s l0 c most N f ch : Nat} {G : aG} {R r : Nat → Nat} (hn : 20 ≤ n) (hI : InvT T L) (hs : s < 2 ^ tM T) (hmp : most ≤ 0 ∨ c = 2) (hc1 : 1 ≤ c) (C : Clo T (tHome T) (wN T L G h) s l0 most N R) (hf : f ≤ pc s) (hr : ∀ q, q < f → r q < 7 ∧ s.testBit (r q) = true) (hD : ∀ q q', q < q' → q' < f → ¬ r q = r q') (hch : ch < 2 ^ f) (hN : pc ch ≤ N) : ∀ (k p la : Nat) (ab : Bool) (σ : bS), Ht T L G b h s l0 c N R σ → (∀ q, q < f → σ.2.1 67 q = nI (r q)) → σ.1 59 9 = nI (hbN (hdP f ch) p) → rP (tHome T) (wN T L G h) r (hdP f ch) l0 p = some (la, ab) → rch R (xs r p) (nh (hdP f ch) p) (2 * la + abN ab) → p ≤ f → f < p + k → ∃ v σ', cRows_leadsOn_b23 n k (nI f) (nI ch) (nI (xs r p)) (nI (nh (hdP f ch) p)) (nI (2 * la + abN ab)) (nI p) σ = some (v, σ') ∧ frK σ σ' ∧ σ'.2.1 67 = σ.2.1 67 ∧ ((v = 1 ∧ LD T L G h s l0 N r f ch ∧ σ'.1 59 9 = nI (hbN (hdP f ch) f)) ∨ (v = 0 ∧ ¬ LD T L G h s l0 N r f ch)) := by
  have hM := hI.2.2.2.1
  have h7 : (2 : Nat) ^ tM T ≤ 2 ^ 7 := Nat.pow_le_pow_right (by decide) hM
  have hNm := C.2.2.2.1
  have hm7 := C.2.2.2.2
  have p7 := pc_le (s := s)
  have hf7 : f ≤ 7 := by omega
  have f128 := pow_128 hf7
  have hnf := nh_pc hf7 hch
  intro k
  induction k with
  | zero =>
    intro p la ab σ hH h67 h9 e rc h1 h2
    omega
  | succ k ih =>
    intro p la ab σ hH h67 h9 e rc h1 h2
    obtain ⟨hT, hP, hO⟩ := hH
    have mono := nh_mono (hdP f ch) p (f - p)
    rw [show p + (f - p) = f by omega] at mono
    have nle := nh_le (hdP f ch) p
    have xlt : xs r p < 128 := xs_lt p (fun q hq => (hr q (by omega)).1)
    have epc : pc (xs r p) = p := pc_xs p (fun q hq => (hr q (by omega)).1) (fun q q' a b => hD q q' a (by omega))
    obtain ⟨v1, v2, v3, v4, v5, v6⟩ := C.1 _ _ _ xlt (by omega) rc
    have ao := abN_le ab
    rw [odd_of.2] at v5 v6
    have xle := sb_le v1
    rw [cRows_leadsOn_b23]
    by_cases hp : p < f
    · obtain ⟨r7, rs⟩ := hr p hp
      rw [if_neg (nI_ge hp (by omega)), bin_nI (by omega) (by decide), sA_n _ _ (by omega), h67 p hp, cRows_leadsOn_b42, cRows_leadsOn_b45]
      have es : nI f - ci_1 - nI p = nI (f - 1 - p) := by
        rw [ci1_nI, nI_sub (by omega), nI_sub (by omega)]
      have xf : (xs r p).testBit (r p) = false := by
        cases q : (xs r p).testBit (r p)
        · rfl
        · obtain ⟨q', hq, e'⟩ := (xs_bit r _ p).mp q
          exact absurd e' (hD q' p hq hp)
      have xlts : xs r p < s := by
        have so := sub_or v1 rs
        have := sb_le so
        have := or_gt xf
        omega
      have st := sub_strict (by omega) v1 xlts
      have hjm := bit_lt hs rs
      have key : ∀ (d : Bool) (σ1 : bS), hdP f ch p = d → frK σ σ1 → σ1.2.1 67 = σ.2.1 67 → σ1.1 59 9 = nI (hbN (hdP f ch) (p + 1)) → (∀ la' ab', tr (tHome T) (wN T L G h) (xs r p) la ab (r p) d (pc (xs r p) + nh (hdP f ch) p) = some (la', ab') → la' ≤ tB T ∧ (l0 = 0 ∨ 1 ≤ la')) → ∃ v σ', cRows_leadsOn_b97 n (cRows_leadsOn_b23 n k) (nI f) (nI ch) (nI (xs r p)) (nI (nh (hdP f ch) (p + 1))) (spO (tr (tHome T) (wN T L G h) (xs r p) la ab (r p) d (pc (xs r p) + nh (hdP f ch) p))) (nI p) (nI (r p)) σ1 = some (v, σ') ∧ frK σ σ' ∧ σ'.2.1 67 = σ.2.1 67 ∧ ((v = 1 ∧ LD T L G h s l0 N r f ch ∧ σ'.1 59 9 = nI (hbN (hdP f ch) f)) ∨ (v = 0 ∧ ¬ LD T L G h s l0 N r f ch)) := fun d σ1 ed f1 g67 g9 kv => by
        have stp := rP_tr (fun q hq => (hr q (by omega)).1) e
        rw [ed] at stp
        rw [epc]
        rw [epc] at kv
        rw [cRows_leadsOn_b97]
        cases et : tr (tHome T) (wN T L G h) (xs r p) la ab (r p) d (p + nh (hdP f ch) p) with
        | none =>
          rw [et] at stp
          have nf := (rQ_rP (ho := tHome T) (W := wN T L G h) (R := r) (hd := hdP f ch) (l0 := l0) (c := f) (fun q hq => (hr q hq).1) hD (f - (p + 1)) (p + 1) (by omega)).1 stp
          show ∃ v σ', (if (0 : Int32) ≤ -1 then _ else bz ci_0 σ1) = _ ∧ _
          rw [if_neg (by decide)]
          refine ⟨0, σ1, rfl, f1, g67, Or.inr ⟨rfl, ?_⟩⟩
          rintro ⟨la2, ab2, q, -⟩
          rw [nf] at q
          cases q
        | some o =>
          obtain ⟨la', ab'⟩ := o
          rw [et] at stp
          obtain ⟨l1, l2⟩ := kv la' ab' et
          have a2 := abN_le ab'
          have hB := hI.1
          have nx : nh (hdP f ch) (p + 1) = if d = true then nh (hdP f ch) p + 1 else nh (hdP f ch) p := by
            rw [nh, ed]
            cases d
            · rfl
            · rfl
          have mono2 := nh_mono (hdP f ch) (p + 1) (f - (p + 1))
          rw [show p + 1 + (f - (p + 1)) = f by omega] at mono2
          have rc2 : rch R (xs r (p + 1)) (nh (hdP f ch) (p + 1)) (2 * la' + abN ab') := C.2.1 _ _ _ xlt (show nh (hdP f ch) p ≤ N by omega) rc xlts _ _ _ ⟨r p, r7, rs, xf, rfl, d, la', ab', (fun u => by
            rw [if_pos u] at nx
            omega), (by rw [odd_of.1, odd_of.2, epc]; exact et), nx, rfl⟩
          show ∃ v σ', (if 0 ≤ nI (2 * la' + abN ab') then cRows_leadsOn_b23 n k (nI f) (nI ch) (nI (xs r p) ||| (ci_1 <<< (nI (r p) &&& 31))) (nI (nh (hdP f ch) (p + 1))) (nI (2 * la' + abN ab')) (nI p + ci_1) σ1 else bz ci_0 σ1) = _ ∧ _
          rw [if_pos (Int32.not_lt.mp (nI_pos (by omega))), or_eq r7, nI_s]
          obtain ⟨v, σ2, d1, d2, d3, d4⟩ := ih (p + 1) la' ab' σ1 (Ht.fr ⟨hT, hP, hO⟩ f1) (fun q hq => by rw [g67]; exact h67 q hq) g9 stp rc2 (by omega) (by omega)
          exact ⟨v, σ2, d1, f1.trans d2, d3.trans g67, d4⟩
      rw [es]
      have hcap : pc (xs r p) + nh (hdP f ch) p < pc s * c := by
        rcases hmp with q | q
        · have : pc s * 1 ≤ pc s * c := Nat.mul_le_mul_left _ hc1
          omega
        · rw [q]
          omega
      by_cases z : hdP f ch p = true
      · have z' : ch.testBit (f - 1 - p) = true := z
        have n1 : nh (hdP f ch) (p + 1) = nh (hdP f ch) p + 1 := by
          rw [nh, if_pos z]
        have mono2 := nh_mono (hdP f ch) (p + 1) (f - (p + 1))
        rw [show p + 1 + (f - (p + 1)) = f by omega] at mono2
        have c2 : c = 2 := by omega
        obtain ⟨kp, kpv⟩ := c_paidE (n := n) (ab := ab) (hr := nh (hdP f ch) p) hn hI hT hP (show xs r p < 2 ^ tM T by omega) hjm rs v5 (by omega) (by rw [c2]; omega)
        rw [if_pos ((bit14 (by omega) (by omega)).mpr z'), kp, ob_def, nI_s, ← n1]
        refine key true _ z frK.u9 rfl ?_ kpv
        show (uI σ 59 9 (sI σ 59 9 ||| (ci_1 <<< (nI p &&& 31)))).1 59 9 = _
        rw [uI_1, if_pos ⟨rfl, rfl⟩, show sI σ 59 9 = nI (hbN (hdP f ch) p) from h9, or_eq (by omega), hbN, if_pos z]
      · have zf : hdP f ch p = false := by
          cases q : hdP f ch p
          · rfl
          · exact absurd q z
        have n1 : nh (hdP f ch) (p + 1) = nh (hdP f ch) p := by
          rw [nh, if_neg z]
          rfl
        have kf := c_freeE (n := n) (ab := ab) (hr := nh (hdP f ch) p) hn hI hT hP (show xs r p < 2 ^ tM T by omega) hjm rs v5 v6 (by omega) hcap
        have kv := (c_after (n := n) (ab := ab) (t := pc (xs r p) + nh (hdP f ch) p) hn hI hT hP (show xs r p < 2 ^ tM T by omega) hjm rs v5 v6 (by omega) hcap).2
        rw [if_neg (fun u => z ((bit14 (by omega) (by omega)).mp u)), kf, ob_def]
        have kk := key false σ zf frK.rf rfl (by rw [h9, hbN, if_neg z]) kv
        rw [n1] at kk
        exact kk
    · have e1 : p = f := by omega
      subst e1
      have e8 : nI (xs r p) * cb_8 + nI (nh (hdP p ch) p) = nI (8 * xs r p + nh (hdP p ch) p) := by
        rw [cb_8_n, nI_mul, nI_add, show xs r p * 8 + nh (hdP p ch) p = 8 * xs r p + nh (hdP p ch) p by omega]
      obtain ⟨B, b1, b2, b3⟩ := hO (xs r p) xle v1 (nh (hdP p ch) p) (by omega)
      have ld : LD T L G h s l0 N r p ch ↔ eW (tHome T) (wN T L G h) s N (xs r p) (nh (hdP p ch) p) (2 * la + abN ab) := by
        rw [eW_at, epc]
        constructor
        · rintro ⟨la2, ab2, q1, q2⟩
          rw [e] at q1
          have q1 := Option.some.inj q1
          have q3 : la = la2 := congrArg Prod.fst q1
          have q4 : ab = ab2 := congrArg Prod.snd q1
          subst q3 q4
          exact q2
        · intro q
          exact ⟨la, ab, e, q⟩
      rw [if_pos (Int32.le_refl _), e8, bin_nI (by omega) (by decide), sA_n _ _ (by omega), b2, ld]
      by_cases t : eW (tHome T) (wN T L G h) s N (xs r p) (nh (hdP p ch) p) (2 * la + abN ab)
      · rw [if_pos ((bit14 (by omega) (by omega)).mpr ((b3 _ (by omega)).mpr ⟨rc, t⟩))]
        exact ⟨1, σ, rfl, frK.rf, rfl, Or.inl ⟨rfl, t, h9⟩⟩
      · rw [if_neg (fun u => t ((b3 _ (by omega)).mp ((bit14 (by omega) (by omega)).mp u)).2)]
        exact ⟨0, σ, rfl, frK.rf, rfl, Or.inr ⟨rfl, t⟩⟩
theorem c_leads {T : aT} {L : aL} {n b h s l0 c most N f ch : Nat} {G : aG} {R r : Nat → Nat} {σ : bS} (hn : 20 ≤ n) (hI : InvT T L) (hs : s < 2 ^ tM T) (hmp : most ≤ 0 ∨ c = 2) (hc1 : 1 ≤ c) (C : Clo T (tHome T) (wN T L G h) s l0 most N R) (hf : f ≤ pc s) (hr : ∀ q, q < f → r q < 7 ∧ s.testBit (r q) = true) (hD : ∀ q q', q < q' → q' < f → ¬ r q = r q') (hch : ch < 2 ^ f) (hN : pc ch ≤ N) (hH : Ht T L G b h s l0 c N R σ) (h67 : ∀ q, q < f → σ.2.1 67 q = nI (r q)) : ∃ v σ', cRows_leadsOn n (nI f) (nI ch) σ = some (v, σ') ∧ frK σ σ' ∧ σ'.2.1 67 = σ.2.1 67 ∧ ((v = 1 ∧ LD T L G h s l0 N r f ch ∧ σ'.1 59 9 = nI (hbN (hdP f ch) f)) ∨ (v = 0 ∧ ¬ LD T L G h s l0 N r f ch)) := by
  have e12 : sI σ 59 12 = lI l0 := hH.2.1.2.2.1.trans hH.2.1.2.2.2.1
  unfold cRows_leadsOn
  have p7 := pc_le (s := s)
  rw [e12, spI_is (ab := false) (show ci_0 = nI (abN false) from rfl), ob_def]
  obtain ⟨v, σ', d1, d2, d3, d4⟩ := c_leads_l (n := n) hn hI hs hmp hc1 C hf hr hD hch hN n 0 l0 false (uI σ 59 9 ci_0) (hH.fr frK.u9) h67 (by rw [uI_1, if_pos ⟨rfl, rfl⟩]; rfl) rfl C.2.2.1 (by omega) (by omega)
  exact ⟨v, σ', d1, frK.u9.trans d2, d3, d4⟩
theorem LD.pc {T : aT} {L : aL} {G : aG} {h s l0 N f ch : Nat} {r : Nat → Nat} (hf : f ≤ 7) (hch : ch < 2 ^ f) (H : LD T L G h s l0 N r f ch) : pc ch ≤ N := by
  obtain ⟨la, ab, -, q⟩ := H
  have := eV_le q
  rw [nh_pc hf hch] at this
  exact this
theorem c_hires_l {T : aT} {L : aL} {n b h s l0 c most N f : Nat} {G : aG} {R r : Nat → Nat} (hn : 20 ≤ n) (hI : InvT T L) (hs : s < 2 ^ tM T) (hmp : most ≤ 0 ∨ c = 2) (hc1 : 1 ≤ c) (C : Clo T (tHome T) (wN T L G h) s l0 most N R) (hf : f ≤ pc s) (hr : ∀ q, q < f → r q < 7 ∧ s.testBit (r q) = true) (hD : ∀ q q', q < q' → q' < f → ¬ r q = r q') : ∀ (k ch : Nat) (σ : bS), Ht T L G b h s l0 c N R σ → (∀ q, q < f → σ.2.1 67 q = nI (r q)) → (∀ c', c' < ch → ¬ LD T L G h s l0 N r f c') → ch ≤ 2 ^ f → 2 ^ f < ch + k → ∃ v σ', cRows_findHires_b2 n k (nI f) (nI N) (nI ch) σ = some (v, σ') ∧ frK σ σ' ∧ σ'.2.1 67 = σ.2.1 67 ∧ ((v = 1 ∧ ∃ c0, c0 < 2 ^ f ∧ LD T L G h s l0 N r f c0 ∧ (∀ c', c' < c0 → ¬ LD T L G h s l0 N r f c') ∧ σ'.1 59 9 = nI (hbN (hdP f c0) f)) ∨ (v = 0 ∧ ∀ c', c' < 2 ^ f → ¬ LD T L G h s l0 N r f c')) := by
  have hNm := C.2.2.2.1
  have hm7 := C.2.2.2.2
  have p7 := pc_le (s := s)
  have hf7 : f ≤ 7 := by omega
  have f128 := pow_128 hf7
  have e2 : ci_1 <<< (nI f &&& 31) = nI (2 ^ f) := by rw [ci1_1]; exact one_shl (by omega)
  intro k
  induction k with
  | zero =>
    intro ch σ hH h67 A h1 h2
    omega
  | succ k ih =>
    intro ch σ hH h67 A h1 h2
    rw [cRows_findHires_b2, e2]
    by_cases hc : ch < 2 ^ f
    · rw [if_neg (nI_ge hc (by omega)), pc_eq (by omega), ob_def]
      have pl : pc ch ≤ 7 := pc_le
      by_cases w : pc ch ≤ N
      · rw [if_neg (show ¬ (nI N < nI (pc ch)) from Int32.not_lt.mpr ((nI_leI (by omega) (by omega)).mpr w))]
        obtain ⟨v, σ1, d1, d2, d3, d4⟩ := c_leads (n := n) hn hI hs hmp hc1 C hf hr hD hc w hH h67
        rw [d1, ob_def]
        rcases d4 with ⟨rfl, d5, d6⟩ | ⟨rfl, d5⟩
        · rw [if_neg one_ne]
          exact ⟨1, σ1, rfl, d2, d3, Or.inl ⟨rfl, ch, hc, d5, A, d6⟩⟩
        · rw [if_pos rfl, cRows_findHires_b28, nI_s]
          obtain ⟨v, σ2, g1, g2, g3, g4⟩ := ih (ch + 1) σ1 (hH.fr d2) (fun q hq => by rw [d3]; exact h67 q hq) (fun c' hc' => by
            by_cases y : c' = ch
            · subst y
              exact d5
            · exact A c' (by omega)) (by omega) (by omega)
          exact ⟨v, σ2, g1, d2.trans g2, g3.trans d3, g4⟩
      · rw [if_pos (show nI N < nI (pc ch) from (Int32.not_le.mp (fun u => w ((nI_leI (by omega) (by omega)).mp u)))), cRows_findHires_b28, nI_s]
        exact ih (ch + 1) σ hH h67 (fun c' hc' => by
          by_cases y : c' = ch
          · subst y
            exact fun u => w (u.pc hf7 hc)
          · exact A c' (by omega)) (by omega) (by omega)
    · have e : ch = 2 ^ f := by omega
      subst e
      rw [if_pos (Int32.le_refl _)]
      exact ⟨0, σ, rfl, frK.rf, rfl, Or.inr ⟨rfl, A⟩⟩
