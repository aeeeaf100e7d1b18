/-! the class's row is the first good one -/
def LX (T : aT) (L : aL) (G : aG) (h s l0 N : Nat) (r : Nat → Nat) (p : Nat) : Prop := (pL (pc s - p) (rm s (xs r p))).find? (pB (fun l => gdL T L G h s l0 N ((List.range p).map r ++ l))) = some (((List.range (pc s)).map r).drop p)
theorem LX.next {T : aT} {L : aL} {G : aG} {h s l0 N p : Nat} {r : Nat → Nat} (hp : p < pc s) (H : LX T L G h s l0 N r p) : r p ∈ rm s (xs r p) ∧ LX T L G h s l0 N r (p + 1) ∧ ∀ j, j ∈ rm s (xs r p) → j < r p → ∀ l, l ∈ pL (pc s - (p + 1)) (rm s (xs r p ||| 2 ^ j)) → ¬ gdL T L G h s l0 N ((List.range p).map r ++ j :: l) := by
  unfold LX at H
  have hl : p < ((List.range (pc s)).map r).length := by rw [List.length_map, List.length_range]; exact hp
  rw [List.drop_eq_getElem_cons hl, List.getElem_map, List.getElem_range, show pc s - p = pc s - (p + 1) + 1 by omega] at H
  obtain ⟨a, b, c⟩ := lex_step H
  refine ⟨a, ?_, c⟩
  unfold LX
  rw [List.range_succ, List.map_append]
  simp only [List.append_assoc]
  exact b
theorem LX.ex {T : aT} {L : aL} {G : aG} {h s l0 N p : Nat} {r : Nat → Nat} (H : LX T L G h s l0 N r p) : ∃ t, t ∈ pL (pc s - p) (rm s (xs r p)) ∧ gdL T L G h s l0 N ((List.range p).map r ++ t) := ⟨_, List.mem_of_find?_eq_some H, (pB_t (P := fun l => gdL T L G h s l0 N ((List.range p).map r ++ l))).mp (List.find?_some H)⟩
def Rw (r : Nat → Nat) (p : Nat) (σ : bS) : Prop := ∀ q, q < p → σ.2.1 67 q = nI (r q)
def Hb (T : aT) (L : aL) (G : aG) (h s l0 N : Nat) (r : Nat → Nat) (f : Nat) (σ : bS) : Prop := ∃ c0, c0 < 2 ^ f ∧ LD T L G h s l0 N r f c0 ∧ (∀ c', c' < c0 → ¬ LD T L G h s l0 N r f c') ∧ σ.1 59 9 = nI (hbN (hdP f c0) f)
theorem c_rowIn_l {T : aT} {L : aL} {n b h s l0 c most N p : Nat} {G : aG} {R r : Nat → Nat} {r9 : Int32 → Int32 → Int32 → bS → Option bS} (hn : 200 ≤ n) (hI : InvT T L) (hs : s < 2 ^ tM T) (hmp : most ≤ 0 ∨ c = 2) (hc1 : 1 ≤ c) (C : Clo T (tHome T) (wN T L G h) s l0 most N R) (hp : p < pc s) (hr : ∀ q, q < pc s → r q < 7 ∧ s.testBit (r q) = true) (hD : ∀ q q', q < q' → q' < pc s → ¬ r q = r q') (X0 : LX T L G h s l0 N r p) : ∀ (k j : Nat) (σ : bS), Ht T L G b h s l0 c N R σ → Rw r p σ → j ≤ r p → r p < j + k → ∃ σ', cRows_findRow_b20 n r9 k (nI N) (nI (xs r p)) (nI p) (nI j) σ = r9 (nI N) (nI (xs r (p + 1))) (nI (p + 1)) σ' ∧ frK σ σ' ∧ Rw r (p + 1) σ' ∧ Hb T L G h s l0 N r (p + 1) σ' := by
  have hM := hI.2.2.2.1
  have h7 : (2 : Nat) ^ tM T ≤ 2 ^ 7 := Nat.pow_le_pow_right (by decide) hM
  have p7 := pc_le (s := s)
  have xlt : xs r p < 128 := xs_lt p (fun q hq => (hr q (by omega)).1)
  obtain ⟨x1, x2, x3⟩ := X0.next hp
  obtain ⟨r7, rs⟩ := hr p hp
  have rd : ∀ (σ : bS) (v : Int32) (q : Nat), (uA σ 67 (nI p) v).2.1 67 q = if q = p then v else σ.2.1 67 q := fun σ v q => by
    rw [uA_2, nI_clamp (by omega)]
    simp
  have pow := pow_128 (f := p + 1) (by omega)
  intro k
  induction k with
  | zero =>
    intro j σ hH hR h1 h2
    omega
  | succ k ih =>
    intro j σ hH hR h1 h2
    rw [cRows_findRow_b20, cb7_nI, if_neg (nI_ge (show j < 7 by omega) (by omega)), bin_nI (by omega) (by decide), nI_s]
    have hH1 : Ht T L G b h s l0 c N R (uA σ 67 (nI p) (nI j)) := hH.fr frK.u67
    rw [c_leftE hH1.2.1.1 (by omega) xlt (show j < 7 by omega), ob_def]
    by_cases z : j = r p
    · subst z
      obtain ⟨m1, m2, m3⟩ := rm_mem.mp x1
      rw [if_pos (show (s.testBit (r p) && !(xs r p).testBit (r p)) = true by rw [m2, m3]; rfl)]
      simp only [if_neg one_ne]
      have hR1 : Rw r (p + 1) (uA σ 67 (nI p) (nI (r p))) := fun q hq => by
        rw [rd]
        by_cases y : q = p
        · rw [if_pos y, y]
        · rw [if_neg y]
          exact hR q (by omega)
      obtain ⟨v, σ1, d1, d2, d3, d4⟩ := c_hires_l (n := n) (f := p + 1) (r := r) (by omega) hI hs hmp hc1 C (by omega) (fun q hq => hr q (by omega)) (fun q q' a b => hD q q' a (by omega)) n 0 (uA σ 67 (nI p) (nI (r p))) hH1 hR1 (fun c' hc => by omega) (Nat.zero_le _) (by omega)
      have ex := (LD_iff (r := r) (f := p + 1) (by omega) (by omega) (fun q hq => (hr q (by omega)).1) (fun q q' a b => hD q q' a (by omega))).mpr x2.ex
      rw [show cRows_findHires n (nI (p + 1)) (nI N) (uA σ 67 (nI p) (nI (r p))) = _ from d1, ob_def]
      rcases d4 with ⟨rfl, d5⟩ | ⟨rfl, d5⟩
      · simp only [if_neg one_ne]
        rw [cRows_findRow_b72, or_eq r7, nI_s]
        exact ⟨σ1, rfl, frK.u67.trans d2, fun q hq => by rw [d3]; exact hR1 q hq, d5⟩
      · obtain ⟨ch, e1, e2⟩ := ex
        exact absurd e2 (d5 ch e1)
    · have next : ∀ σ1, frK σ σ1 → Rw r p σ1 → ∃ σ', cRows_findRow_b66 n r9 (cRows_findRow_b20 n r9 k) (nI N) (nI (xs r p)) (nI p) (nI j) σ1 = r9 (nI N) (nI (xs r (p + 1))) (nI (p + 1)) σ' ∧ frK σ σ' ∧ Rw r (p + 1) σ' ∧ Hb T L G h s l0 N r (p + 1) σ' := fun σ1 f1 g1 => by
        rw [cRows_findRow_b66, nI_s]
        obtain ⟨σ', d1, d2, d3⟩ := ih (j + 1) σ1 (hH.fr f1) g1 (by omega) (by omega)
        exact ⟨σ', d1, f1.trans d2, d3⟩
      have hR0 : Rw r p (uA σ 67 (nI p) (nI j)) := fun q hq => by
        rw [rd, if_neg (by omega)]
        exact hR q hq
      by_cases w : (s.testBit j && !(xs r p).testBit j) = true
      · have w2 := Bool.and_eq_true_iff.mp w
        have xf : (xs r p).testBit j = false := by
          have := w2.2
          cases q : (xs r p).testBit j
          · rfl
          · rw [q] at this
            cases this
        rw [if_pos w]
        simp only [if_neg one_ne]
        have o1 : ∀ q, q < p → (if q = p then j else r q) = r q := fun q hq => if_neg (by omega)
        have hr' : ∀ q, q < p + 1 → (if q = p then j else r q) < 7 ∧ s.testBit (if q = p then j else r q) = true := fun q hq => by
          by_cases y : q = p
          · rw [if_pos y]
            exact ⟨by omega, w2.1⟩
          · rw [if_neg y]
            exact hr q (by omega)
        have hD' : ∀ q q', q < q' → q' < p + 1 → ¬ (if q = p then j else r q) = (if q' = p then j else r q') := fun q q' a b => by
          rw [if_neg (by omega)]
          by_cases y : q' = p
          · rw [if_pos y]
            intro e
            have := (xs_bit r j p).mpr ⟨q, by omega, e⟩
            rw [xf] at this
            cases this
          · rw [if_neg y]
            exact hD q q' a (by omega)
        have hR1 : Rw (fun q => if q = p then j else r q) (p + 1) (uA σ 67 (nI p) (nI j)) := fun q hq => by
          rw [rd]
          by_cases y : q = p
          · rw [if_pos y]
            show _ = nI (if q = p then j else r q)
            rw [if_pos y]
          · rw [if_neg y]
            show _ = nI (if q = p then j else r q)
            rw [if_neg y]
            exact hR q (by omega)
        obtain ⟨v, σ1, d1, d2, d3, d4⟩ := c_hires_l (n := n) (f := p + 1) (r := fun q => if q = p then j else r q) (by omega) hI hs hmp hc1 C (by omega) hr' hD' n 0 (uA σ 67 (nI p) (nI j)) hH1 hR1 (fun c' hc => by omega) (Nat.zero_le _) (by omega)
        have no : ¬ ∃ ch, ch < 2 ^ (p + 1) ∧ LD T L G h s l0 N (fun q => if q = p then j else r q) (p + 1) ch := fun u => by
          obtain ⟨t, t1, t2⟩ := (LD_iff (r := fun q => if q = p then j else r q) (f := p + 1) (by omega) (by omega) (fun q hq => (hr' q hq).1) hD').mp u
          have e1 : xs (fun q => if q = p then j else r q) (p + 1) = xs r p ||| 2 ^ j := by
            rw [xs, xs_congr p o1]
            show xs r p ||| 2 ^ (if p = p then j else r p) = _
            rw [if_pos rfl]
          have e2 : (List.range (p + 1)).map (fun q => if q = p then j else r q) ++ t = (List.range p).map r ++ j :: t := by
            rw [List.range_succ, List.map_append, List.append_assoc, List.map_congr_left (g := r) (fun q hq => o1 q (List.mem_range.mp hq))]
            congr 1
            show (if p = p then j else r p) :: t = _
            rw [if_pos rfl]
          rw [e1] at t1
          rw [e2] at t2
          exact x3 j (rm_mem.mpr ⟨by omega, w2.1, xf⟩) (by omega) t t1 t2
        rw [show cRows_findHires n (nI (p + 1)) (nI N) (uA σ 67 (nI p) (nI j)) = _ from d1, ob_def]
        rcases d4 with ⟨rfl, c0, d5, d6, -⟩ | ⟨rfl, d5⟩
        · exact absurd ⟨c0, d5, d6⟩ no
        · simp only [if_true]
          exact next σ1 (frK.u67.trans d2) (fun q hq => by rw [d3]; exact hR0 q hq)
      · rw [if_neg w]
        simp only [if_true]
        exact next _ frK.u67 hR0
theorem c_rowOut_l {T : aT} {L : aL} {n b h s l0 c most N : Nat} {G : aG} {R r : Nat → Nat} (hn : 200 ≤ n) (hI : InvT T L) (hs : s < 2 ^ tM T) (hmp : most ≤ 0 ∨ c = 2) (hc1 : 1 ≤ c) (C : Clo T (tHome T) (wN T L G h) s l0 most N R) (hr : ∀ q, q < pc s → r q < 7 ∧ s.testBit (r q) = true) (hD : ∀ q q', q < q' → q' < pc s → ¬ r q = r q') : ∀ (k p : Nat) (σ : bS), Ht T L G b h s l0 c N R σ → Rw r p σ → LX T L G h s l0 N r p → (p = pc s → Hb T L G h s l0 N r p σ) → p ≤ pc s → pc s < p + k → ∃ σ', cRows_findRow_b9 n k (nI N) (nI (xs r p)) (nI p) σ = some σ' ∧ frK σ σ' ∧ Rw r (pc s) σ' ∧ Hb T L G h s l0 N r (pc s) σ' := by
  have p7 := pc_le (s := s)
  intro k
  induction k with
  | zero =>
    intro p σ hH hR X0 hb h1 h2
    omega
  | succ k ih =>
    intro p σ hH hR X0 hb h1 h2
    have e11 : sI σ 59 11 = nI (pc s) := hH.2.1.2.1
    rw [cRows_findRow_b9, e11]
    by_cases hp : p < pc s
    · have r7 := (hr p hp).1
      rw [if_neg (nI_ge hp (by omega))]
      obtain ⟨σ1, d1, d2, d3, d4⟩ := c_rowIn_l (n := n) (r9 := cRows_findRow_b9 n k) hn hI hs hmp hc1 C hp hr hD X0 n 0 σ hH hR (Nat.zero_le _) (by omega)
      rw [show cRows_findRow_b20 n (cRows_findRow_b9 n k) n (nI N) (nI (xs r p)) (nI p) ci_0 σ = _ from d1]
      obtain ⟨σ2, g1, g2, g3⟩ := ih (p + 1) σ1 (hH.fr d2) d3 (X0.next hp).2.1 (fun _ => d4) (by omega) (by omega)
      exact ⟨σ2, g1, d2.trans g2, g3⟩
    · have e : p = pc s := by omega
      subst e
      rw [if_pos (Int32.le_refl _)]
      exact ⟨σ, rfl, frK.rf, hR, hb rfl⟩
theorem LD_gp {T : aT} {L : aL} {G : aG} {h s l0 N ch : Nat} {y : List Nat} (hs : s < 128) (hch : ch < 2 ^ cS s) : LD T L G h s l0 N (fun q => eS s (y.getD q 0)) (cS s) ch ↔ gp T L G h s l0 N y ch = true := by
  have ec : pc s = cS s := (rowL_pc (z := 0) hs).symm
  have c7 := cS_7 (s := s)
  unfold LD gp gdR
  rw [ec, Nat.sub_self, nh_pc c7 hch, Bool.and_eq_true, decide_eq_true_iff]
  cases e : rP (tHome T) (wN T L G h) (fun q => eS s (y.getD q 0)) (hdP (cS s) ch) l0 (cS s) with
  | none =>
    constructor
    · rintro ⟨la, ab, q, -⟩
      cases q
    · rintro ⟨-, q⟩
      cases q
  | some o =>
    obtain ⟨la, ab⟩ := o
    constructor
    · rintro ⟨la2, ab2, q1, q2⟩
      obtain ⟨u1, u2⟩ := eV_0.mp q2
      have q1 := Option.some.inj q1
      have q4 : ab = ab2 := congrArg Prod.snd q1
      subst q4
      subst u2
      exact ⟨u1, rfl⟩
    · rintro ⟨q1, q2⟩
      refine ⟨la, ab, rfl, eV_0.mpr ⟨q1, ?_⟩⟩
      cases ab
      · rfl
      · cases q2
abbrev fr59 (σ σ' : bS) : Prop := frC (fun a => a = 59 ∨ a = 63 ∨ a = 67) σ σ'
theorem c_findRow {T : aT} {L : aL} {n b h s l0 c most N p0 : Nat} {G : aG} {R : Nat → Nat} {y : List Nat} {σ : bS} (hn : 200 ≤ n) (hI : InvT T L) (hs0 : 0 < s) (hs : s < 2 ^ tM T) (hmp : most ≤ 0 ∨ c = 2) (hc1 : 1 ≤ c) (hT : CT T L σ) (hP : Prep T L G b h s l0 c σ) (K : KR R σ) (C : Clo T (tHome T) (wN T L G h) s l0 most N R) (F : FstP T L G h s l0 N (pL (cS s) (List.range (cS s))) y p0) : ∃ σ', cRows_findRow n (nI N) σ = some σ' ∧ fr59 σ σ' ∧ Rw (fun q => eS s (y.getD q 0)) (cS s) σ' ∧ σ'.1 59 9 = nI (hbN (hdP (cS s) p0) (cS s)) := by
  have hM := hI.2.2.2.1
  have h7 : (2 : Nat) ^ tM T ≤ 2 ^ 7 := Nat.pow_le_pow_right (by decide) hM
  have ec : pc s = cS s := (rowL_pc (z := 0) (by omega)).symm
  have p7 := pc_le (s := s)
  obtain ⟨pre, post, f1, f2, f3, f4, f5⟩ := F
  have hy : y ∈ pL (cS s) (List.range (cS s)) := by rw [f1]; exact List.mem_append_right _ List.mem_cons_self
  obtain ⟨a1, a2⟩ := pL_at hy
  have len := pL_len _ _ _ hy
  have hr : ∀ q, q < pc s → eS s (y.getD q 0) < 7 ∧ s.testBit (eS s (y.getD q 0)) = true := fun q hq => eS_7 (a1 q (by omega))
  have hD : ∀ q q', q < q' → q' < pc s → ¬ eS s (y.getD q 0) = eS s (y.getD q' 0) := fun q q' u v e => by
    have b1 := a1 q (by omega)
    have b2 := a1 q' (by omega)
    refine a2 q q' u (by omega) (eI_inj s _ _ ?_)
    unfold eI
    rw [if_pos b1, if_pos b2]
    exact e
  have eY : y.map (eI s) = (List.range (cS s)).map (fun q => eS s (y.getD q 0)) := by
    apply List.ext_getElem
    · rw [List.length_map, List.length_map, List.length_range, len]
    · intro q h1 h2
      rw [List.length_map] at h1
      rw [List.getElem_map, List.getElem_map, List.getElem_range, getD_get h1]
      unfold eI
      have := a1 q (by omega)
      rw [getD_get h1] at this
      rw [if_pos this]
  have X0 : LX T L G h s l0 N (fun q => eS s (y.getD q 0)) 0 := by
    unfold LX
    rw [show pc s - 0 = cS s by omega, show xs (fun q => eS s (y.getD q 0)) 0 = 0 from rfl, pL_men, f1, List.map_append, List.map_cons, ec, ← eY]
    refine List.find?_eq_some_iff_append.mpr ⟨pB_t.mpr ((gdL_gp hy).mpr ⟨p0, f3, f4⟩), pre.map (List.map (eI s)), post.map (List.map (eI s)), rfl, fun x hx => ?_⟩
    obtain ⟨x', hx', rfl⟩ := List.mem_map.mp hx
    have mx : x' ∈ pL (cS s) (List.range (cS s)) := by rw [f1]; exact List.mem_append_left _ hx'
    cases q : pB (fun l => gdL T L G h s l0 N (List.map (fun q => eS s (y.getD q 0)) (List.range 0) ++ l)) (x'.map (eI s))
    · rfl
    · obtain ⟨p, p1, p2⟩ := (gdL_gp mx).mp (pB_t.mp q)
      rw [f2 x' hx' p p1] at p2
      cases p2
  obtain ⟨σ1, d1, d2, d3⟩ := c_hopes (n := n) hn hI hs hmp hc1 hT hP K C
  have hc0 : 0 < pc s := by
    rcases Nat.eq_zero_or_pos (pc s) with z | z
    · have := sub_strict (s := s) (X := 0) (by omega) (Nat.and_zero s) hs0
      omega
    · exact z
  obtain ⟨σ2, g1, g2, g3, c0, g4, g5, g6, g7⟩ := c_rowOut_l (n := n) (r := fun q => eS s (y.getD q 0)) hn hI hs hmp hc1 C hr hD n 0 σ1 ⟨hT.fr d3 (fun a x y => by omega), hP.fr d3 (by decide) (by decide), d2⟩ (fun q hq => by omega) X0 (fun z => by omega) (Nat.zero_le _) (by omega)
  rw [ec] at g3 g4 g5 g6 g7
  have e0 : c0 = p0 := by
    have u1 := (LD_gp (by omega) g4).mp g5
    rcases Nat.lt_trichotomy c0 p0 with z | z | z
    · rw [f5 c0 z] at u1
      cases u1
    · exact z
    · exact absurd ((LD_gp (by omega) f3).mpr f4) (g6 p0 z)
  subst e0
  refine ⟨σ2, ?_, (d3.mono (fun a z => by omega)).trans (g2.1.mono (fun a z => by omega)), g3, g7⟩
  unfold cRows_findRow
  rw [d1, ob_def]
  exact g1
