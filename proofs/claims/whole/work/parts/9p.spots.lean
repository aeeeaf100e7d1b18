/-! the class's spots: twice LAST (0: none), and 1 more if those who crossed are ON the bridge -/
def abN (ab : Bool) : Nat := if ab = true then 1 else 0
def spO (o : Option (Nat × Bool)) : Int32 := match o with
  | none => -1
  | some (la, ab) => nI (2 * la + abN ab)
theorem abN_le (ab : Bool) : abN ab ≤ 1 := by cases ab <;> decide
theorem spI_is {la : Nat} {ab : Bool} {n : Nat} {σ : bS} {x : Int32} (hx : x = nI (abN ab)) : cRows_spotOf n (lI la) x σ = some (nI (2 * la + abN ab), σ) := by
  unfold cRows_spotOf
  rw [hx, lI_succ, ci_2_n, nI_mul, nI_add, show la * 2 = 2 * la by omega]
theorem c_live_l {T : aT} {L : aL} {n X l : Nat} {σ : bS} (hI : InvT T L) (hT : CT T L σ) (hX : X < 2 ^ tM T) (hl : l < 6) : ∀ (k j : Nat), (∀ x, x < j → X.testBit x = true → tHome T x = l) → j ≤ 7 → 7 < j + k → ∃ r, cRows_allLiveAt_b2 n k (nI X) (nI l) (nI j) σ = some (r, σ) ∧ ((r = 1 ∧ ¬ ∃ x, x < 7 ∧ X.testBit x = true ∧ ¬ tHome T x + 1 = l + 1) ∨ (r = 0 ∧ ∃ x, x < 7 ∧ X.testBit x = true ∧ ¬ tHome T x + 1 = l + 1))
  | 0, j, a, h1, h2 => by omega
  | k + 1, j, a, h1, h2 => by
    have hM := hI.2.2.2.1
    have hB := hI.1
    have h7 : (2 : Nat) ^ tM T ≤ 2 ^ 7 := Nat.pow_le_pow_right (by decide) hM
    rw [cRows_allLiveAt_b2, cb7_nI]
    by_cases hj : j < 7
    · rw [if_neg (nI_ge hj (by omega))]
      by_cases e : X.testBit j = true
      · have hm := bit_lt hX e
        have hho := hI.2.2.2.2.2.1 j hm
        have e6 : sA σ 6 (nI j) = nI (tHome T j) := (sA_n _ _ (by omega)).trans (hT.2.2.2.1 j hm)
        rw [if_pos ((bit_is (by omega) hj).mpr e)]
        unfold cRows_homeOf
        rw [bin_nI hj (by decide), e6, ob_def]
        by_cases y : tHome T j = l
        · rw [if_pos (by rw [y]), cRows_allLiveAt_b28, ci1_nI, nI_add]
          exact c_live_l hI hT hX hl k (j + 1) (fun x hx hb => by
            by_cases z : x = j
            · subst z
              exact y
            · exact a x (by omega) hb) hj (by omega)
        · rw [if_neg (fun u => y (nI_inj (by omega) (by omega) u))]
          exact ⟨0, rfl, Or.inr ⟨rfl, j, hj, e, fun u => y (by omega)⟩⟩
      · rw [if_neg (fun u => e ((bit_is (by omega) hj).mp u)), cRows_allLiveAt_b28, ci1_nI, nI_add]
        exact c_live_l hI hT hX hl k (j + 1) (fun x hx hb => by
          by_cases z : x = j
          · subst z
            exact absurd hb e
          · exact a x (by omega) hb) hj (by omega)
    · have e : j = 7 := by omega
      subst e
      rw [if_pos (Int32.le_refl _)]
      exact ⟨1, rfl, Or.inl ⟨rfl, fun ⟨x, hx, hb, z⟩ => z (by rw [a x hx hb])⟩⟩
theorem tr_free {ho : Nat → Nat} {W : Nat → Nat → Nat → Nat} {X la m t : Nat} {ab : Bool} : tr ho W X la ab m false t = if ¬ la = 0 ∧ (¬ ho m + 1 = la ∨ (ab = true ∧ ∃ x : Nat, x < 7 ∧ X.testBit x = true ∧ ¬ ho x + 1 = la)) then none else some (if W m la t = 0 then la else W m la t, decide (la = 0)) := rfl
/-- the spot behind a crossing -/
theorem c_after {T : aT} {L : aL} {n b h s l0 c X la m t : Nat} {ab : Bool} {G : aG} {σ : bS} (hn : 20 ≤ n) (hI : InvT T L) (hT : CT T L σ) (hP : Prep T L G b h s l0 c σ) (hX : X < 2 ^ tM T) (hm : m < tM T) (hms : s.testBit m = true) (hla : la ≤ tB T) (hl : l0 = 0 ∨ 1 ≤ la) (ht : t < 14) (htc : t < pc s * c) : cRows_spotAfter n (nI X) (nI (2 * la + abN ab)) (nI m) (nI t) σ = some (spO (tr (tHome T) (wN T L G h) X la ab m false t), σ) ∧ ∀ la' ab', tr (tHome T) (wN T L G h) X la ab m false t = some (la', ab') → la' ≤ tB T ∧ (l0 = 0 ∨ 1 ≤ la') := by
  have hM := hI.2.2.2.1
  have hB := hI.1
  have h7 : (2 : Nat) ^ tM T ≤ 2 ^ 7 := Nat.pow_le_pow_right (by decide) hM
  have a1 := abN_le ab
  have hho := hI.2.2.2.2.2.1 m hm
  obtain ⟨w1, w2⟩ := wN_is (L := L) (G := G) (h := h) (la := la) (t := t) hI hm
  have ew : cRows_wishAt n (nI m) (lI la) (nI t) σ = some (lI (wN T L G h m la t), σ) := by
    unfold cRows_wishAt
    rw [cell_eq, ob_def, bin_nI (by omega) (by decide), sA_n _ _ (by omega)]
    show some (σ.2.1 60 ((7 * m + la) * 14 + t), σ) = _
    rw [hP.2.2.2.2.2 m la t hms hl hla ht htc, w1]
  have e2 : nI (2 * la + abN ab) / ci_2 = nI la := by
    rw [ci_2_n, nI_div (by omega) (by decide) (by decide), show (2 * la + abN ab) / 2 = la by omega]
  have e3 : nI la - ci_1 = lI la := by
    by_cases z : la = 0
    · subst z
      decide
    · rw [ci1_nI, nI_sub (by omega)]
      exact (if_neg z).symm
  have e4 : brem (nI (2 * la + abN ab)) ci_2 = nI (abN ab) := by
    rw [ci_2_n, brem_n (by omega) (by decide) (by decide), show (2 * la + abN ab) % 2 = abN ab by omega]
  have e6 : sA σ 6 (nI m) = nI (tHome T m) := (sA_n _ _ (by omega)).trans (hT.2.2.2.1 m hm)
  have f41 : cRows_spotAfter_b41 n (nI m) (nI t) (lI la) σ = some (nI (2 * (if wN T L G h m la t = 0 then la else wN T L G h m la t) + abN (decide (la = 0))), σ) := by
    unfold cRows_spotAfter_b41
    rw [ew, ob_def]
    have g : ∀ y, cRows_spotAfter_b64 n (lI la) (lI y) σ = some (nI (2 * y + abN (decide (la = 0))), σ) := fun y => by
      unfold cRows_spotAfter_b64 cRows_spotAfter_b74
      by_cases z : la = 0
      · rw [if_neg (fun u => (lI_ge (by omega)).mp u z), spI_is (ab := decide (la = 0)) (by rw [decide_eq_true z]; rfl), ob_def]
      · rw [if_pos ((lI_ge (by omega)).mpr z), spI_is (ab := decide (la = 0)) (by rw [decide_eq_false z]; rfl), ob_def]
    by_cases y : wN T L G h m la t = 0
    · rw [if_neg (show ¬ 0 ≤ lI (wN T L G h m la t) from fun u => (lI_ge (by omega)).mp u y), if_pos y, g]
    · rw [if_pos (show 0 ≤ lI (wN T L G h m la t) from (lI_ge (by omega)).mpr y), if_neg y, g]
  have T0 := tr_free (ho := tHome T) (W := wN T L G h) (X := X) (la := la) (m := m) (t := t) (ab := ab)
  refine ⟨?_, fun la' ab' e => ?_⟩
  · rw [T0]
    unfold cRows_spotAfter
    rw [if_neg (show ¬ ci_2 = 0 by decide), e2, e3, cRows_spotAfter_b5]
    by_cases z : la = 0
    · rw [if_pos ((lI_lt0 (by omega)).mpr z), f41, if_neg (show ¬ (¬ la = 0 ∧ (¬ tHome T m + 1 = la ∨ (ab = true ∧ ∃ x : Nat, x < 7 ∧ X.testBit x = true ∧ ¬ tHome T x + 1 = la))) from fun u => u.1 z)]
      rfl
    · have el : lI la = nI (la - 1) := if_neg z
      rw [if_neg (fun u => z ((lI_lt0 (by omega)).mp u))]
      unfold cRows_homeOf
      rw [bin_nI (by omega) (by decide), e6, ob_def]
      by_cases y : tHome T m + 1 = la
      · rw [if_pos (show nI (tHome T m) = lI la by rw [el]; congr 1; omega), if_neg (show ¬ ci_2 = 0 by decide), e4]
        cases ab
        · rw [if_neg (show ¬ nI (abN false) = ci_1 by decide), f41, if_neg (show ¬ (¬ la = 0 ∧ (¬ tHome T m + 1 = la ∨ (false = true ∧ ∃ x : Nat, x < 7 ∧ X.testBit x = true ∧ ¬ tHome T x + 1 = la))) from fun u => u.2.elim (fun v => v y) (fun v => by cases v.1))]
          rfl
        · rw [if_pos (show nI (abN true) = ci_1 from rfl)]
          obtain ⟨r, l1, l2⟩ := c_live_l (n := n) (l := la - 1) hI hT hX (by omega) n 0 (fun x hx => by omega) (by omega) (by omega)
          rw [show la - 1 + 1 = la by omega] at l2
          rw [el, show cRows_allLiveAt n (nI X) (nI (la - 1)) σ = some (r, σ) from l1, ob_def]
          rcases l2 with ⟨rfl, l2⟩ | ⟨rfl, l2⟩
          · rw [if_neg one_ne, ← el, f41, if_neg (show ¬ (¬ la = 0 ∧ (¬ tHome T m + 1 = la ∨ (true = true ∧ ∃ x : Nat, x < 7 ∧ X.testBit x = true ∧ ¬ tHome T x + 1 = la))) from fun u => u.2.elim (fun v => v y) (fun v => l2 v.2))]
            rfl
          · rw [if_pos rfl, if_pos (show ¬ la = 0 ∧ (¬ tHome T m + 1 = la ∨ (true = true ∧ ∃ x, x < 7 ∧ X.testBit x = true ∧ ¬ tHome T x + 1 = la)) from ⟨z, Or.inr ⟨rfl, l2⟩⟩), cRows_spotAfter_b39, cim1]
            rfl
      · rw [if_neg (show ¬ nI (tHome T m) = lI la from fun u => y (by rw [el] at u; have := nI_inj (by omega) (by omega) u; omega)), if_pos (show ¬ la = 0 ∧ (¬ tHome T m + 1 = la ∨ (ab = true ∧ ∃ x, x < 7 ∧ X.testBit x = true ∧ ¬ tHome T x + 1 = la)) from ⟨z, Or.inl y⟩), cRows_spotAfter_b39, cim1]
        rfl
  · rw [T0] at e
    split at e
    · cases e
    · have e := Option.some.inj e
      have e1 : (if wN T L G h m la t = 0 then la else wN T L G h m la t) = la' := congrArg Prod.fst e
      rw [← e1]
      split
      · exact ⟨hla, hl⟩
      · exact ⟨w2, Or.inr (by omega)⟩
theorem tr_paid {ho : Nat → Nat} {W : Nat → Nat → Nat → Nat} {X la m t : Nat} {ab : Bool} : tr ho W X la ab m true t = tr ho W X (ho m + 1) ab m false (t + 1) := rfl
theorem c_freeE {T : aT} {L : aL} {n b h s l0 c X la m hr : Nat} {ab : Bool} {G : aG} {σ : bS} (hn : 20 ≤ n) (hI : InvT T L) (hT : CT T L σ) (hP : Prep T L G b h s l0 c σ) (hX : X < 2 ^ tM T) (hm : m < tM T) (hms : s.testBit m = true) (hla : la ≤ tB T) (hl : l0 = 0 ∨ 1 ≤ la) (ht : pc X + hr < 14) (htc : pc X + hr < pc s * c) : cRows_spotFree n (nI X) (nI (2 * la + abN ab)) (nI hr) (nI m) σ = some (spO (tr (tHome T) (wN T L G h) X la ab m false (pc X + hr)), σ) := by
  have hM := hI.2.2.2.1
  have h7 : (2 : Nat) ^ tM T ≤ 2 ^ 7 := Nat.pow_le_pow_right (by decide) hM
  unfold cRows_spotFree
  rw [pc_eq (by omega), ob_def, nI_add, (c_after hn hI hT hP hX hm hms hla hl ht htc).1, ob_def]
theorem c_paidE {T : aT} {L : aL} {n b h s l0 c X la m hr : Nat} {ab : Bool} {G : aG} {σ : bS} (hn : 20 ≤ n) (hI : InvT T L) (hT : CT T L σ) (hP : Prep T L G b h s l0 c σ) (hX : X < 2 ^ tM T) (hm : m < tM T) (hms : s.testBit m = true) (hla : la ≤ tB T) (ht : pc X + hr + 1 < 14) (htc : pc X + hr + 1 < pc s * c) : cRows_spotPaid n (nI X) (nI (2 * la + abN ab)) (nI hr) (nI m) σ = some (spO (tr (tHome T) (wN T L G h) X la ab m true (pc X + hr)), σ) ∧ ∀ la' ab', tr (tHome T) (wN T L G h) X la ab m true (pc X + hr) = some (la', ab') → la' ≤ tB T ∧ (l0 = 0 ∨ 1 ≤ la') := by
  have hM := hI.2.2.2.1
  have hB := hI.1
  have h7 : (2 : Nat) ^ tM T ≤ 2 ^ 7 := Nat.pow_le_pow_right (by decide) hM
  have a1 := abN_le ab
  have hho := hI.2.2.2.2.2.1 m hm
  have e6 : sA σ 6 (nI m) = nI (tHome T m) := (sA_n _ _ (by omega)).trans (hT.2.2.2.1 m hm)
  have e4 : brem (nI (2 * la + abN ab)) ci_2 = nI (abN ab) := by
    rw [ci_2_n, brem_n (by omega) (by decide) (by decide), show (2 * la + abN ab) % 2 = abN ab by omega]
  obtain ⟨k1, k2⟩ := c_after (n := n) (la := tHome T m + 1) (ab := ab) (t := pc X + hr + 1) hn hI hT hP hX hm hms (by omega) (Or.inr (by omega)) ht htc
  refine ⟨?_, k2⟩
  unfold cRows_spotPaid cRows_homeOf
  rw [bin_nI (by omega) (by decide), e6, ob_def, if_neg (show ¬ ci_2 = 0 by decide), e4, ← lI_S, spI_is rfl, ob_def, pc_eq (by omega), ob_def, ci1_nI]
  show (ob (cRows_spotAfter n (nI X) (nI (2 * (tHome T m + 1) + abN ab)) (nI m) ((nI (pc X) + nI hr) + nI 1) σ) fun q4 => some (q4.1, q4.2)) = _
  rw [nI_add, nI_add, k1, ob_def, tr_paid]
theorem c_leftE {n s X m : Nat} {σ : bS} (h : σ.1 59 10 = nI s) (hs : s < 128) (hX : X < 128) (hm : m < 7) : cRows_isLeft n (nI m) (nI X) σ = some (if (s.testBit m && !X.testBit m) = true then 1 else 0, σ) := by
  unfold cRows_isLeft cRows_isLeft_b20
  have e : (nI s &&& (nI X ^^^ ci_m1)) &&& (ci_1 <<< (nI m &&& 31)) = nI ((s ^^^ (s &&& X)) &&& 2 ^ m) := by
    rw [off_eq, ci1_1, one_shl (by omega), nI_and]
  have hb : (s ^^^ (s &&& X)).testBit m = (s.testBit m && !X.testBit m) := by
    rw [Nat.testBit_xor, Nat.testBit_and]
    cases s.testBit m <;> cases X.testBit m <;> rfl
  have hlt : (s ^^^ (s &&& X)) &&& 2 ^ m ≤ s ^^^ (s &&& X) := Nat.and_le_left
  have hlt2 := off_lt (z := X) hs
  rw [sI_d, h, e]
  by_cases z : (s.testBit m && !X.testBit m) = true
  · rw [if_neg (fun u => by
      have u := nI_inj (by omega) (by decide) (u.trans (show (0 : Int32) = nI 0 from rfl))
      have v := congrArg (fun w => w.testBit m) u
      simp only [Nat.testBit_and, Nat.testBit_two_pow, Nat.zero_testBit, hb, z, decide_true, Bool.and_self] at v
      cases v), if_pos z]
    rfl
  · have q : (s ^^^ (s &&& X)) &&& 2 ^ m = 0 := by
      apply Nat.eq_of_testBit_eq
      intro j
      rw [Nat.testBit_and, Nat.testBit_two_pow, Nat.zero_testBit]
      by_cases y : m = j
      · subst y
        rw [hb]
        cases v : (s.testBit m && !X.testBit m)
        · rfl
        · exact absurd v z
      · rw [decide_eq_false y, Bool.and_false]
    rw [q, if_pos (show (nI 0 : Int32) = 0 from rfl), if_neg z]
    rfl
theorem c_subE {n s X : Nat} {σ : bS} (h : σ.1 59 10 = nI s) (hX : X < 2 ^ 31) : cRows_isSubset n (nI X) σ = some (if (s &&& X) = X then 1 else 0, σ) := by
  unfold cRows_isSubset cRows_isSubset_b16
  rw [sI_d, h]
  by_cases e : (s &&& X) = X
  · rw [if_pos (sub_off ((sub_iff s X).mp e)), if_pos e]; rfl
  · rw [if_neg (fun q => e ((sub_iff s X).mpr (off_sub hX q))), if_neg e]; rfl
theorem or_eq {X m : Nat} (hm : m < 7) : nI X ||| (ci_1 <<< (nI m &&& 31)) = nI (X ||| 2 ^ m) := by rw [ci1_1, one_shl (by omega), nI_or]
