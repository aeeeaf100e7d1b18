/-! ORDERS: the class's counts; what stays is the sum over the cells to come of count times completions -/
def psh (O : Nat → Nat) (a : Nat) (tg : Nat → Option Nat) : Nat → Nat → Nat
  | 0, i => O i
  | m + 1, i => match tg m with
    | none => psh O a tg m i
    | some i0 => if i = i0 then psh O a tg m i + O a else psh O a tg m i
def oU (U : Nat → Nat) (o : Option Nat) : Nat := match o with
  | none => 0
  | some i => U i
theorem psh_w {O U : Nat → Nat} {a N : Nat} {tg : Nat → Option Nat} : ∀ j, (∀ m, m < j → ∀ i0, tg m = some i0 → i0 < N) → sm (fun i => psh O a tg j i * U i) N = sm (fun i => O i * U i) N + O a * sm (fun m => oU U (tg m)) j
  | 0, _ => by
    show sm (fun i => O i * U i) N = sm (fun i => O i * U i) N + O a * 0
    omega
  | j + 1, h => by
    have ih := psh_w (O := O) (U := U) (a := a) (tg := tg) j (fun m hm => h m (by omega))
    have es : sm (fun m => oU U (tg m)) (j + 1) = sm (fun m => oU U (tg m)) j + oU U (tg j) := rfl
    rw [es, Nat.mul_add, ← Nat.add_assoc, ← ih]
    cases e : tg j with
    | none =>
      show _ = sm (fun i => psh O a tg j i * U i) N + O a * 0
      rw [Nat.mul_zero, Nat.add_zero]
      refine sm_congr N (fun i hi => ?_)
      show psh O a tg (j + 1) i * U i = _
      rw [psh, e]
    | some i0 =>
      show _ = _ + O a * U i0
      refine sm_upd (l0 := i0) N (h j (by omega) i0 e) (fun i hi ne => ?_) ?_
      · show psh O a tg j i * U i = psh O a tg (j + 1) i * U i
        rw [psh, e]
        show _ = (if i = i0 then _ else _) * U i
        rw [if_neg ne]
      · show psh O a tg (j + 1) i0 * U i0 = psh O a tg j i0 * U i0 + O a * U i0
        rw [psh, e]
        show (if i0 = i0 then psh O a tg j i0 + O a else _) * U i0 = _
        rw [if_pos rfl, Nat.add_mul]
theorem psh_a {O : Nat → Nat} {a : Nat} {tg : Nat → Option Nat} (h : ∀ m i0, tg m = some i0 → ¬ a = i0) : ∀ j, psh O a tg j a = O a
  | 0 => rfl
  | j + 1 => by
    rw [psh]
    cases e : tg j with
    | none => exact psh_a h j
    | some i0 =>
      show (if a = i0 then _ else _) = _
      rw [if_neg (h j i0 e)]
      exact psh_a h j
theorem psh_pos {O : Nat → Nat} {a : Nat} {tg : Nat → Option Nat} {Q : Nat → Prop} (h0 : ∀ i, ¬ O i = 0 → Q i) (h1 : ∀ m i0, tg m = some i0 → Q i0) : ∀ j i, ¬ psh O a tg j i = 0 → Q i
  | 0, i, z => h0 i z
  | j + 1, i, z => by
    rw [psh] at z
    cases e : tg j with
    | none =>
      rw [e] at z
      exact psh_pos h0 h1 j i z
    | some i0 =>
      rw [e] at z
      have z : ¬ (if i = i0 then psh O a tg j i + O a else psh O a tg j i) = 0 := z
      by_cases y : i = i0
      · rw [y]
        exact h1 j i0 e
      · rw [if_neg y] at z
        exact psh_pos h0 h1 j i z
/-- from a cell on -/
abbrev cut (U : Nat → Nat) (a : Nat) : Nat → Nat := fun i => if i < a then 0 else U i
def PH (U O : Nat → Nat) (a N : Nat) : Nat := sm (fun i => O i * cut U a i) N
theorem PH_out {U O : Nat → Nat} {a N : Nat} (ha : a < N) : PH U O a N = PH U O (a + 1) N + O a * U a := by
  unfold PH
  refine sm_upd (l0 := a) N ha (fun i hi ne => ?_) ?_
  · show O i * (if i < a + 1 then 0 else U i) = O i * (if i < a then 0 else U i)
    by_cases z : i < a
    · rw [if_pos z, if_pos (by omega)]
    · rw [if_neg z, if_neg (by omega)]
  · show O a * (if a < a then 0 else U a) = O a * (if a < a + 1 then 0 else U a) + O a * U a
    rw [if_neg (by omega), if_pos (by omega), Nat.mul_zero, Nat.zero_add]
theorem PH_push {U O : Nat → Nat} {a N : Nat} {tg : Nat → Option Nat} (h : ∀ m, m < 7 → ∀ i0, tg m = some i0 → i0 < N ∧ a < i0) : PH U (psh O a tg 7) (a + 1) N = PH U O (a + 1) N + O a * sm (fun m => oU U (tg m)) 7 := by
  unfold PH
  rw [psh_w 7 (fun m hm i0 e => (h m hm i0 e).1)]
  congr 2
  refine sm_congr 7 (fun m hm => ?_)
  cases e : tg m with
  | none => rfl
  | some i0 =>
    show (if i0 < a + 1 then 0 else U i0) = U i0
    rw [if_neg (by have := (h m hm i0 e).2; omega)]
theorem sm_split (f : Nat → Nat) (a : Nat) : ∀ w, sm f (a + w) = sm f a + sm (fun k => f (a + k)) w
  | 0 => rfl
  | w + 1 => by
    rw [← Nat.add_assoc, sm, sm_split f a w, sm, Nat.add_assoc]
theorem sm_mono {f g : Nat → Nat} : ∀ n, (∀ k, k < n → f k ≤ g k) → sm f n ≤ sm g n
  | 0, _ => Nat.le_refl _
  | n + 1, h => by
    rw [sm, sm]
    have := sm_mono (f := f) (g := g) n (fun k hk => h k (by omega))
    have := h n (by omega)
    omega
theorem pc_sub {X s : Nat} (hX : X < 128) (hs : s < 128) (h : (s &&& X) = X) : pc X ≤ pc s := by
  rw [← ones_pc ⟨X, hX⟩, ← ones_pc ⟨s, hs⟩]
  refine sm_mono 7 (fun k _ => ?_)
  show (if X.testBit k = true then 1 else 0) ≤ (if s.testBit k = true then 1 else 0)
  by_cases z : X.testBit k = true
  · rw [if_pos z, if_pos ((sub_iff s X).mp h k z)]
    omega
  · rw [if_neg z]
    omega
theorem sub_or {s X m : Nat} (h : (s &&& X) = X) (hm : s.testBit m = true) : (s &&& (X ||| 2 ^ m)) = X ||| 2 ^ m := by
  rw [sub_iff] at h ⊢
  intro j hj
  rw [Nat.testBit_or, Nat.testBit_two_pow] at hj
  by_cases z : m = j
  · subst z
    exact hm
  · rw [decide_eq_false z, Bool.or_false] at hj
    exact h j hj
theorem or_gt {X m : Nat} (h : X.testBit m = false) : X < X ||| 2 ^ m := by
  have le : X ≤ X ||| 2 ^ m := Nat.left_le_or
  have ne : ¬ X = X ||| 2 ^ m := fun e => by
    have := congrArg (fun w => w.testBit m) e
    simp only [Nat.testBit_or, Nat.testBit_two_pow, h, decide_true, Bool.or_true] at this
    cases this
  omega
theorem sub_strict {s X : Nat} (hs : s < 128) (h : (s &&& X) = X) (ne : X < s) : pc X + 1 ≤ pc s := by
  have ex : ∃ m, m < 7 ∧ s.testBit m = true ∧ X.testBit m = false := by
    apply Classical.byContradiction
    intro no
    have : X = s := by
      apply Nat.eq_of_testBit_eq
      intro j
      by_cases z : j < 7
      · cases p : s.testBit j
        · cases q : X.testBit j
          · rfl
          · rw [(sub_iff s X).mp h j q] at p
            cases p
        · cases q : X.testBit j
          · exact absurd ⟨j, z, p, q⟩ no
          · rfl
      · rw [Nat.testBit_lt_two_pow (Nat.lt_of_lt_of_le (show X < 2 ^ 7 by omega) (Nat.pow_le_pow_right (by decide) (by omega))), Nat.testBit_lt_two_pow (Nat.lt_of_lt_of_le (show s < 2 ^ 7 by omega) (Nat.pow_le_pow_right (by decide) (by omega)))]
    omega
  obtain ⟨m, m1, m2, m3⟩ := ex
  rw [← pc_or (by omega) m1 m3]
  exact pc_sub (or128 (by omega) m1) hs (sub_or h m2)
/-- completions from a cell -/
noncomputable def vC (ho : Nat → Nat) (W : Nat → Nat → Nat → Nat) (s : Nat) : Nat → Nat := fun i => if (s &&& i / 14) = i / 14 then cV ho W s (pc s - pc (i / 14)) (i / 14) (i % 14 / 2) (decide (i % 14 % 2 = 1)) else 0
def vB : Nat → Nat := fun i => 7 ^ (7 - pc (i / 14))
noncomputable def tgO (ho : Nat → Nat) (W : Nat → Nat → Nat → Nat) (s X la : Nat) (ab : Bool) : Nat → Option Nat := fun m => if (s.testBit m && !X.testBit m) = true then (match tr ho W X la ab m false (pc X) with | none => none | some (la', ab') => some (14 * (X ||| 2 ^ m) + (2 * la' + abN ab'))) else none
theorem vC_at {ho : Nat → Nat} {W : Nat → Nat → Nat → Nat} {s X la : Nat} {ab : Bool} (hla : la ≤ 6) (h : (s &&& X) = X) : vC ho W s (14 * X + (2 * la + abN ab)) = cV ho W s (pc s - pc X) X la ab := by
  have a1 := abN_le ab
  unfold vC
  rw [show (14 * X + (2 * la + abN ab)) / 14 = X by omega, show (14 * X + (2 * la + abN ab)) % 14 = 2 * la + abN ab by omega, if_pos h, show (2 * la + abN ab) / 2 = la by omega]
  congr 1
  cases ab
  · exact decide_eq_false (show ¬ (2 * la + 0) % 2 = 1 by omega)
  · exact decide_eq_true (show (2 * la + 1) % 2 = 1 by omega)
/-- a cell's completions are those of the cells it leads to -/
theorem vC_sum {ho : Nat → Nat} {W : Nat → Nat → Nat → Nat} {s X la : Nat} {ab : Bool} (hs : s < 128) (hla : la ≤ 6) (h : (s &&& X) = X) (ne : X < s) (ht : ∀ m la' ab', (s.testBit m && !X.testBit m) = true → tr ho W X la ab m false (pc X) = some (la', ab') → la' ≤ 6) : vC ho W s (14 * X + (2 * la + abN ab)) = sm (fun m => oU (vC ho W s) (tgO ho W s X la ab m)) 7 := by
  have st := sub_strict hs h ne
  rw [vC_at hla h, show pc s - pc X = (pc s - pc X - 1) + 1 by omega, cV_S]
  refine sm_congr 7 (fun m hm => ?_)
  unfold tgO
  by_cases z : (s.testBit m && !X.testBit m) = true
  · rw [if_pos z, if_pos z]
    have z2 := Bool.and_eq_true_iff.mp z
    have xf : X.testBit m = false := by
      have := z2.2
      cases q : X.testBit m
      · rfl
      · rw [q] at this
        cases this
    cases e : tr ho W X la ab m false (pc X) with
    | none => rfl
    | some o =>
      obtain ⟨la', ab'⟩ := o
      show cV ho W s (pc s - pc X - 1) (X ||| 2 ^ m) la' ab' = vC ho W s (14 * (X ||| 2 ^ m) + (2 * la' + abN ab'))
      rw [vC_at (ht m la' ab' z e) (sub_or h z2.1), pc_or (by omega) hm xf]
      congr 1
  · rw [if_neg z, if_neg z]
    rfl
theorem vB_sum {ho : Nat → Nat} {W : Nat → Nat → Nat → Nat} {s X la : Nat} {ab : Bool} (hX : X < 128) (hla : la ≤ 6) (ht : ∀ m la' ab', (s.testBit m && !X.testBit m) = true → tr ho W X la ab m false (pc X) = some (la', ab') → la' ≤ 6) : sm (fun m => oU vB (tgO ho W s X la ab m)) 7 ≤ vB (14 * X + (2 * la + abN ab)) := by
  have a1 := abN_le ab
  have ev : vB (14 * X + (2 * la + abN ab)) = 7 ^ (7 - pc X) := by
    unfold vB
    rw [show (14 * X + (2 * la + abN ab)) / 14 = X by omega]
  rw [ev]
  by_cases z : ∃ m, m < 7 ∧ X.testBit m = false
  · obtain ⟨m0, m1, m2⟩ := z
    have p1 := pc_or hX m1 m2
    have p2 := pc_le (s := X ||| 2 ^ m0)
    have b := sm_le (f := fun m => oU vB (tgO ho W s X la ab m)) (c := 7 ^ (6 - pc X)) 7 (fun m hm => by
      show oU vB (tgO ho W s X la ab m) ≤ _
      unfold tgO
      by_cases y : (s.testBit m && !X.testBit m) = true
      · rw [if_pos y]
        have y2 := (Bool.and_eq_true_iff.mp y).2
        have xf : X.testBit m = false := by
          cases q : X.testBit m
          · rfl
          · rw [q] at y2
            cases y2
        cases e : tr ho W X la ab m false (pc X) with
        | none => exact Nat.zero_le _
        | some o =>
          obtain ⟨la', ab'⟩ := o
          have l6 := ht m la' ab' y e
          have a2 := abN_le ab'
          show vB (14 * (X ||| 2 ^ m) + (2 * la' + abN ab')) ≤ _
          unfold vB
          rw [show (14 * (X ||| 2 ^ m) + (2 * la' + abN ab')) / 14 = X ||| 2 ^ m by omega, pc_or hX hm xf, show 7 - (pc X + 1) = 6 - pc X by omega]
          exact Nat.le_refl _
      · rw [if_neg y]
        exact Nat.zero_le _)
    rw [show 7 - pc X = (6 - pc X) + 1 by omega, Nat.pow_succ]
    exact b
  · refine Nat.le_trans (Nat.le_of_eq (sm_zero 7 (fun m hm => ?_))) (Nat.zero_le _)
    show oU vB (tgO ho W s X la ab m) = 0
    unfold tgO
    have : X.testBit m = true := by
      cases q : X.testBit m
      · exact absurd ⟨m, hm, q⟩ z
      · rfl
    rw [this, if_neg (by cases s.testBit m <;> decide)]
    rfl
/-! the class's steps -/
def KO (O : Nat → Nat) (σ : bS) : Prop := ∀ a, a < 1792 → σ.2.1 61 a = nI (O a)
abbrev fr61 (σ σ' : bS) : Prop := frC (fun a => a = 61) σ σ'
theorem c_push_l {T : aT} {L : aL} {n b h s l0 c X la : Nat} {ab : Bool} {G : aG} {O : Nat → Nat} (hn : 20 ≤ n) (hI : InvT T L) (hs : s < 2 ^ tM T) (hX : X < 2 ^ tM T) (hXs : pc X < pc s * c) (hc : 1 ≤ c) (hla : la ≤ tB T) (hl : l0 = 0 ∨ 1 ≤ la) : ∀ (k j : Nat) (σ : bS), CT T L σ → Prep T L G b h s l0 c σ → KO (psh O (14 * X + (2 * la + abN ab)) (tgO (tHome T) (wN T L G h) s X la ab) j) σ → j ≤ 7 → 7 < j + k → ∃ σ', cRows_passOrdersOn_b2 n k (nI X) (nI (2 * la + abN ab)) (nI j) σ = some σ' ∧ KO (psh O (14 * X + (2 * la + abN ab)) (tgO (tHome T) (wN T L G h) s X la ab) 7) σ' ∧ fr61 σ σ'
  | 0, j, σ, hT, hP, H, h1, h2 => by omega
  | k + 1, j, σ, hT, hP, H, h1, h2 => by
    have hM := hI.2.2.2.1
    have hB := hI.1
    have h7 : (2 : Nat) ^ tM T ≤ 2 ^ 7 := Nat.pow_le_pow_right (by decide) hM
    have a1 := abN_le ab
    rw [cRows_passOrdersOn_b2, cb7_nI]
    by_cases hj : j < 7
    · rw [if_neg (nI_ge hj (by omega)), c_leftE hP.1 (by omega) (by omega) hj, ob_def]
      have skip : tgO (tHome T) (wN T L G h) s X la ab j = none → ∃ σ', cRows_passOrdersOn_b32 n (cRows_passOrdersOn_b2 n k) (nI X) (nI (2 * la + abN ab)) (nI j) (-1) σ = some σ' ∧ KO (psh O (14 * X + (2 * la + abN ab)) (tgO (tHome T) (wN T L G h) s X la ab) 7) σ' ∧ fr61 σ σ' := fun e => by
        rw [cRows_passOrdersOn_b32, if_pos (show (-1 : Int32) < 0 by decide), cRows_passOrdersOn_b69, ci1_nI, nI_add]
        refine c_push_l hn hI hs hX hXs hc hla hl k (j + 1) σ hT hP (fun i hi => ?_) hj (by omega)
        rw [psh, e]
        exact H i hi
      by_cases z : (s.testBit j && !X.testBit j) = true
      · have z2 := Bool.and_eq_true_iff.mp z
        have xf : X.testBit j = false := by
          have := z2.2
          cases q : X.testBit j
          · rfl
          · rw [q] at this
            cases this
        have hjm := bit_lt hs z2.1
        have p7 := pc_le (s := X)
        obtain ⟨k1, k2⟩ := c_after (n := n) (ab := ab) (t := pc X) hn hI hT hP hX hjm z2.1 hla hl (by omega) hXs
        rw [if_pos z]
        simp only [if_neg one_ne]
        rw [pc_eq (by omega), ob_def]
        show ∃ σ', (ob (cRows_spotAfter n (nI X) (nI (2 * la + abN ab)) (nI j) (nI (pc X)) σ) fun q3 => cRows_passOrdersOn_b32 n (cRows_passOrdersOn_b2 n k) (nI X) (nI (2 * la + abN ab)) (nI j) q3.1 q3.2) = _ ∧ _
        rw [k1, ob_def]
        cases e : tr (tHome T) (wN T L G h) X la ab j false (pc X) with
        | none =>
          refine skip ?_
          unfold tgO
          rw [if_pos z, e]
        | some o =>
          obtain ⟨la', ab'⟩ := o
          obtain ⟨l1, l2⟩ := k2 la' ab' e
          have a2 := abN_le ab'
          have et : tgO (tHome T) (wN T L G h) s X la ab j = some (14 * (X ||| 2 ^ j) + (2 * la' + abN ab')) := by
            unfold tgO
            rw [if_pos z, e]
          have xlt : X ||| 2 ^ j < 128 := or128 (by omega) hj
          have gt := or_gt xf
          have ea : psh O (14 * X + (2 * la + abN ab)) (tgO (tHome T) (wN T L G h) s X la ab) j (14 * X + (2 * la + abN ab)) = O (14 * X + (2 * la + abN ab)) := psh_a (fun m i0 em ea => by
            unfold tgO at em
            by_cases y : (s.testBit m && !X.testBit m) = true
            · rw [if_pos y] at em
              have y2 := (Bool.and_eq_true_iff.mp y).2
              have xm : X.testBit m = false := by
                cases q : X.testBit m
                · rfl
                · rw [q] at y2
                  cases y2
              have g2 := or_gt xm
              cases e2 : tr (tHome T) (wN T L G h) X la ab m false (pc X) with
              | none =>
                rw [e2] at em
                cases em
              | some o2 =>
                rw [e2] at em
                have em := Option.some.inj em
                have em : 14 * (X ||| 2 ^ m) + (2 * o2.1 + abN o2.2) = i0 := em
                omega
            · rw [if_neg y] at em
              cases em) j
          show ∃ σ', cRows_passOrdersOn_b32 n (cRows_passOrdersOn_b2 n k) (nI X) (nI (2 * la + abN ab)) (nI j) (nI (2 * la' + abN ab')) σ = _ ∧ _
          unfold cRows_passOrdersOn_b32
          rw [if_neg (nI_pos (by omega)), or_eq hj, cb_14_n, nI_mul, nI_mul, nI_add, nI_add, show (X ||| 2 ^ j) * 14 + (2 * la' + abN ab') = 14 * (X ||| 2 ^ j) + (2 * la' + abN ab') by omega, show X * 14 + (2 * la + abN ab) = 14 * X + (2 * la + abN ab) by omega, bin_nI (by omega) (by decide), bin_nI (by omega) (by decide), bin_nI (by omega) (by decide), sA_n _ _ (by omega), sA_n _ _ (by omega), H _ (by omega), H _ (by omega), ea, nI_add, cRows_passOrdersOn_b69, ci1_nI, nI_add]
          have f1 : fr61 σ (uA σ 61 (nI (14 * (X ||| 2 ^ j) + (2 * la' + abN ab'))) (nI (psh O (14 * X + (2 * la + abN ab)) (tgO (tHome T) (wN T L G h) s X la ab) j (14 * (X ||| 2 ^ j) + (2 * la' + abN ab')) + O (14 * X + (2 * la + abN ab))))) := frC.uA rfl
          obtain ⟨σ2, d1, d2, d3⟩ := c_push_l (n := n) hn hI hs hX hXs hc hla hl k (j + 1) _ (hT.fr f1 (fun a x y => by omega)) (hP.fr f1 (by decide) (by decide)) (fun i hi => by
            rw [uA_2, nI_clamp (by omega), psh, et]
            show _ = nI (if i = 14 * (X ||| 2 ^ j) + (2 * la' + abN ab') then _ else _)
            by_cases y : i = 14 * (X ||| 2 ^ j) + (2 * la' + abN ab')
            · rw [if_pos ⟨rfl, y⟩, if_pos y, y]
            · rw [if_neg (fun u => y u.2), if_neg y]
              exact H i hi) hj (by omega)
          exact ⟨σ2, d1, d2, f1.trans d3⟩
      · rw [if_neg z]
        simp only [if_true]
        rw [cim1]
        refine skip ?_
        unfold tgO
        rw [if_neg z]
    · have e : j = 7 := by omega
      subst e
      rw [if_pos (Int32.le_refl _)]
      exact ⟨σ, rfl, H, frC.rf⟩
/-- what holds ahead of a cell: the sum, a bound, and which cells are reached -/
def OI (T : aT) (L : aL) (G : aG) (h s l0 a : Nat) (O : Nat → Nat) : Prop := PH (vC (tHome T) (wN T L G h) s) O a 1792 = cV (tHome T) (wN T L G h) s (pc s) 0 l0 false ∧ PH vB O a 1792 ≤ 823543 ∧ ∀ i, i < 1792 → ¬ O i = 0 → i % 14 / 2 ≤ tB T ∧ (l0 = 0 ∨ 1 ≤ i % 14 / 2)
theorem OI.small {T : aT} {L : aL} {G : aG} {h s l0 a : Nat} {O : Nat → Nat} (H : OI T L G h s l0 a O) {i : Nat} (h1 : a ≤ i) (h2 : i < 1792) : O i ≤ 823543 := by
  have q := sm_ge (f := fun i => O i * cut vB a i) 1792 i h2
  have q : O i * (if i < a then 0 else vB i) ≤ PH vB O a 1792 := q
  rw [if_neg (by omega)] at q
  have v1 : 1 ≤ vB i := Nat.pow_pos (by decide)
  have := H.2.1
  have : O i * 1 ≤ O i * vB i := Nat.mul_le_mul_left _ v1
  omega
theorem OI.skip {T : aT} {L : aL} {G : aG} {h s l0 a : Nat} {O : Nat → Nat} (H : OI T L G h s l0 a O) (ha : a < 1792) (z : O a = 0 ∨ ¬ (s &&& a / 14) = a / 14) : OI T L G h s l0 (a + 1) O := by
  obtain ⟨h1, h2, h3⟩ := H
  have v0 : O a * vC (tHome T) (wN T L G h) s a = 0 := by
    rcases z with z | z
    · rw [z, Nat.zero_mul]
    · rw [show vC (tHome T) (wN T L G h) s a = 0 from if_neg z, Nat.mul_zero]
  refine ⟨?_, ?_, h3⟩
  · have := PH_out (U := vC (tHome T) (wN T L G h) s) (O := O) ha
    rw [← h1]
    omega
  · have := PH_out (U := vB) (O := O) ha
    omega
theorem c_spots_l {T : aT} {L : aL} {n b h s l0 X : Nat} {G : aG} {r24 : Int32 → bS → Option (Int32 × bS)} (hn : 20 ≤ n) (hI : InvT T L) (hs : s < 2 ^ tM T) (hXs : X < s) : ∀ (k j : Nat) (σ : bS) (O : Nat → Nat), CT T L σ → Prep T L G b h s l0 1 σ → KO O σ → OI T L G h s l0 (14 * X + j) O → j ≤ 14 → 14 < j + k → ∃ σ' O', cRows_countOrders_b34 n r24 k (nI X) (nI j) σ = r24 (nI (X + 1)) σ' ∧ KO O' σ' ∧ OI T L G h s l0 (14 * (X + 1)) O' ∧ fr61 σ σ' := by
  intro k
  induction k with
  | zero =>
    intro j σ O hT hP H D h1 h2
    omega
  | succ k ih =>
    intro j σ O hT hP H D h1 h2
    have hM := hI.2.2.2.1
    have hB := hI.1
    have h7 : (2 : Nat) ^ tM T ≤ 2 ^ 7 := Nat.pow_le_pow_right (by decide) hM
    rw [cRows_countOrders_b34, cb_14_n]
    by_cases hj : j < 14
    · rw [if_neg (nI_ge hj (by omega)), c_subE hP.1 (by omega), ob_def]
      by_cases e : (s &&& X) = X
      · have sm1 := D.small (i := 14 * X + j) (by omega) (by omega)
        rw [if_pos e]
        simp only [if_neg one_ne]
        rw [nI_mul, nI_add, show X * 14 + j = 14 * X + j by omega, bin_nI (by omega) (by decide), sA_n _ _ (by omega), H _ (by omega)]
        by_cases z : O (14 * X + j) = 0
        · rw [z, if_pos (show (nI 0 : Int32) ≤ 0 from Int32.le_refl _), cRows_countOrders_b68, ci1_nI, nI_add]
          exact ih (j + 1) σ O hT hP H (D.skip (by omega) (Or.inl z)) (by omega) (by omega)
        · obtain ⟨v1, v2⟩ := D.2.2 (14 * X + j) (by omega) z
          rw [show (14 * X + j) % 14 = j by omega] at v1 v2
          obtain ⟨ab, eab⟩ : ∃ ab : Bool, j = 2 * (j / 2) + abN ab := by
            by_cases y : j % 2 = 1
            · exact ⟨true, by show j = 2 * (j / 2) + 1; omega⟩
            · exact ⟨false, by show j = 2 * (j / 2) + 0; omega⟩
          have st := sub_strict (by omega) e hXs
          obtain ⟨σ1, c1, c2, c3⟩ := c_push_l (n := n) (c := 1) (ab := ab) (la := j / 2) (O := O) hn hI hs (show X < 2 ^ tM T by omega) (by omega) (by omega) v1 v2 n 0 σ hT hP H (by omega) (by omega)
          rw [← eab] at c1 c2
          have ht : ∀ m la' ab', (s.testBit m && !X.testBit m) = true → tr (tHome T) (wN T L G h) X (j / 2) ab m false (pc X) = some (la', ab') → la' ≤ tB T ∧ (l0 = 0 ∨ 1 ≤ la') := fun m la' ab' zm em => by
            have z2 := (Bool.and_eq_true_iff.mp zm).1
            have p7 := pc_le (s := X)
            exact (c_after (n := n) hn hI hT hP (show X < 2 ^ tM T by omega) (bit_lt hs z2) z2 v1 v2 (by omega) (by omega)).2 la' ab' em
          have D1 : OI T L G h s l0 (14 * X + j + 1) (psh O (14 * X + j) (tgO (tHome T) (wN T L G h) s X (j / 2) ab) 7) := by
            have tgp : ∀ m, m < 7 → ∀ i0, tgO (tHome T) (wN T L G h) s X (j / 2) ab m = some i0 → i0 < 1792 ∧ 14 * X + j < i0 ∧ i0 % 14 / 2 ≤ tB T ∧ (l0 = 0 ∨ 1 ≤ i0 % 14 / 2) := fun m hm i0 em => by
              unfold tgO at em
              by_cases y : (s.testBit m && !X.testBit m) = true
              · rw [if_pos y] at em
                have y2 := (Bool.and_eq_true_iff.mp y).2
                have xm : X.testBit m = false := by
                  cases q : X.testBit m
                  · rfl
                  · rw [q] at y2
                    cases y2
                have g2 := or_gt xm
                have x8 : X ||| 2 ^ m < 128 := or128 (by omega) hm
                cases e2 : tr (tHome T) (wN T L G h) X (j / 2) ab m false (pc X) with
                | none =>
                  rw [e2] at em
                  cases em
                | some o2 =>
                  obtain ⟨la', ab'⟩ := o2
                  rw [e2] at em
                  have em : 14 * (X ||| 2 ^ m) + (2 * la' + abN ab') = i0 := Option.some.inj em
                  have a2 := abN_le ab'
                  obtain ⟨t1, t2⟩ := ht m la' ab' y e2
                  have t3 : i0 % 14 / 2 = la' := by omega
                  rw [t3]
                  exact ⟨by omega, by omega, t1, t2⟩
              · rw [if_neg y] at em
                cases em
            obtain ⟨d1, d2, d3⟩ := D
            have ev := vC_sum (ho := tHome T) (W := wN T L G h) (ab := ab) (la := j / 2) (show s < 128 by omega) (by omega) e hXs (fun m la' ab' zm em => by have := (ht m la' ab' zm em).1; omega)
            have eb := vB_sum (ho := tHome T) (W := wN T L G h) (s := s) (ab := ab) (la := j / 2) (show X < 128 by omega) (by omega) (fun m la' ab' zm em => by have := (ht m la' ab' zm em).1; omega)
            rw [← eab] at ev eb
            refine ⟨?_, ?_, psh_pos (Q := fun i => i < 1792 → i % 14 / 2 ≤ tB T ∧ (l0 = 0 ∨ 1 ≤ i % 14 / 2)) (fun i zi hi => d3 i hi zi) (fun m i0 em hi => ?_) 7 |> fun q i hi zi => q i zi hi⟩
            · rw [PH_push (fun m hm i0 em => ⟨(tgp m hm i0 em).1, (tgp m hm i0 em).2.1⟩), ← ev, ← d1]
              exact (PH_out (by omega)).symm
            · rw [PH_push (fun m hm i0 em => ⟨(tgp m hm i0 em).1, (tgp m hm i0 em).2.1⟩)]
              have o1 := PH_out (U := vB) (O := O) (a := 14 * X + j) (N := 1792) (by omega)
              have o2 : O (14 * X + j) * sm (fun m => oU vB (tgO (tHome T) (wN T L G h) s X (j / 2) ab m)) 7 ≤ O (14 * X + j) * vB (14 * X + j) := Nat.mul_le_mul_left _ eb
              omega
            · have hm7 : m < 7 := by
                by_cases y : m < 7
                · exact y
                · exfalso
                  unfold tgO at em
                  have sb : s.testBit m = false := Nat.testBit_lt_two_pow (Nat.lt_of_lt_of_le (show s < 2 ^ 7 by omega) (Nat.pow_le_pow_right (by decide) (by omega)))
                  rw [sb, Bool.false_and, if_neg Bool.false_ne_true] at em
                  cases em
              exact (tgp m hm7 i0 em).2.2
          rw [if_neg (show ¬ nI (O (14 * X + j)) ≤ 0 from nI_ge (a := 0) (by omega) (by omega)), show cRows_passOrdersOn n (nI X) (nI j) σ = some σ1 from c1, ob_def, cRows_countOrders_b68, ci1_nI, nI_add]
          obtain ⟨σ2, O2, k1, k2, k3, k4⟩ := ih (j + 1) σ1 _ (hT.fr c3 (fun a x y => by omega)) (hP.fr c3 (by decide) (by decide)) c2 D1 (by omega) (by omega)
          exact ⟨σ2, O2, k1, k2, k3, c3.trans k4⟩
      · rw [if_neg e]
        simp only [if_true]
        rw [cRows_countOrders_b74, ci1_nI, nI_add]
        have up : ∀ w, j + w ≤ 14 → OI T L G h s l0 (14 * X + (j + w)) O := fun w => by
          induction w with
          | zero => exact fun _ => D
          | succ w iw =>
            intro hw
            exact (iw (by omega)).skip (by omega) (Or.inr (by rw [show (14 * X + (j + w)) / 14 = X by omega]; exact e))
        have := up (14 - j) (by omega)
        rw [show 14 * X + (j + (14 - j)) = 14 * (X + 1) by omega] at this
        exact ⟨σ, O, rfl, H, this, frC.rf⟩
    · have e : j = 14 := by omega
      subst e
      rw [if_pos (Int32.le_refl _), cRows_countOrders_b74, ci1_nI, nI_add]
      exact ⟨σ, O, rfl, H, by rw [show 14 * (X + 1) = 14 * X + 14 by omega]; exact D, frC.rf⟩
theorem c_fin_l {n s : Nat} {O : Nat → Nat} {σ : bS} (hs : s < 128) (h59 : σ.1 59 10 = nI s) (H : KO O σ) : ∀ (k j : Nat), j ≤ 7 → 7 < j + k → cRows_countOrders_b84 n k (nI (sm (fun i => O (14 * s + 2 * i)) j)) (nI (2 * j)) σ = some (nI (sm (fun i => O (14 * s + 2 * i)) 7), σ)
  | 0, j, h1, h2 => by omega
  | k + 1, j, h1, h2 => by
    have e10 : sI σ 59 10 = nI s := h59
    rw [cRows_countOrders_b84, cb_14_n]
    by_cases hj : j < 7
    · rw [if_neg (nI_ge (show 2 * j < 14 by omega) (by omega)), e10, nI_mul, nI_add, show s * 14 + 2 * j = 14 * s + 2 * j by omega, bin_nI (by omega) (by decide), sA_n _ _ (by omega), H _ (by omega), nI_add, ci_2_n, nI_add, show 2 * j + 2 = 2 * (j + 1) by omega]
      exact c_fin_l hs h59 H k (j + 1) hj (by omega)
    · have e : j = 7 := by omega
      subst e
      rw [if_pos (show nI 14 ≤ nI (2 * 7) from Int32.le_refl _)]
theorem OI.fin {T : aT} {L : aL} {G : aG} {h s l0 : Nat} {O : Nat → Nat} (hs : s < 128) (D : OI T L G h s l0 (14 * s) O) : sm (fun i => O (14 * s + 2 * i)) 7 = cV (tHome T) (wN T L G h) s (pc s) 0 l0 false := by
  rw [← D.1]
  unfold PH
  rw [show 1792 = 14 * s + (14 + (1792 - 14 * s - 14)) by omega, sm_split, sm_split]
  have z1 : sm (fun i => O i * cut (vC (tHome T) (wN T L G h) s) (14 * s) i) (14 * s) = 0 := sm_zero _ (fun i hi => by
    show O i * (if i < 14 * s then 0 else _) = 0
    rw [if_pos hi, Nat.mul_zero])
  have z3 : sm (fun k => O (14 * s + (14 + k)) * cut (vC (tHome T) (wN T L G h) s) (14 * s) (14 * s + (14 + k))) (1792 - 14 * s - 14) = 0 := sm_zero _ (fun i hi => by
    have : vC (tHome T) (wN T L G h) s (14 * s + (14 + i)) = 0 := if_neg (fun u => by have := sb_le u; omega)
    show O _ * (if _ then 0 else vC (tHome T) (wN T L G h) s (14 * s + (14 + i))) = 0
    rw [this]
    split <;> rw [Nat.mul_zero])
  have z3' : sm (fun k => (fun k => O (14 * s + k) * cut (vC (tHome T) (wN T L G h) s) (14 * s) (14 * s + k)) (14 + k)) (1792 - 14 * s - 14) = 0 := z3
  rw [z1, z3', Nat.zero_add, Nat.add_zero]
  have val : ∀ i, i < 14 → cut (vC (tHome T) (wN T L G h) s) (14 * s) (14 * s + i) = if i % 2 = 0 then 1 else 0 := fun i hi => by
    show (if 14 * s + i < 14 * s then 0 else vC (tHome T) (wN T L G h) s (14 * s + i)) = _
    rw [if_neg (by omega)]
    unfold vC
    rw [show (14 * s + i) / 14 = s by omega, show (14 * s + i) % 14 = i by omega, if_pos (Nat.and_self s), Nat.sub_self, cV_0]
    by_cases y : i % 2 = 0
    · rw [if_pos y, if_pos (decide_eq_false (by omega))]
    · rw [if_neg y, if_neg (by rw [decide_eq_true (show i % 2 = 1 by omega)]; decide)]
  rw [sm_congr (f := fun k => O (14 * s + k) * cut (vC (tHome T) (wN T L G h) s) (14 * s) (14 * s + k)) (g := fun k => O (14 * s + k) * (if k % 2 = 0 then 1 else 0)) 14 (fun i hi => by
    show O (14 * s + i) * cut (vC (tHome T) (wN T L G h) s) (14 * s) (14 * s + i) = _
    rw [val i hi])]
  simp [sm]
theorem c_cross_l {T : aT} {L : aL} {n b h s l0 : Nat} {G : aG} {σ0 : bS} (hn : 20 ≤ n) (hI : InvT T L) (hs : s < 2 ^ tM T) : ∀ (k X : Nat) (σ : bS) (O : Nat → Nat), CT T L σ → Prep T L G b h s l0 1 σ → KO O σ → OI T L G h s l0 (14 * X) O → fr61 σ0 σ → X ≤ s → s < X + k → ∃ σ', cRows_countOrders_b24 n k (nI X) σ = some (nI (cV (tHome T) (wN T L G h) s (pc s) 0 l0 false), σ') ∧ fr61 σ0 σ' := by
  intro k
  induction k with
  | zero =>
    intro X σ O hT hP H D f h1 h2
    omega
  | succ k ih =>
    intro X σ O hT hP H D f h1 h2
    have hM := hI.2.2.2.1
    have h7 : (2 : Nat) ^ tM T ≤ 2 ^ 7 := Nat.pow_le_pow_right (by decide) hM
    have e10 : sI σ 59 10 = nI s := hP.1
    rw [cRows_countOrders_b24, e10]
    by_cases hX : X < s
    · obtain ⟨σ1, O1, c1, c2, c3, c4⟩ := c_spots_l (n := n) (r24 := cRows_countOrders_b24 n k) hn hI hs hX n 0 σ O hT hP H D (by omega) (by omega)
      rw [if_neg (nI_ge hX (by omega)), show cRows_countOrders_b34 n (cRows_countOrders_b24 n k) n (nI X) ci_0 σ = _ from c1]
      exact ih (X + 1) σ1 O1 (hT.fr c4 (fun a x y => by omega)) (hP.fr c4 (by decide) (by decide)) c2 c3 (f.trans c4) (by omega) (by omega)
    · have e : X = s := by omega
      subst e
      rw [if_pos (Int32.le_refl _)]
      have q := c_fin_l (n := n) (show X < 128 by omega) hP.1 H n 0 (by omega) (by omega)
      rw [D.fin (by omega)] at q
      exact ⟨σ, q, f⟩
theorem c_count {T : aT} {L : aL} {n b h s l0 : Nat} {G : aG} {σ : bS} (hn : 2000 ≤ n) (hI : InvT T L) (hs0 : 0 < s) (hs : s < 2 ^ tM T) (hT : CT T L σ) (hP : Prep T L G b h s l0 1 σ) : ∃ σ', cRows_countOrders n σ = some (nI (cV (tHome T) (wN T L G h) s (pc s) 0 l0 false), σ') ∧ fr61 σ σ' := by
  have hM := hI.2.2.2.1
  have hB := hI.1
  have h7 : (2 : Nat) ^ tM T ≤ 2 ^ 7 := Nat.pow_le_pow_right (by decide) hM
  have hl0 := hP.2.2.2.2.1
  obtain ⟨σ1, a1, a2, a3⟩ := f_fill_61 (n := n) (by omega) ci_0 σ
  have e12 : sI σ1 59 12 = lI l0 := by
    rw [sI_d, (a3 59 (by decide)).1]
    exact hP.2.2.1.trans hP.2.2.2.1
  have f2 : fr61 σ (uA σ1 61 (nI (2 * l0 + abN false)) ci_1) := frCaA a3 rfl
  have one : ∀ U : Nat → Nat, PH U (fun i => if i = 2 * l0 then 1 else 0) (14 * 0) 1792 = U (2 * l0) := fun U => by
    unfold PH
    have : sm (fun i => (if i = 2 * l0 then 1 else 0) * cut U (14 * 0) i) 1792 = sm (fun _ => 0) 1792 + U (2 * l0) := sm_upd (l0 := 2 * l0) 1792 (by omega) (fun i hi ne => by
      show 0 = (if i = 2 * l0 then 1 else 0) * cut U (14 * 0) i
      rw [if_neg ne, Nat.zero_mul]) (by
      show (if 2 * l0 = 2 * l0 then 1 else 0) * (if 2 * l0 < 14 * 0 then 0 else U (2 * l0)) = 0 + U (2 * l0)
      rw [if_pos rfl, if_neg (by omega), Nat.one_mul, Nat.zero_add])
    rw [this, sm_zero 1792 (fun _ _ => rfl), Nat.zero_add]
  obtain ⟨σ2, c1, c2⟩ := c_cross_l (n := n) (l0 := l0) (σ0 := σ) (by omega) hI hs n 0 (uA σ1 61 (nI (2 * l0 + abN false)) ci_1) (fun i => if i = 2 * l0 then 1 else 0) (hT.fr f2 (fun a x y => by omega)) (hP.fr f2 (by decide) (by decide)) (fun i hi => by
    rw [uA_2, nI_clamp (show 2 * l0 + abN false < 2 ^ 31 by have := abN_le false; omega)]
    show _ = nI (if i = 2 * l0 then 1 else 0)
    by_cases z : i = 2 * l0
    · rw [if_pos ⟨rfl, z⟩, if_pos z]
      rfl
    · rw [if_neg (fun u => z u.2), if_neg z, a2 i hi]
      rfl) ⟨by
      rw [one]
      have := vC_at (ho := tHome T) (W := wN T L G h) (s := s) (X := 0) (la := l0) (ab := false) (by omega) (Nat.and_zero s)
      rw [show 14 * 0 + (2 * l0 + abN false) = 2 * l0 by show 14 * 0 + (2 * l0 + 0) = 2 * l0; omega] at this
      rw [this]
      rfl, by
      rw [one]
      unfold vB
      rw [show 2 * l0 / 14 = 0 by omega]
      decide, fun i hi zi => by
      have zi : ¬ (if i = 2 * l0 then 1 else 0) = 0 := zi
      by_cases z : i = 2 * l0
      · rw [z, show 2 * l0 % 14 / 2 = l0 by omega]
        exact ⟨hl0, by omega⟩
      · rw [if_neg z] at zi
        exact absurd rfl zi⟩ f2 (by omega) (by omega)
  refine ⟨σ2, ?_, c2⟩
  unfold cRows_countOrders
  rw [a1, ob_def, e12, spI_is (ab := false) (x := ci_0) rfl, ob_def]
  show bin_ (nI (2 * l0 + abN false)) 1792 (cRows_countOrders_b24 n n ci_0 (uA σ1 61 (nI (2 * l0 + abN false)) ci_1)) = _
  rw [bin_nI (show 2 * l0 + abN false < 1792 by have := abN_le false; omega) (by decide)]
  exact c1
