/-! ORDERS and WISHERS: rows as lists; the state is LAST (0: none), whether those who crossed are ON the bridge, who crossed (bits), how many were hired -/
noncomputable def tr (ho : Nat → Nat) (W : Nat → Nat → Nat → Nat) (X la : Nat) (ab : Bool) (m : Nat) (d : Bool) (t : Nat) : Option (Nat × Bool) :=
  if ¬ (if d = true then ho m + 1 else la) = 0 ∧ (¬ ho m + 1 = (if d = true then ho m + 1 else la) ∨ (ab = true ∧ ∃ x, x < 7 ∧ X.testBit x = true ∧ ¬ ho x + 1 = (if d = true then ho m + 1 else la))) then none
  else some (if W m (if d = true then ho m + 1 else la) (t + if d = true then 1 else 0) = 0 then (if d = true then ho m + 1 else la) else W m (if d = true then ho m + 1 else la) (t + if d = true then 1 else 0), decide ((if d = true then ho m + 1 else la) = 0))
noncomputable def rQ (ho : Nat → Nat) (W : Nat → Nat → Nat → Nat) : List (Nat × Bool) → Nat → Nat → Nat → Bool → Option (Nat × Bool)
  | [], _, _, la, ab => some (la, ab)
  | (m, d) :: r, X, h, la, ab => match tr ho W X la ab m d (pc X + h) with
    | none => none
    | some (la', ab') => rQ ho W r (X ||| 2 ^ m) (if d = true then h + 1 else h) la' ab'
def zL (R : Nat → Nat) (hd : Nat → Bool) : Nat → Nat → List (Nat × Bool)
  | 0, _ => []
  | k + 1, p => (R p, hd p) :: zL R hd k (p + 1)
def xs (R : Nat → Nat) : Nat → Nat
  | 0 => 0
  | p + 1 => xs R p ||| 2 ^ R p
theorem xs_bit (R : Nat → Nat) (x : Nat) : ∀ p, (xs R p).testBit x = true ↔ ∃ q, q < p ∧ R q = x
  | 0 => by
    rw [xs, Nat.zero_testBit]
    exact ⟨fun h => (by cases h), fun ⟨q, h, _⟩ => by omega⟩
  | p + 1 => by
    rw [xs, Nat.testBit_or, Bool.or_eq_true, xs_bit R x p, Nat.testBit_two_pow, decide_eq_true_iff]
    constructor
    · rintro (⟨q, h, e⟩ | e)
      · exact ⟨q, by omega, e⟩
      · exact ⟨p, by omega, e⟩
    · rintro ⟨q, h, e⟩
      by_cases z : q = p
      · subst z
        exact Or.inr e
      · exact Or.inl ⟨q, by omega, e⟩
theorem or128 {X m : Nat} (hX : X < 128) (hm : m < 7) : X ||| 2 ^ m < 128 := Nat.or_lt_two_pow (n := 7) hX (Nat.pow_lt_pow_right (by decide) hm)
theorem xs_lt {R : Nat → Nat} : ∀ p, (∀ q, q < p → R q < 7) → xs R p < 128
  | 0, _ => show 0 < 128 by decide
  | p + 1, h => or128 (xs_lt p (fun q hq => h q (by omega))) (h p (by omega))
theorem pc_or0 : ∀ X : Fin 128, ∀ m : Fin 7, X.val.testBit m.val = false → pc (X.val ||| 2 ^ m.val) = pc X.val + 1 := by decide +kernel
theorem pc_or {X m : Nat} (hX : X < 128) (hm : m < 7) (h : X.testBit m = false) : pc (X ||| 2 ^ m) = pc X + 1 := pc_or0 ⟨X, hX⟩ ⟨m, hm⟩ h
theorem pc_xs {R : Nat → Nat} : ∀ p, (∀ q, q < p → R q < 7) → (∀ q r, q < r → r < p → ¬ R q = R r) → pc (xs R p) = p
  | 0, _, _ => show pc 0 = 0 by decide
  | p + 1, h, d => by
    have e : (xs R p).testBit (R p) = false := by
      cases q : (xs R p).testBit (R p)
      · rfl
      · obtain ⟨r, hr, e⟩ := (xs_bit R _ p).mp q
        exact absurd e (d r p hr (by omega))
    rw [xs, pc_or (xs_lt p (fun q hq => h q (by omega))) (h p (by omega)) e, pc_xs p (fun q hq => h q (by omega)) (fun q r hq hr => d q r hq (by omega))]
/-- a row by places is a row as a list -/
theorem rP_tr {ho : Nat → Nat} {W : Nat → Nat → Nat → Nat} {R : Nat → Nat} {hd : Nat → Bool} {l0 p la : Nat} {ab : Bool} (hR : ∀ q, q < p → R q < 7) (e : rP ho W R hd l0 p = some (la, ab)) : rP ho W R hd l0 (p + 1) = tr ho W (xs R p) la ab (R p) (hd p) (p + nh hd p) := by
  rw [rP, e]
  unfold tr
  have c : (ab = true ∧ ∃ q, q < p ∧ ¬ ho (R q) + 1 = (if hd p = true then ho (R p) + 1 else la)) ↔ (ab = true ∧ ∃ x, x < 7 ∧ (xs R p).testBit x = true ∧ ¬ ho x + 1 = (if hd p = true then ho (R p) + 1 else la)) := by
    constructor
    · rintro ⟨a, q, hq, z⟩
      exact ⟨a, R q, hR q hq, (xs_bit R _ p).mpr ⟨q, hq, rfl⟩, z⟩
    · rintro ⟨a, x, hx, hb, z⟩
      obtain ⟨q, hq, rfl⟩ := (xs_bit R _ p).mp hb
      exact ⟨a, q, hq, z⟩
  have t : p + nh hd (p + 1) = p + nh hd p + (if hd p = true then 1 else 0) := by
    rw [nh]
    omega
  show (if ¬ (if hd p = true then ho (R p) + 1 else la) = 0 ∧ (¬ ho (R p) + 1 = (if hd p = true then ho (R p) + 1 else la) ∨ (ab = true ∧ ∃ q, q < p ∧ ¬ ho (R q) + 1 = (if hd p = true then ho (R p) + 1 else la))) then none else some (if W (R p) (if hd p = true then ho (R p) + 1 else la) (p + nh hd (p + 1)) = 0 then (if hd p = true then ho (R p) + 1 else la) else W (R p) (if hd p = true then ho (R p) + 1 else la) (p + nh hd (p + 1)), decide ((if hd p = true then ho (R p) + 1 else la) = 0))) = _
  rw [t]
  by_cases z : ¬ (if hd p = true then ho (R p) + 1 else la) = 0 ∧ (¬ ho (R p) + 1 = (if hd p = true then ho (R p) + 1 else la) ∨ (ab = true ∧ ∃ q, q < p ∧ ¬ ho (R q) + 1 = (if hd p = true then ho (R p) + 1 else la)))
  · rw [if_pos z, if_pos ⟨z.1, z.2.elim Or.inl (fun y => Or.inr (c.mp y))⟩]
  · rw [if_neg z]
    exact (if_neg (fun y => z ⟨y.1, y.2.elim Or.inl (fun u => Or.inr (c.mpr u))⟩)).symm
theorem rQ_rP {ho : Nat → Nat} {W : Nat → Nat → Nat → Nat} {R : Nat → Nat} {hd : Nat → Bool} {l0 c : Nat} (hR : ∀ q, q < c → R q < 7) (hD : ∀ q r, q < r → r < c → ¬ R q = R r) : ∀ (k p : Nat), p + k = c → (rP ho W R hd l0 p = none → rP ho W R hd l0 c = none) ∧ ∀ la ab, rP ho W R hd l0 p = some (la, ab) → rQ ho W (zL R hd k p) (xs R p) (nh hd p) la ab = rP ho W R hd l0 c
  | 0, p, h => by
    have e : p = c := by omega
    subst e
    exact ⟨fun z => z, fun la ab e => e.symm⟩
  | k + 1, p, h => by
    obtain ⟨i1, i2⟩ := rQ_rP (ho := ho) (W := W) (hd := hd) (l0 := l0) hR hD k (p + 1) (by omega)
    refine ⟨fun z => i1 (by rw [rP, z]), fun la ab e => ?_⟩
    have st := rP_tr (fun q hq => hR q (by omega)) e
    have ep : pc (xs R p) = p := pc_xs p (fun q hq => hR q (by omega)) (fun q r hq hr => hD q r hq (by omega))
    rw [zL, rQ, ep]
    cases et : tr ho W (xs R p) la ab (R p) (hd p) (p + nh hd p) with
    | none =>
      rw [et] at st
      exact (i1 st).symm
    | some o =>
      obtain ⟨la', ab'⟩ := o
      rw [et] at st
      have := i2 la' ab' st
      rw [nh] at this
      rw [← this, xs]
      show rQ ho W (zL R hd k (p + 1)) (xs R p ||| 2 ^ R p) (if hd p = true then nh hd p + 1 else nh hd p) la' ab' = _
      by_cases z : hd p = true
      · rw [if_pos z, if_pos z]
      · rw [if_neg z, if_neg z]
        rfl
theorem ok_rQ {ho : Nat → Nat} {W : Nat → Nat → Nat → Nat} {R : Nat → Nat} {hd : Nat → Bool} {l0 c : Nat} (hR : ∀ q, q < c → R q < 7) (hD : ∀ q r, q < r → r < c → ¬ R q = R r) : rP ho W R hd l0 c = rQ ho W (zL R hd c 0) 0 0 l0 false := ((rQ_rP hR hD c 0 (by omega)).2 l0 false rfl).symm
/-! all orders, by numbers -/
def pL : Nat → List Nat → List (List Nat)
  | 0, _ => [[]]
  | k + 1, l => l.flatMap (fun m => (pL k (l.erase m)).map (fun r => m :: r))
theorem erase_inj {e : Nat → Nat} (he : ∀ a b, e a = e b → a = b) (i : Nat) : ∀ l : List Nat, (l.map e).erase (e i) = (l.erase i).map e
  | [] => rfl
  | a :: l => by
    rw [List.map_cons, List.erase_cons, List.erase_cons]
    by_cases z : a = i
    · subst z
      simp
    · have z1 : ¬ e a = e i := fun u => z (he _ _ u)
      rw [if_neg (by simpa using z1), if_neg (by simpa using z), List.map_cons, erase_inj he i l]
theorem pL_map {e : Nat → Nat} (he : ∀ a b, e a = e b → a = b) : ∀ (k : Nat) (l : List Nat), pL k (l.map e) = (pL k l).map (List.map e)
  | 0, l => rfl
  | k + 1, l => by
    rw [pL, pL, List.flatMap_map, List.map_flatMap]
    congr 1
    funext m
    rw [erase_inj he, pL_map he k, List.map_map, List.map_map]
    rfl
theorem pL_len : ∀ (k : Nat) (l r : List Nat), r ∈ pL k l → r.length = k
  | 0, l, r, h => by
    have : r = [] := List.mem_singleton.mp h
    rw [this]
    rfl
  | k + 1, l, r, h => by
    rw [pL] at h
    obtain ⟨m, -, h2⟩ := List.mem_flatMap.mp h
    obtain ⟨t, h3, rfl⟩ := List.mem_map.mp h2
    rw [List.length_cons, pL_len k _ t h3]
/-- who of s is not of X -/
def rm (s X : Nat) : List Nat := (List.range 7).filter (fun m => s.testBit m && !X.testBit m)
theorem rm_mem {s X m : Nat} : m ∈ rm s X ↔ m < 7 ∧ s.testBit m = true ∧ X.testBit m = false := by
  unfold rm
  rw [List.mem_filter, List.mem_range, Bool.and_eq_true]
  cases X.testBit m <;> simp
theorem rm_nodup (s X : Nat) : (rm s X).Nodup := List.Pairwise.filter _ List.nodup_range
theorem rm_erase {s X m : Nat} : (rm s X).erase m = rm s (X ||| 2 ^ m) := by
  rw [(rm_nodup s X).erase_eq_filter]
  unfold rm
  rw [List.filter_filter]
  congr 1
  funext x
  rw [Nat.testBit_or, Nat.testBit_two_pow]
  by_cases z : m = x
  · subst z
    simp
  · have z2 : ¬ x = m := fun u => z u.symm
    rw [decide_eq_false z, Bool.or_false, show (x != m) = true by simpa using z2, Bool.true_and]
theorem rm_0 (s : Nat) : rm s 0 = rowL 7 s 0 := by
  rw [rowL0]
  unfold rm fL
  congr 1
  funext m
  rw [fB0, Nat.zero_testBit]
  simp
theorem fil_sum (p : Nat → Bool) (f : Nat → Nat) : ∀ n, (((List.range n).filter p).map f).sum = sm (fun m => if p m = true then f m else 0) n
  | 0 => rfl
  | n + 1 => by
    rw [List.range_succ, List.filter_append, List.map_append, List.sum_append, fil_sum p f n, sm]
    congr 1
    cases h : p n
    · rw [List.filter_cons_of_neg (by rw [h]; exact Bool.false_ne_true)]
      rfl
    · rw [List.filter_cons_of_pos h]
      simp
/-! how many orders of those left bring all home -/
noncomputable def cV (ho : Nat → Nat) (W : Nat → Nat → Nat → Nat) (s k X la : Nat) (ab : Bool) : Nat := (pL k (rm s X)).countP (fun l => okP (rQ ho W (l.map (fun m => (m, false))) X 0 la ab))
theorem cV_0 (ho : Nat → Nat) (W : Nat → Nat → Nat → Nat) (s X la : Nat) (ab : Bool) : cV ho W s 0 X la ab = if ab = false then 1 else 0 := by
  unfold cV
  rw [pL, List.countP_cons, List.countP_nil]
  show 0 + (if okP (some (la, ab)) = true then 1 else 0) = _
  cases ab <;> rfl
noncomputable def cVo (ho : Nat → Nat) (W : Nat → Nat → Nat → Nat) (s k X : Nat) (o : Option (Nat × Bool)) : Nat := match o with
  | none => 0
  | some (la, ab) => cV ho W s k X la ab
theorem cV_S (ho : Nat → Nat) (W : Nat → Nat → Nat → Nat) (s k X la : Nat) (ab : Bool) : cV ho W s (k + 1) X la ab = sm (fun m => if (s.testBit m && !X.testBit m) = true then cVo ho W s k (X ||| 2 ^ m) (tr ho W X la ab m false (pc X)) else 0) 7 := by
  rw [← fil_sum]
  unfold cV
  rw [pL, List.countP_flatMap]
  show ((rm s X).map _).sum = ((rm s X).map _).sum
  congr 1
  refine List.map_congr_left (fun m _ => ?_)
  show List.countP _ ((pL k ((rm s X).erase m)).map (fun r => m :: r)) = _
  rw [List.countP_map, rm_erase]
  have e : ∀ l : List Nat, ((fun l => okP (rQ ho W (l.map (fun m => (m, false))) X 0 la ab)) ∘ (fun r => m :: r)) l = okP (match tr ho W X la ab m false (pc X) with | none => none | some (la', ab') => rQ ho W (l.map (fun m => (m, false))) (X ||| 2 ^ m) 0 la' ab') := fun l => by
    show okP (rQ ho W ((m, false) :: l.map (fun m => (m, false))) X 0 la ab) = _
    rw [rQ, Nat.add_zero]
    rfl
  rw [show ((fun l => okP (rQ ho W (l.map (fun m => (m, false))) X 0 la ab)) ∘ (fun r => m :: r)) = _ from funext e]
  cases tr ho W X la ab m false (pc X) with
  | none =>
    show List.countP (fun _ => false) _ = 0
    rw [List.countP_eq_zero]
    intro a _
    exact Bool.false_ne_true
  | some o =>
    obtain ⟨la', ab'⟩ := o
    rfl
/-! whether those left can come home with n hired in all -/
def eV (ho : Nat → Nat) (W : Nat → Nat → Nat → Nat) (s n k X h la : Nat) (ab : Bool) : Prop := ∃ l, l ∈ pL k (rm s X) ∧ ∃ ds : List Bool, ds.length = k ∧ h + ds.count true = n ∧ okP (rQ ho W (l.zip ds) X h la ab) = true
theorem eV_0 {ho : Nat → Nat} {W : Nat → Nat → Nat → Nat} {s n X h la : Nat} {ab : Bool} : eV ho W s n 0 X h la ab ↔ h = n ∧ ab = false := by
  constructor
  · rintro ⟨l, hl, ds, h1, h2, h3⟩
    have e1 : l = [] := List.mem_singleton.mp hl
    have e2 : ds = [] := List.length_eq_zero_iff.mp h1
    subst e1 e2
    have h3 : okP (some (la, ab)) = true := h3
    cases ab
    · exact ⟨h2, rfl⟩
    · cases h3
  · rintro ⟨rfl, rfl⟩
    exact ⟨[], List.mem_singleton.mpr rfl, [], rfl, rfl, rfl⟩
theorem eV_S {ho : Nat → Nat} {W : Nat → Nat → Nat → Nat} {s n k X h la : Nat} {ab : Bool} : eV ho W s n (k + 1) X h la ab ↔ ∃ m, m < 7 ∧ s.testBit m = true ∧ X.testBit m = false ∧ ∃ d la' ab', tr ho W X la ab m d (pc X + h) = some (la', ab') ∧ eV ho W s n k (X ||| 2 ^ m) (if d = true then h + 1 else h) la' ab' := by
  constructor
  · rintro ⟨l, hl, ds, h1, h2, h3⟩
    rw [pL] at hl
    obtain ⟨m, hm, hl2⟩ := List.mem_flatMap.mp hl
    obtain ⟨t, ht, rfl⟩ := List.mem_map.mp hl2
    rw [rm_erase] at ht
    obtain ⟨m1, m2, m3⟩ := rm_mem.mp hm
    cases ds with
    | nil => cases h1
    | cons d ds =>
      rw [List.zip_cons_cons, rQ] at h3
      cases et : tr ho W X la ab m d (pc X + h) with
      | none =>
        rw [et] at h3
        cases h3
      | some o =>
        obtain ⟨la', ab'⟩ := o
        rw [et] at h3
        refine ⟨m, m1, m2, m3, d, la', ab', et, t, ht, ds, Nat.succ.inj h1, ?_, h3⟩
        rw [List.count_cons] at h2
        cases d
        · simpa using h2
        · simp at h2
          simp
          omega
  · rintro ⟨m, m1, m2, m3, d, la', ab', et, t, ht, ds, h1, h2, h3⟩
    refine ⟨m :: t, ?_, d :: ds, by rw [List.length_cons, h1], ?_, ?_⟩
    · rw [pL]
      refine List.mem_flatMap.mpr ⟨m, rm_mem.mpr ⟨m1, m2, m3⟩, List.mem_map.mpr ⟨t, ?_, rfl⟩⟩
      rw [rm_erase]
      exact ht
    · rw [List.count_cons]
      cases d
      · simpa using h2
      · simp at h2
        simp
        omega
    · rw [List.zip_cons_cons, rQ, et]
      exact h3
