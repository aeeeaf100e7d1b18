/-! the reference goes from one order to the next -/
def dK (r : Nat → Nat) : Nat → Option Nat
  | 0 => none
  | i + 1 => if r (i + 1) < r i then dK r i else some i
def dJ (r : Nat → Nat) (x : Nat) : Nat → Nat
  | 0 => 0
  | j + 1 => if x ≤ r (j + 1) then j + 1 else dJ r x j
def sw (r : Nat → Nat) (a b : Nat) : Nat → Nat := fun i => if i = b then r a else if i = a then r b else r i
def rv : Nat → (Nat → Nat) → Nat → Nat → Nat → Nat
  | 0, r, _, _ => r
  | f + 1, r, a, b => if a < b then rv f (sw r a b) (a + 1) (b - 1) else r
def nx (c : Nat) (r : Nat → Nat) : Option (Nat → Nat) := match dK r (c - 1) with
  | none => none
  | some k => some (rv c (sw r k (dJ r (r k) (c - 1))) (k + 1) (c - 1))
def chk (c : Nat) : List (List Nat) → Bool
  | [] => true
  | [l] => (nx c (fun i => l.getD i 0)).isNone
  | l :: l' :: t => (match nx c (fun i => l.getD i 0) with
    | none => false
    | some r => (List.range c).map r == l') && chk c (l' :: t)
theorem chk_1 : (chk 1 (pL 1 (List.range 1)) && (pL 1 (List.range 1)).head? == some (List.range 1)) = true := by decide +kernel
theorem chk_2 : (chk 2 (pL 2 (List.range 2)) && (pL 2 (List.range 2)).head? == some (List.range 2)) = true := by decide +kernel
theorem chk_3 : (chk 3 (pL 3 (List.range 3)) && (pL 3 (List.range 3)).head? == some (List.range 3)) = true := by decide +kernel
theorem chk_4 : (chk 4 (pL 4 (List.range 4)) && (pL 4 (List.range 4)).head? == some (List.range 4)) = true := by decide +kernel
theorem chk_5 : (chk 5 (pL 5 (List.range 5)) && (pL 5 (List.range 5)).head? == some (List.range 5)) = true := by decide +kernel
theorem chk_6 : (chk 6 (pL 6 (List.range 6)) && (pL 6 (List.range 6)).head? == some (List.range 6)) = true := by decide +kernel
theorem chk_7 : (chk 7 (pL 7 (List.range 7)) && (pL 7 (List.range 7)).head? == some (List.range 7)) = true := by decide +kernel
theorem chk_all {c : Nat} (h0 : 0 < c) (h7 : c ≤ 7) : chk c (pL c (List.range c)) = true ∧ ∃ t, pL c (List.range c) = List.range c :: t := by
  have key : (chk c (pL c (List.range c)) && (pL c (List.range c)).head? == some (List.range c)) = true := by
    have : c = 1 ∨ c = 2 ∨ c = 3 ∨ c = 4 ∨ c = 5 ∨ c = 6 ∨ c = 7 := by omega
    rcases this with rfl | rfl | rfl | rfl | rfl | rfl | rfl
    · exact chk_1
    · exact chk_2
    · exact chk_3
    · exact chk_4
    · exact chk_5
    · exact chk_6
    · exact chk_7
  rw [Bool.and_eq_true, beq_iff_eq] at key
  refine ⟨key.1, ?_⟩
  generalize pL c (List.range c) = l at key
  cases l with
  | nil => cases key.2
  | cons a t =>
    have e : a = List.range c := Option.some.inj key.2
    exact ⟨t, by rw [e]⟩
