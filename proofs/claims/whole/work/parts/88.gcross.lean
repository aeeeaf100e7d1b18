/-! the class's row, gone over by bits -/
theorem fL_more (s z : Nat) (v : Bool) (j : Nat) : ∀ k, ∃ r, fL s z v (j + k) = fL s z v j ++ r
  | 0 => ⟨[], (List.append_nil _).symm⟩
  | k + 1 => by
    obtain ⟨r, e⟩ := fL_more s z v j k
    refine ⟨r ++ (if fB s z v (j + k) = true then [j + k] else []), ?_⟩
    rw [← Nat.add_assoc, fL_S, e, List.append_assoc]
theorem fL_top {M s z : Nat} {v : Bool} (hs : s < 2 ^ M) : ∀ k, fL s z v (M + k) = fL s z v M
  | 0 => rfl
  | k + 1 => by
    have e : fB s z v (M + k) = false := by
      unfold fB
      have q : s.testBit (M + k) = false := Nat.testBit_lt_two_pow (Nat.lt_of_lt_of_le hs (Nat.pow_le_pow_right (by decide) (by omega)))
      rw [q]
      rfl
    rw [← Nat.add_assoc, fL_S, e, if_neg (by decide), List.append_nil]
    exact fL_top hs k
theorem rowL_top {M s z : Nat} (hs : s < 2 ^ M) (hM : M ≤ 7) : rowL 7 s z = rowL M s z := by
  unfold rowL
  rw [show 7 = M + (7 - M) by omega, fL_top hs, fL_top hs]
theorem fL_sum (s z : Nat) : ∀ j, (fL s z false j).length + (fL s z true j).length = ((List.range j).filter (fun m => s.testBit m)).length
  | 0 => rfl
  | j + 1 => by
    have ih := fL_sum s z j
    rw [fL_S, fL_S, List.length_append, List.length_append, List.range_succ, List.filter_append, List.length_append, ← ih]
    have h : (if fB s z false j = true then [j] else []).length + (if fB s z true j = true then [j] else []).length = (List.filter (fun m => s.testBit m) [j]).length := by
      unfold fB
      cases e1 : s.testBit j <;> cases e2 : z.testBit j <;> simp [e1]
    omega
theorem pc_row : ∀ s : Fin 128, ((List.range 7).filter (fun m => s.val.testBit m)).length = pc s.val := by decide +kernel
theorem rowL_pc {s z : Nat} (hs : s < 128) : (rowL 7 s z).length = pc s := by
  unfold rowL
  rw [List.length_append, fL_sum]
  exact pc_row ⟨s, hs⟩
theorem getD_mid (l r : List Nat) (m : Nat) : (l ++ [m] ++ r).getD l.length 0 = m := by
  simp [List.getD]
theorem getD_pre {l r : List Nat} {q : Nat} (h : q < l.length) : (l ++ r).getD q 0 = l.getD q 0 := by
  simp [List.getD, List.getElem?_append_left h]
theorem mem_getD {l : List Nat} {m : Nat} (h : m ∈ l) : ∃ q, q < l.length ∧ l.getD q 0 = m := by
  obtain ⟨q, hq, e⟩ := List.getElem_of_mem h
  exact ⟨q, hq, (getD_get hq).trans e⟩
def GSt (T : aT) (b : Nat) (l : List Nat) (D : aG) (σ : bS) : Prop := σ.1 68 4 = bitsOf (fun m => m ∈ l ∧ D 6 m = nI b) 7 ∧ σ.1 68 5 = bitsOf (fun m => m ∈ l ∧ D 5 m = nI (tHome T m)) 7 ∧ ∀ q, q < l.length → σ.2.1 70 (l.getD q 0) = nI q
abbrev sc68 : Nat → Prop := fun a => a = 68 ∨ a = 70
theorem rwG_la {T : aT} {L : aL} {b h : Nat} {R : Nat → Nat} {G : aG} (h0 : 0 ≤ G 3 b) : ∀ p, 0 ≤ rwG T L b h R G p 3 b
  | 0 => h0
  | p + 1 => by
    have ih := rwG_la (T := T) (L := L) (h := h) (R := R) h0 p
    show 0 ≤ (if b = b then (if sWish T L (rwG T L b h R G p) (R p) (rwG T L b h R G p 3 b) (h + p) < 0 then rwG T L b h R G p 3 b else sWish T L (rwG T L b h R G p) (R p) (rwG T L b h R G p 3 b) (h + p)) else rwG T L b h R G p 3 b)
    rw [if_pos rfl]
    split
    · exact ih
    · exact Int32.not_lt.mp (by assumption)
