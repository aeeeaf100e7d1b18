abbrev bS : Type := (Nat → Nat → Int32) × (Nat → Nat → Int32) × (Nat → Nat → Int64)
abbrev sI (σ : bS) (o k : Nat) : Int32 := σ.1 o k
abbrev sA (σ : bS) (a : Nat) (i : Int32) : Int32 := σ.2.1 a i.toNatClampNeg
abbrev sJ (σ : bS) (a : Nat) (i : Int32) : Int64 := σ.2.2 a i.toNatClampNeg
def uI (σ : bS) (o k : Nat) (v : Int32) : bS := (fun o1 k1 => bif (Nat.beq o1 o && Nat.beq k1 k) then v else σ.1 o1 k1, σ.2)
def uA (σ : bS) (a : Nat) (i : Int32) (v : Int32) : bS := (σ.1, fun a1 => bif Nat.beq a1 a then upd (σ.2.1 a) i.toNatClampNeg v else σ.2.1 a1, σ.2.2)
def uJ (σ : bS) (a : Nat) (i : Int32) (v : Int64) : bS := (σ.1, σ.2.1, fun a1 => bif Nat.beq a1 a then vp_updL (σ.2.2 a) i.toNatClampNeg v else σ.2.2 a1)
def uC (σ : bS) (a0 a : Nat) (sp dp n : Int32) : bS := (σ.1, fun a1 => bif Nat.beq a1 a then va_cpy (σ.2.1 a0) (σ.2.1 a) sp.toNatClampNeg dp.toNatClampNeg n.toNatClampNeg else σ.2.1 a1, σ.2.2)
abbrev bush (x y : Int32) : Int32 := (x.toUInt32 >>> (y.toUInt32 &&& Int32.toUInt32 31)).toInt32
abbrev brem (x y : Int32) : Int32 := x - x / y * y
def bz (x : Int32) (σ : bS) : Option (Int32 × bS) := if x = 0 ∨ x = 1 then some (x, σ) else none
theorem bno {β : Type} {q : β} {P : Prop} (h : (none : Option β) = some q) : P := nomatch h
section BST
variable {MT : List bM} {d pc : Nat} {M : bM} {L : bL} {J : bJ} {st : List Value} {w : bW} {r : bR}
theorem bfr_bz {x : Int32} {σ : bS} {q : Int32 × bS} {mk : bS → bW} (k : Nat) (hrun : brun MT k d M pc L J st w = if x = 0 ∨ x = 1 then some (some (.int x), mk σ) else none) (h : bz x σ = some q) : bfr MT d M pc L J st w (some (.int q.1), mk q.2) := by
  unfold bz at h
  split at h
  · rename_i hc
    cases h
    exact ⟨k, by rw [hrun, if_pos hc]⟩
  · cases h
theorem bfr_of (k : Nat) (X : Nat → Option bR) (hrun : ∀ n, brun MT (n + k) d M pc L J st w = X n) (hx : ∃ n, X n = some r) : bfr MT d M pc L J st w r := by
  obtain ⟨n, hn⟩ := hx
  exact ⟨n + k, (hrun n).trans hn⟩
theorem bres_if {β : Type} {q : β} {c : Prop} [Decidable c] {x y : Option β} {X Y : Nat → Option bR} (h : (if c then x else y) = some q) (h1 : x = some q → ∃ n, X n = some r) (h2 : y = some q → ∃ n, Y n = some r) : ∃ n, (if c then X n else Y n) = some r := by
  by_cases hc : c
  · rw [if_pos hc] at h
    obtain ⟨n, hn⟩ := h1 h
    exact ⟨n, by rw [if_pos hc]; exact hn⟩
  · rw [if_neg hc] at h
    obtain ⟨n, hn⟩ := h2 h
    exact ⟨n, by rw [if_neg hc]; exact hn⟩
end BST
def mkM (σ : bS) : bW := [.inr (.inr (12, [.int (σ.1 0 0), .ref 1, .int (σ.1 0 2), .ref 2, .ref 3, .ref 4, .ref 5, .int (σ.1 0 7), .int (σ.1 0 8), .int (σ.1 0 9), .int (σ.1 0 10), .int (σ.1 0 11), .ref 6, .ref 7, .ref 8, .ref 9, .ref 10, .ref 11, .ref 12, .ref 13, .ref 14, .ref 15, .ref 16, .ref 17, .ref 18, .ref 19, .ref 20, .ref 21, .ref 22, .ref 23, .ref 24, .int (σ.1 0 31), .ref 25, .ref 26, .ref 27, .int (σ.1 0 35), .int (σ.1 0 36), .ref 28, .int (σ.1 0 38), .ref 29, .int (σ.1 0 40), .int (σ.1 0 41), .int (σ.1 0 42), .ref 30, .ref 31, .ref 32, .int (σ.1 0 46), .int (σ.1 0 47), .ref 33, .int (σ.1 0 49), .ref 34, .ref 35, .ref 36, .int (σ.1 0 53), .ref 37, .int (σ.1 0 55), .ref 38, .ref 39, .ref 40, .ref 41, .ref 42, .ref 43, .int (σ.1 0 62), .ref 44, .ref 45, .ref 46, .ref 47])), .inl (0, 2000, σ.2.1 1), .inl (0, 2001, σ.2.1 2), .inl (0, 2001, σ.2.1 3), .inl (0, 2001, σ.2.1 4), .inr (.inl (2001, σ.2.2 5)), .inl (0, 2, σ.2.1 6), .inl (0, 1000, σ.2.1 7), .inl (0, 1000, σ.2.1 8), .inl (0, 28, σ.2.1 9), .inl (0, 392, σ.2.1 10), .inl (0, 392, σ.2.1 11), .inl (0, 2, σ.2.1 12), .inl (0, 2, σ.2.1 13), .inl (0, 20, σ.2.1 14), .inl (0, 20, σ.2.1 15), .inl (0, 20, σ.2.1 16), .inl (0, 2, σ.2.1 17), .inl (0, 8, σ.2.1 18), .inl (0, 8, σ.2.1 19), .inl (0, 2, σ.2.1 20), .inl (0, 14, σ.2.1 21), .inl (0, 14, σ.2.1 22), .inl (0, 14, σ.2.1 23), .inl (0, 8, σ.2.1 24), .inr (.inl (20, σ.2.2 25)), .inl (0, 20, σ.2.1 26), .inl (0, 20, σ.2.1 27), .inl (0, 500, σ.2.1 28), .inl (0, 2208, σ.2.1 29), .inl (2, 3, σ.2.1 30), .inl (0, 8, σ.2.1 31), .inl (0, 500, σ.2.1 32), .inl (0, 96, σ.2.1 33), .inl (0, 7, σ.2.1 34), .inl (2, 7, σ.2.1 35), .inl (0, 6, σ.2.1 36), .inl (0, 7, σ.2.1 37), .inl (0, 6, σ.2.1 38), .inl (0, 6, σ.2.1 39), .inl (0, 6, σ.2.1 40), .inl (0, 7, σ.2.1 41), .inl (0, 7, σ.2.1 42), .inl (0, 6, σ.2.1 43), .inl (0, 12, σ.2.1 44), .inl (0, 12, σ.2.1 45), .inl (0, 7, σ.2.1 46), .inl (0, 7, σ.2.1 47)]
