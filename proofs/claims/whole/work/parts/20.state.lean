abbrev bS : Type := (Nat → Nat → Int32) × (Nat → Nat → Int32) × (Nat → Nat → Int64)
abbrev sI (σ : bS) (o k : Nat) : Int32 := σ.1 o k
abbrev sA (σ : bS) (a : Nat) (i : Int32) : Int32 := σ.2.1 a i.toNatClampNeg
abbrev sJ (σ : bS) (a : Nat) (i : Int32) : Int64 := σ.2.2 a i.toNatClampNeg
def uI (σ : bS) (o k : Nat) (v : Int32) : bS := (fun o1 k1 => bif (Nat.beq o1 o && Nat.beq k1 k) then v else σ.1 o1 k1, σ.2)
def uA (σ : bS) (a : Nat) (i : Int32) (v : Int32) : bS := (σ.1, fun a1 => bif Nat.beq a1 a then upd (σ.2.1 a) i.toNatClampNeg v else σ.2.1 a1, σ.2.2)
def uJ (σ : bS) (a : Nat) (i : Int32) (v : Int64) : bS := (σ.1, σ.2.1, fun a1 => bif Nat.beq a1 a then vp_updL (σ.2.2 a) i.toNatClampNeg v else σ.2.2 a1)
def uC (σ : bS) (a0 a : Nat) (sp dp n : Int32) : bS := (σ.1, fun a1 => bif Nat.beq a1 a then va_cpy (σ.2.1 a0) (σ.2.1 a) sp.toNatClampNeg dp.toNatClampNeg n.toNatClampNeg else σ.2.1 a1, σ.2.2)
abbrev bush (x y : Int32) : Int32 := (x.toUInt32 >>> (y.toUInt32 &&& Int32.toUInt32 31)).toInt32
abbrev brem (x y : Int32) : Int32 := x - x / y * y
def bz (x : Int32) (σ : bS) : Option (Int32 × bS) := if x = 0 ∨ x = 1 then some (x, σ) else none
theorem bno {β : Type} {q : β} {P : Prop} (h : (none : Option β) = some q) : P := nomatch h
section BST
variable {MT : List bM} {d pc : Nat} {M : bM} {L : bL} {J : bJ} {st : List Value} {w : bW} {r : bR}
theorem bfr_bz {x : Int32} {σ : bS} {q : Int32 × bS} {mk : bS → bW} (k : Nat) (hrun : ∀ (call : bCall) (K : bK), bgo MT call M d K k pc L J st w = if x = 0 ∨ x = 1 then some (some (.int x), mk σ) else none) (h : bz x σ = some q) : bfr MT d M pc L J st w (some (.int q.1), mk q.2) := by
  unfold bz at h
  split at h
  · rename_i hc
    cases h
    exact bfr_ret k (fun call K => by rw [hrun, if_pos hc])
  · cases h
theorem bfr_of (k : Nat) (X : bK → Option bR) (hrun : ∀ (call : bCall) (K : bK), bgo MT call M d K k pc L J st w = X K) (hx : ∃ n, X (brun MT n d M) = some r) : bfr MT d M pc L J st w r := by
  obtain ⟨n, hn⟩ := hx
  exact ⟨n + k, bgo_run _ _ _ _ _ _ _ ((hrun _ _).trans hn)⟩
theorem bres_if {β : Type} {q : β} {c : Prop} [Decidable c] {x y : Option β} {X Y : Nat → Option bR} (h : (if c then x else y) = some q) (h1 : x = some q → ∃ n, X n = some r) (h2 : y = some q → ∃ n, Y n = some r) : ∃ n, (if c then X n else Y n) = some r := by
  by_cases hc : c
  · rw [if_pos hc] at h
    obtain ⟨n, hn⟩ := h1 h
    exact ⟨n, by rw [if_pos hc]; exact hn⟩
  · rw [if_neg hc] at h
    obtain ⟨n, hn⟩ := h2 h
    exact ⟨n, by rw [if_neg hc]; exact hn⟩
end BST
def mkM_0 (σ : bS) : List Value := [.int (σ.1 0 0), .ref 1, .int (σ.1 0 2), .ref 2, .ref 3, .ref 4, .ref 5, .int (σ.1 0 7), .int (σ.1 0 8), .int (σ.1 0 9), .int (σ.1 0 10), .int (σ.1 0 11), .ref 6, .ref 7, .ref 8, .ref 9, .ref 10, .ref 11, .ref 12, .ref 13, .ref 14, .ref 15, .ref 16, .ref 17, .ref 18, .ref 19, .ref 20, .ref 21, .ref 22, .ref 23, .ref 24, .int (σ.1 0 31), .ref 25, .ref 26, .ref 27, .int (σ.1 0 35), .int (σ.1 0 36), .ref 28, .int (σ.1 0 38), .ref 29, .int (σ.1 0 40), .int (σ.1 0 41), .int (σ.1 0 42), .ref 30, .ref 31, .ref 32, .int (σ.1 0 46), .int (σ.1 0 47), .ref 33, .int (σ.1 0 49), .ref 34, .ref 35, .ref 36, .int (σ.1 0 53), .ref 37, .int (σ.1 0 55), .ref 38, .ref 39, .ref 40, .ref 41, .ref 42, .ref 43, .int (σ.1 0 62), .ref 44, .ref 45, .ref 46, .ref 47]
def mkM (σ : bS) : bW := [.inr (.inr (12, mkM_0 σ)), .inl (0, 2000, σ.2.1 1), .inl (0, 2001, σ.2.1 2), .inl (0, 2001, σ.2.1 3), .inl (0, 2001, σ.2.1 4), .inr (.inl (2001, σ.2.2 5)), .inl (0, 2, σ.2.1 6), .inl (0, 1000, σ.2.1 7), .inl (0, 1000, σ.2.1 8), .inl (0, 28, σ.2.1 9), .inl (0, 392, σ.2.1 10), .inl (0, 392, σ.2.1 11), .inl (0, 2, σ.2.1 12), .inl (0, 2, σ.2.1 13), .inl (0, 20, σ.2.1 14), .inl (0, 20, σ.2.1 15), .inl (0, 20, σ.2.1 16), .inl (0, 2, σ.2.1 17), .inl (0, 8, σ.2.1 18), .inl (0, 8, σ.2.1 19), .inl (0, 2, σ.2.1 20), .inl (0, 14, σ.2.1 21), .inl (0, 14, σ.2.1 22), .inl (0, 14, σ.2.1 23), .inl (0, 8, σ.2.1 24), .inr (.inl (20, σ.2.2 25)), .inl (0, 20, σ.2.1 26), .inl (0, 20, σ.2.1 27), .inl (0, 500, σ.2.1 28), .inl (0, 2208, σ.2.1 29), .inl (2, 3, σ.2.1 30), .inl (0, 8, σ.2.1 31), .inl (0, 500, σ.2.1 32), .inl (0, 96, σ.2.1 33), .inl (0, 7, σ.2.1 34), .inl (2, 7, σ.2.1 35), .inl (0, 6, σ.2.1 36), .inl (0, 7, σ.2.1 37), .inl (0, 6, σ.2.1 38), .inl (0, 6, σ.2.1 39), .inl (0, 6, σ.2.1 40), .inl (0, 7, σ.2.1 41), .inl (0, 7, σ.2.1 42), .inl (0, 6, σ.2.1 43), .inl (0, 12, σ.2.1 44), .inl (0, 12, σ.2.1 45), .inl (0, 7, σ.2.1 46), .inl (0, 7, σ.2.1 47)]
theorem mkM_I0_0 (σ : bS) (v : Int32) : (mkM σ).set 0 (.inr (.inr (12, (mkM_0 σ).set 0 (.int v)))) = mkM (uI σ 0 0 v) := rfl
theorem mkM_I0_2 (σ : bS) (v : Int32) : (mkM σ).set 0 (.inr (.inr (12, (mkM_0 σ).set 2 (.int v)))) = mkM (uI σ 0 2 v) := rfl
theorem mkM_I0_7 (σ : bS) (v : Int32) : (mkM σ).set 0 (.inr (.inr (12, (mkM_0 σ).set 7 (.int v)))) = mkM (uI σ 0 7 v) := rfl
theorem mkM_I0_8 (σ : bS) (v : Int32) : (mkM σ).set 0 (.inr (.inr (12, (mkM_0 σ).set 8 (.int v)))) = mkM (uI σ 0 8 v) := rfl
theorem mkM_I0_9 (σ : bS) (v : Int32) : (mkM σ).set 0 (.inr (.inr (12, (mkM_0 σ).set 9 (.int v)))) = mkM (uI σ 0 9 v) := rfl
theorem mkM_I0_10 (σ : bS) (v : Int32) : (mkM σ).set 0 (.inr (.inr (12, (mkM_0 σ).set 10 (.int v)))) = mkM (uI σ 0 10 v) := rfl
theorem mkM_I0_11 (σ : bS) (v : Int32) : (mkM σ).set 0 (.inr (.inr (12, (mkM_0 σ).set 11 (.int v)))) = mkM (uI σ 0 11 v) := rfl
theorem mkM_I0_31 (σ : bS) (v : Int32) : (mkM σ).set 0 (.inr (.inr (12, (mkM_0 σ).set 31 (.int v)))) = mkM (uI σ 0 31 v) := rfl
theorem mkM_I0_35 (σ : bS) (v : Int32) : (mkM σ).set 0 (.inr (.inr (12, (mkM_0 σ).set 35 (.int v)))) = mkM (uI σ 0 35 v) := rfl
theorem mkM_I0_36 (σ : bS) (v : Int32) : (mkM σ).set 0 (.inr (.inr (12, (mkM_0 σ).set 36 (.int v)))) = mkM (uI σ 0 36 v) := rfl
theorem mkM_I0_38 (σ : bS) (v : Int32) : (mkM σ).set 0 (.inr (.inr (12, (mkM_0 σ).set 38 (.int v)))) = mkM (uI σ 0 38 v) := rfl
theorem mkM_I0_40 (σ : bS) (v : Int32) : (mkM σ).set 0 (.inr (.inr (12, (mkM_0 σ).set 40 (.int v)))) = mkM (uI σ 0 40 v) := rfl
theorem mkM_I0_41 (σ : bS) (v : Int32) : (mkM σ).set 0 (.inr (.inr (12, (mkM_0 σ).set 41 (.int v)))) = mkM (uI σ 0 41 v) := rfl
theorem mkM_I0_42 (σ : bS) (v : Int32) : (mkM σ).set 0 (.inr (.inr (12, (mkM_0 σ).set 42 (.int v)))) = mkM (uI σ 0 42 v) := rfl
theorem mkM_I0_46 (σ : bS) (v : Int32) : (mkM σ).set 0 (.inr (.inr (12, (mkM_0 σ).set 46 (.int v)))) = mkM (uI σ 0 46 v) := rfl
theorem mkM_I0_47 (σ : bS) (v : Int32) : (mkM σ).set 0 (.inr (.inr (12, (mkM_0 σ).set 47 (.int v)))) = mkM (uI σ 0 47 v) := rfl
theorem mkM_I0_49 (σ : bS) (v : Int32) : (mkM σ).set 0 (.inr (.inr (12, (mkM_0 σ).set 49 (.int v)))) = mkM (uI σ 0 49 v) := rfl
theorem mkM_I0_53 (σ : bS) (v : Int32) : (mkM σ).set 0 (.inr (.inr (12, (mkM_0 σ).set 53 (.int v)))) = mkM (uI σ 0 53 v) := rfl
theorem mkM_I0_55 (σ : bS) (v : Int32) : (mkM σ).set 0 (.inr (.inr (12, (mkM_0 σ).set 55 (.int v)))) = mkM (uI σ 0 55 v) := rfl
theorem mkM_I0_62 (σ : bS) (v : Int32) : (mkM σ).set 0 (.inr (.inr (12, (mkM_0 σ).set 62 (.int v)))) = mkM (uI σ 0 62 v) := rfl
theorem mkM_A1 (σ : bS) (i v : Int32) : (mkM σ).set 1 (.inl (0, 2000, upd (σ.2.1 1) i.toNatClampNeg v)) = mkM (uA σ 1 i v) := rfl
theorem mkM_C1 (σ : bS) (a0 : Nat) (sp dp n : Int32) : (mkM σ).set 1 (.inl (0, 2000, va_cpy (σ.2.1 a0) (σ.2.1 1) sp.toNatClampNeg dp.toNatClampNeg n.toNatClampNeg)) = mkM (uC σ a0 1 sp dp n) := rfl
theorem mkM_A2 (σ : bS) (i v : Int32) : (mkM σ).set 2 (.inl (0, 2001, upd (σ.2.1 2) i.toNatClampNeg v)) = mkM (uA σ 2 i v) := rfl
theorem mkM_C2 (σ : bS) (a0 : Nat) (sp dp n : Int32) : (mkM σ).set 2 (.inl (0, 2001, va_cpy (σ.2.1 a0) (σ.2.1 2) sp.toNatClampNeg dp.toNatClampNeg n.toNatClampNeg)) = mkM (uC σ a0 2 sp dp n) := rfl
theorem mkM_A3 (σ : bS) (i v : Int32) : (mkM σ).set 3 (.inl (0, 2001, upd (σ.2.1 3) i.toNatClampNeg v)) = mkM (uA σ 3 i v) := rfl
theorem mkM_C3 (σ : bS) (a0 : Nat) (sp dp n : Int32) : (mkM σ).set 3 (.inl (0, 2001, va_cpy (σ.2.1 a0) (σ.2.1 3) sp.toNatClampNeg dp.toNatClampNeg n.toNatClampNeg)) = mkM (uC σ a0 3 sp dp n) := rfl
theorem mkM_A4 (σ : bS) (i v : Int32) : (mkM σ).set 4 (.inl (0, 2001, upd (σ.2.1 4) i.toNatClampNeg v)) = mkM (uA σ 4 i v) := rfl
theorem mkM_C4 (σ : bS) (a0 : Nat) (sp dp n : Int32) : (mkM σ).set 4 (.inl (0, 2001, va_cpy (σ.2.1 a0) (σ.2.1 4) sp.toNatClampNeg dp.toNatClampNeg n.toNatClampNeg)) = mkM (uC σ a0 4 sp dp n) := rfl
theorem mkM_A5 (σ : bS) (i : Int32) (v : Int64) : (mkM σ).set 5 (.inr (.inl (2001, vp_updL (σ.2.2 5) i.toNatClampNeg v))) = mkM (uJ σ 5 i v) := rfl
theorem mkM_A6 (σ : bS) (i v : Int32) : (mkM σ).set 6 (.inl (0, 2, upd (σ.2.1 6) i.toNatClampNeg v)) = mkM (uA σ 6 i v) := rfl
theorem mkM_C6 (σ : bS) (a0 : Nat) (sp dp n : Int32) : (mkM σ).set 6 (.inl (0, 2, va_cpy (σ.2.1 a0) (σ.2.1 6) sp.toNatClampNeg dp.toNatClampNeg n.toNatClampNeg)) = mkM (uC σ a0 6 sp dp n) := rfl
theorem mkM_A7 (σ : bS) (i v : Int32) : (mkM σ).set 7 (.inl (0, 1000, upd (σ.2.1 7) i.toNatClampNeg v)) = mkM (uA σ 7 i v) := rfl
theorem mkM_C7 (σ : bS) (a0 : Nat) (sp dp n : Int32) : (mkM σ).set 7 (.inl (0, 1000, va_cpy (σ.2.1 a0) (σ.2.1 7) sp.toNatClampNeg dp.toNatClampNeg n.toNatClampNeg)) = mkM (uC σ a0 7 sp dp n) := rfl
theorem mkM_A8 (σ : bS) (i v : Int32) : (mkM σ).set 8 (.inl (0, 1000, upd (σ.2.1 8) i.toNatClampNeg v)) = mkM (uA σ 8 i v) := rfl
theorem mkM_C8 (σ : bS) (a0 : Nat) (sp dp n : Int32) : (mkM σ).set 8 (.inl (0, 1000, va_cpy (σ.2.1 a0) (σ.2.1 8) sp.toNatClampNeg dp.toNatClampNeg n.toNatClampNeg)) = mkM (uC σ a0 8 sp dp n) := rfl
theorem mkM_A9 (σ : bS) (i v : Int32) : (mkM σ).set 9 (.inl (0, 28, upd (σ.2.1 9) i.toNatClampNeg v)) = mkM (uA σ 9 i v) := rfl
theorem mkM_C9 (σ : bS) (a0 : Nat) (sp dp n : Int32) : (mkM σ).set 9 (.inl (0, 28, va_cpy (σ.2.1 a0) (σ.2.1 9) sp.toNatClampNeg dp.toNatClampNeg n.toNatClampNeg)) = mkM (uC σ a0 9 sp dp n) := rfl
theorem mkM_A10 (σ : bS) (i v : Int32) : (mkM σ).set 10 (.inl (0, 392, upd (σ.2.1 10) i.toNatClampNeg v)) = mkM (uA σ 10 i v) := rfl
theorem mkM_C10 (σ : bS) (a0 : Nat) (sp dp n : Int32) : (mkM σ).set 10 (.inl (0, 392, va_cpy (σ.2.1 a0) (σ.2.1 10) sp.toNatClampNeg dp.toNatClampNeg n.toNatClampNeg)) = mkM (uC σ a0 10 sp dp n) := rfl
theorem mkM_A11 (σ : bS) (i v : Int32) : (mkM σ).set 11 (.inl (0, 392, upd (σ.2.1 11) i.toNatClampNeg v)) = mkM (uA σ 11 i v) := rfl
theorem mkM_C11 (σ : bS) (a0 : Nat) (sp dp n : Int32) : (mkM σ).set 11 (.inl (0, 392, va_cpy (σ.2.1 a0) (σ.2.1 11) sp.toNatClampNeg dp.toNatClampNeg n.toNatClampNeg)) = mkM (uC σ a0 11 sp dp n) := rfl
theorem mkM_A12 (σ : bS) (i v : Int32) : (mkM σ).set 12 (.inl (0, 2, upd (σ.2.1 12) i.toNatClampNeg v)) = mkM (uA σ 12 i v) := rfl
theorem mkM_C12 (σ : bS) (a0 : Nat) (sp dp n : Int32) : (mkM σ).set 12 (.inl (0, 2, va_cpy (σ.2.1 a0) (σ.2.1 12) sp.toNatClampNeg dp.toNatClampNeg n.toNatClampNeg)) = mkM (uC σ a0 12 sp dp n) := rfl
theorem mkM_A13 (σ : bS) (i v : Int32) : (mkM σ).set 13 (.inl (0, 2, upd (σ.2.1 13) i.toNatClampNeg v)) = mkM (uA σ 13 i v) := rfl
theorem mkM_C13 (σ : bS) (a0 : Nat) (sp dp n : Int32) : (mkM σ).set 13 (.inl (0, 2, va_cpy (σ.2.1 a0) (σ.2.1 13) sp.toNatClampNeg dp.toNatClampNeg n.toNatClampNeg)) = mkM (uC σ a0 13 sp dp n) := rfl
theorem mkM_A14 (σ : bS) (i v : Int32) : (mkM σ).set 14 (.inl (0, 20, upd (σ.2.1 14) i.toNatClampNeg v)) = mkM (uA σ 14 i v) := rfl
theorem mkM_C14 (σ : bS) (a0 : Nat) (sp dp n : Int32) : (mkM σ).set 14 (.inl (0, 20, va_cpy (σ.2.1 a0) (σ.2.1 14) sp.toNatClampNeg dp.toNatClampNeg n.toNatClampNeg)) = mkM (uC σ a0 14 sp dp n) := rfl
theorem mkM_A15 (σ : bS) (i v : Int32) : (mkM σ).set 15 (.inl (0, 20, upd (σ.2.1 15) i.toNatClampNeg v)) = mkM (uA σ 15 i v) := rfl
theorem mkM_C15 (σ : bS) (a0 : Nat) (sp dp n : Int32) : (mkM σ).set 15 (.inl (0, 20, va_cpy (σ.2.1 a0) (σ.2.1 15) sp.toNatClampNeg dp.toNatClampNeg n.toNatClampNeg)) = mkM (uC σ a0 15 sp dp n) := rfl
theorem mkM_A16 (σ : bS) (i v : Int32) : (mkM σ).set 16 (.inl (0, 20, upd (σ.2.1 16) i.toNatClampNeg v)) = mkM (uA σ 16 i v) := rfl
theorem mkM_C16 (σ : bS) (a0 : Nat) (sp dp n : Int32) : (mkM σ).set 16 (.inl (0, 20, va_cpy (σ.2.1 a0) (σ.2.1 16) sp.toNatClampNeg dp.toNatClampNeg n.toNatClampNeg)) = mkM (uC σ a0 16 sp dp n) := rfl
theorem mkM_A17 (σ : bS) (i v : Int32) : (mkM σ).set 17 (.inl (0, 2, upd (σ.2.1 17) i.toNatClampNeg v)) = mkM (uA σ 17 i v) := rfl
theorem mkM_C17 (σ : bS) (a0 : Nat) (sp dp n : Int32) : (mkM σ).set 17 (.inl (0, 2, va_cpy (σ.2.1 a0) (σ.2.1 17) sp.toNatClampNeg dp.toNatClampNeg n.toNatClampNeg)) = mkM (uC σ a0 17 sp dp n) := rfl
theorem mkM_A18 (σ : bS) (i v : Int32) : (mkM σ).set 18 (.inl (0, 8, upd (σ.2.1 18) i.toNatClampNeg v)) = mkM (uA σ 18 i v) := rfl
theorem mkM_C18 (σ : bS) (a0 : Nat) (sp dp n : Int32) : (mkM σ).set 18 (.inl (0, 8, va_cpy (σ.2.1 a0) (σ.2.1 18) sp.toNatClampNeg dp.toNatClampNeg n.toNatClampNeg)) = mkM (uC σ a0 18 sp dp n) := rfl
theorem mkM_A19 (σ : bS) (i v : Int32) : (mkM σ).set 19 (.inl (0, 8, upd (σ.2.1 19) i.toNatClampNeg v)) = mkM (uA σ 19 i v) := rfl
theorem mkM_C19 (σ : bS) (a0 : Nat) (sp dp n : Int32) : (mkM σ).set 19 (.inl (0, 8, va_cpy (σ.2.1 a0) (σ.2.1 19) sp.toNatClampNeg dp.toNatClampNeg n.toNatClampNeg)) = mkM (uC σ a0 19 sp dp n) := rfl
theorem mkM_A20 (σ : bS) (i v : Int32) : (mkM σ).set 20 (.inl (0, 2, upd (σ.2.1 20) i.toNatClampNeg v)) = mkM (uA σ 20 i v) := rfl
theorem mkM_C20 (σ : bS) (a0 : Nat) (sp dp n : Int32) : (mkM σ).set 20 (.inl (0, 2, va_cpy (σ.2.1 a0) (σ.2.1 20) sp.toNatClampNeg dp.toNatClampNeg n.toNatClampNeg)) = mkM (uC σ a0 20 sp dp n) := rfl
theorem mkM_A21 (σ : bS) (i v : Int32) : (mkM σ).set 21 (.inl (0, 14, upd (σ.2.1 21) i.toNatClampNeg v)) = mkM (uA σ 21 i v) := rfl
theorem mkM_C21 (σ : bS) (a0 : Nat) (sp dp n : Int32) : (mkM σ).set 21 (.inl (0, 14, va_cpy (σ.2.1 a0) (σ.2.1 21) sp.toNatClampNeg dp.toNatClampNeg n.toNatClampNeg)) = mkM (uC σ a0 21 sp dp n) := rfl
theorem mkM_A22 (σ : bS) (i v : Int32) : (mkM σ).set 22 (.inl (0, 14, upd (σ.2.1 22) i.toNatClampNeg v)) = mkM (uA σ 22 i v) := rfl
theorem mkM_C22 (σ : bS) (a0 : Nat) (sp dp n : Int32) : (mkM σ).set 22 (.inl (0, 14, va_cpy (σ.2.1 a0) (σ.2.1 22) sp.toNatClampNeg dp.toNatClampNeg n.toNatClampNeg)) = mkM (uC σ a0 22 sp dp n) := rfl
theorem mkM_A23 (σ : bS) (i v : Int32) : (mkM σ).set 23 (.inl (0, 14, upd (σ.2.1 23) i.toNatClampNeg v)) = mkM (uA σ 23 i v) := rfl
theorem mkM_C23 (σ : bS) (a0 : Nat) (sp dp n : Int32) : (mkM σ).set 23 (.inl (0, 14, va_cpy (σ.2.1 a0) (σ.2.1 23) sp.toNatClampNeg dp.toNatClampNeg n.toNatClampNeg)) = mkM (uC σ a0 23 sp dp n) := rfl
theorem mkM_A24 (σ : bS) (i v : Int32) : (mkM σ).set 24 (.inl (0, 8, upd (σ.2.1 24) i.toNatClampNeg v)) = mkM (uA σ 24 i v) := rfl
theorem mkM_C24 (σ : bS) (a0 : Nat) (sp dp n : Int32) : (mkM σ).set 24 (.inl (0, 8, va_cpy (σ.2.1 a0) (σ.2.1 24) sp.toNatClampNeg dp.toNatClampNeg n.toNatClampNeg)) = mkM (uC σ a0 24 sp dp n) := rfl
theorem mkM_A25 (σ : bS) (i : Int32) (v : Int64) : (mkM σ).set 25 (.inr (.inl (20, vp_updL (σ.2.2 25) i.toNatClampNeg v))) = mkM (uJ σ 25 i v) := rfl
theorem mkM_A26 (σ : bS) (i v : Int32) : (mkM σ).set 26 (.inl (0, 20, upd (σ.2.1 26) i.toNatClampNeg v)) = mkM (uA σ 26 i v) := rfl
theorem mkM_C26 (σ : bS) (a0 : Nat) (sp dp n : Int32) : (mkM σ).set 26 (.inl (0, 20, va_cpy (σ.2.1 a0) (σ.2.1 26) sp.toNatClampNeg dp.toNatClampNeg n.toNatClampNeg)) = mkM (uC σ a0 26 sp dp n) := rfl
theorem mkM_A27 (σ : bS) (i v : Int32) : (mkM σ).set 27 (.inl (0, 20, upd (σ.2.1 27) i.toNatClampNeg v)) = mkM (uA σ 27 i v) := rfl
theorem mkM_C27 (σ : bS) (a0 : Nat) (sp dp n : Int32) : (mkM σ).set 27 (.inl (0, 20, va_cpy (σ.2.1 a0) (σ.2.1 27) sp.toNatClampNeg dp.toNatClampNeg n.toNatClampNeg)) = mkM (uC σ a0 27 sp dp n) := rfl
theorem mkM_A28 (σ : bS) (i v : Int32) : (mkM σ).set 28 (.inl (0, 500, upd (σ.2.1 28) i.toNatClampNeg v)) = mkM (uA σ 28 i v) := rfl
theorem mkM_C28 (σ : bS) (a0 : Nat) (sp dp n : Int32) : (mkM σ).set 28 (.inl (0, 500, va_cpy (σ.2.1 a0) (σ.2.1 28) sp.toNatClampNeg dp.toNatClampNeg n.toNatClampNeg)) = mkM (uC σ a0 28 sp dp n) := rfl
theorem mkM_A29 (σ : bS) (i v : Int32) : (mkM σ).set 29 (.inl (0, 2208, upd (σ.2.1 29) i.toNatClampNeg v)) = mkM (uA σ 29 i v) := rfl
theorem mkM_C29 (σ : bS) (a0 : Nat) (sp dp n : Int32) : (mkM σ).set 29 (.inl (0, 2208, va_cpy (σ.2.1 a0) (σ.2.1 29) sp.toNatClampNeg dp.toNatClampNeg n.toNatClampNeg)) = mkM (uC σ a0 29 sp dp n) := rfl
theorem mkM_A30 (σ : bS) (i v : Int32) : (mkM σ).set 30 (.inl (2, 3, upd (σ.2.1 30) i.toNatClampNeg v)) = mkM (uA σ 30 i v) := rfl
theorem mkM_A31 (σ : bS) (i v : Int32) : (mkM σ).set 31 (.inl (0, 8, upd (σ.2.1 31) i.toNatClampNeg v)) = mkM (uA σ 31 i v) := rfl
theorem mkM_C31 (σ : bS) (a0 : Nat) (sp dp n : Int32) : (mkM σ).set 31 (.inl (0, 8, va_cpy (σ.2.1 a0) (σ.2.1 31) sp.toNatClampNeg dp.toNatClampNeg n.toNatClampNeg)) = mkM (uC σ a0 31 sp dp n) := rfl
theorem mkM_A32 (σ : bS) (i v : Int32) : (mkM σ).set 32 (.inl (0, 500, upd (σ.2.1 32) i.toNatClampNeg v)) = mkM (uA σ 32 i v) := rfl
theorem mkM_C32 (σ : bS) (a0 : Nat) (sp dp n : Int32) : (mkM σ).set 32 (.inl (0, 500, va_cpy (σ.2.1 a0) (σ.2.1 32) sp.toNatClampNeg dp.toNatClampNeg n.toNatClampNeg)) = mkM (uC σ a0 32 sp dp n) := rfl
theorem mkM_A33 (σ : bS) (i v : Int32) : (mkM σ).set 33 (.inl (0, 96, upd (σ.2.1 33) i.toNatClampNeg v)) = mkM (uA σ 33 i v) := rfl
theorem mkM_C33 (σ : bS) (a0 : Nat) (sp dp n : Int32) : (mkM σ).set 33 (.inl (0, 96, va_cpy (σ.2.1 a0) (σ.2.1 33) sp.toNatClampNeg dp.toNatClampNeg n.toNatClampNeg)) = mkM (uC σ a0 33 sp dp n) := rfl
theorem mkM_A34 (σ : bS) (i v : Int32) : (mkM σ).set 34 (.inl (0, 7, upd (σ.2.1 34) i.toNatClampNeg v)) = mkM (uA σ 34 i v) := rfl
theorem mkM_C34 (σ : bS) (a0 : Nat) (sp dp n : Int32) : (mkM σ).set 34 (.inl (0, 7, va_cpy (σ.2.1 a0) (σ.2.1 34) sp.toNatClampNeg dp.toNatClampNeg n.toNatClampNeg)) = mkM (uC σ a0 34 sp dp n) := rfl
theorem mkM_A35 (σ : bS) (i v : Int32) : (mkM σ).set 35 (.inl (2, 7, upd (σ.2.1 35) i.toNatClampNeg v)) = mkM (uA σ 35 i v) := rfl
theorem mkM_A36 (σ : bS) (i v : Int32) : (mkM σ).set 36 (.inl (0, 6, upd (σ.2.1 36) i.toNatClampNeg v)) = mkM (uA σ 36 i v) := rfl
theorem mkM_C36 (σ : bS) (a0 : Nat) (sp dp n : Int32) : (mkM σ).set 36 (.inl (0, 6, va_cpy (σ.2.1 a0) (σ.2.1 36) sp.toNatClampNeg dp.toNatClampNeg n.toNatClampNeg)) = mkM (uC σ a0 36 sp dp n) := rfl
theorem mkM_A37 (σ : bS) (i v : Int32) : (mkM σ).set 37 (.inl (0, 7, upd (σ.2.1 37) i.toNatClampNeg v)) = mkM (uA σ 37 i v) := rfl
theorem mkM_C37 (σ : bS) (a0 : Nat) (sp dp n : Int32) : (mkM σ).set 37 (.inl (0, 7, va_cpy (σ.2.1 a0) (σ.2.1 37) sp.toNatClampNeg dp.toNatClampNeg n.toNatClampNeg)) = mkM (uC σ a0 37 sp dp n) := rfl
theorem mkM_A38 (σ : bS) (i v : Int32) : (mkM σ).set 38 (.inl (0, 6, upd (σ.2.1 38) i.toNatClampNeg v)) = mkM (uA σ 38 i v) := rfl
theorem mkM_C38 (σ : bS) (a0 : Nat) (sp dp n : Int32) : (mkM σ).set 38 (.inl (0, 6, va_cpy (σ.2.1 a0) (σ.2.1 38) sp.toNatClampNeg dp.toNatClampNeg n.toNatClampNeg)) = mkM (uC σ a0 38 sp dp n) := rfl
theorem mkM_A39 (σ : bS) (i v : Int32) : (mkM σ).set 39 (.inl (0, 6, upd (σ.2.1 39) i.toNatClampNeg v)) = mkM (uA σ 39 i v) := rfl
theorem mkM_C39 (σ : bS) (a0 : Nat) (sp dp n : Int32) : (mkM σ).set 39 (.inl (0, 6, va_cpy (σ.2.1 a0) (σ.2.1 39) sp.toNatClampNeg dp.toNatClampNeg n.toNatClampNeg)) = mkM (uC σ a0 39 sp dp n) := rfl
theorem mkM_A40 (σ : bS) (i v : Int32) : (mkM σ).set 40 (.inl (0, 6, upd (σ.2.1 40) i.toNatClampNeg v)) = mkM (uA σ 40 i v) := rfl
theorem mkM_C40 (σ : bS) (a0 : Nat) (sp dp n : Int32) : (mkM σ).set 40 (.inl (0, 6, va_cpy (σ.2.1 a0) (σ.2.1 40) sp.toNatClampNeg dp.toNatClampNeg n.toNatClampNeg)) = mkM (uC σ a0 40 sp dp n) := rfl
theorem mkM_A41 (σ : bS) (i v : Int32) : (mkM σ).set 41 (.inl (0, 7, upd (σ.2.1 41) i.toNatClampNeg v)) = mkM (uA σ 41 i v) := rfl
theorem mkM_C41 (σ : bS) (a0 : Nat) (sp dp n : Int32) : (mkM σ).set 41 (.inl (0, 7, va_cpy (σ.2.1 a0) (σ.2.1 41) sp.toNatClampNeg dp.toNatClampNeg n.toNatClampNeg)) = mkM (uC σ a0 41 sp dp n) := rfl
theorem mkM_A42 (σ : bS) (i v : Int32) : (mkM σ).set 42 (.inl (0, 7, upd (σ.2.1 42) i.toNatClampNeg v)) = mkM (uA σ 42 i v) := rfl
theorem mkM_C42 (σ : bS) (a0 : Nat) (sp dp n : Int32) : (mkM σ).set 42 (.inl (0, 7, va_cpy (σ.2.1 a0) (σ.2.1 42) sp.toNatClampNeg dp.toNatClampNeg n.toNatClampNeg)) = mkM (uC σ a0 42 sp dp n) := rfl
theorem mkM_A43 (σ : bS) (i v : Int32) : (mkM σ).set 43 (.inl (0, 6, upd (σ.2.1 43) i.toNatClampNeg v)) = mkM (uA σ 43 i v) := rfl
theorem mkM_C43 (σ : bS) (a0 : Nat) (sp dp n : Int32) : (mkM σ).set 43 (.inl (0, 6, va_cpy (σ.2.1 a0) (σ.2.1 43) sp.toNatClampNeg dp.toNatClampNeg n.toNatClampNeg)) = mkM (uC σ a0 43 sp dp n) := rfl
theorem mkM_A44 (σ : bS) (i v : Int32) : (mkM σ).set 44 (.inl (0, 12, upd (σ.2.1 44) i.toNatClampNeg v)) = mkM (uA σ 44 i v) := rfl
theorem mkM_C44 (σ : bS) (a0 : Nat) (sp dp n : Int32) : (mkM σ).set 44 (.inl (0, 12, va_cpy (σ.2.1 a0) (σ.2.1 44) sp.toNatClampNeg dp.toNatClampNeg n.toNatClampNeg)) = mkM (uC σ a0 44 sp dp n) := rfl
theorem mkM_A45 (σ : bS) (i v : Int32) : (mkM σ).set 45 (.inl (0, 12, upd (σ.2.1 45) i.toNatClampNeg v)) = mkM (uA σ 45 i v) := rfl
theorem mkM_C45 (σ : bS) (a0 : Nat) (sp dp n : Int32) : (mkM σ).set 45 (.inl (0, 12, va_cpy (σ.2.1 a0) (σ.2.1 45) sp.toNatClampNeg dp.toNatClampNeg n.toNatClampNeg)) = mkM (uC σ a0 45 sp dp n) := rfl
theorem mkM_A46 (σ : bS) (i v : Int32) : (mkM σ).set 46 (.inl (0, 7, upd (σ.2.1 46) i.toNatClampNeg v)) = mkM (uA σ 46 i v) := rfl
theorem mkM_C46 (σ : bS) (a0 : Nat) (sp dp n : Int32) : (mkM σ).set 46 (.inl (0, 7, va_cpy (σ.2.1 a0) (σ.2.1 46) sp.toNatClampNeg dp.toNatClampNeg n.toNatClampNeg)) = mkM (uC σ a0 46 sp dp n) := rfl
theorem mkM_A47 (σ : bS) (i v : Int32) : (mkM σ).set 47 (.inl (0, 7, upd (σ.2.1 47) i.toNatClampNeg v)) = mkM (uA σ 47 i v) := rfl
theorem mkM_C47 (σ : bS) (a0 : Nat) (sp dp n : Int32) : (mkM σ).set 47 (.inl (0, 7, va_cpy (σ.2.1 a0) (σ.2.1 47) sp.toNatClampNeg dp.toNatClampNeg n.toNatClampNeg)) = mkM (uC σ a0 47 sp dp n) := rfl
