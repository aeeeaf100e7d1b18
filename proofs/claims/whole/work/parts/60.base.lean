theorem ob_def {α β : Type} (a : α) (k : α → Option β) : ob (some a) k = k a := rfl
theorem bin_nI {β : Type} {j N : Nat} (h : j < N) (hN : N < 2 ^ 31) (x : Option β) : bin_ (nI j) N x = x := by
  unfold bin_
  rw [if_neg (nI_in h hN)]
theorem uI_1 (σ : bS) (o k : Nat) (v : Int32) (o1 k1 : Nat) : (uI σ o k v).1 o1 k1 = if o1 = o ∧ k1 = k then v else σ.1 o1 k1 := by
  show (bif (Nat.beq o1 o && Nat.beq k1 k) then v else σ.1 o1 k1) = _
  by_cases h1 : o1 = o
  · by_cases h2 : k1 = k
    · simp [h1, h2]
    · simp [h1, h2, bbeq_ne h2]
  · simp [h1, bbeq_ne h1]
theorem uI_2 (σ : bS) (o k : Nat) (v : Int32) : (uI σ o k v).2 = σ.2 := rfl
theorem uA_1 (σ : bS) (a : Nat) (i v : Int32) : (uA σ a i v).1 = σ.1 := rfl
theorem uA_3 (σ : bS) (a : Nat) (i v : Int32) : (uA σ a i v).2.2 = σ.2.2 := rfl
theorem uA_2 (σ : bS) (a : Nat) (i v : Int32) (a1 j : Nat) : (uA σ a i v).2.1 a1 j = if a1 = a ∧ j = i.toNatClampNeg then v else σ.2.1 a1 j := by
  show (bif Nat.beq a1 a then upd (σ.2.1 a) i.toNatClampNeg v else σ.2.1 a1) j = _
  by_cases h1 : a1 = a
  · subst h1
    by_cases h2 : j = i.toNatClampNeg <;> simp [upd, h2]
  · simp [h1, bbeq_ne h1]
theorem uJ_1 (σ : bS) (a : Nat) (i : Int32) (v : Int64) : (uJ σ a i v).1 = σ.1 := rfl
theorem uJ_2 (σ : bS) (a : Nat) (i : Int32) (v : Int64) : (uJ σ a i v).2.1 = σ.2.1 := rfl
theorem uJ_3 (σ : bS) (a : Nat) (i : Int32) (v : Int64) (a1 j : Nat) : (uJ σ a i v).2.2 a1 j = if a1 = a ∧ j = i.toNatClampNeg then v else σ.2.2 a1 j := by
  show (bif Nat.beq a1 a then vp_updL (σ.2.2 a) i.toNatClampNeg v else σ.2.2 a1) j = _
  by_cases h1 : a1 = a
  · subst h1
    by_cases h2 : j = i.toNatClampNeg <;> simp [vp_updL, h2]
  · simp [h1, bbeq_ne h1]
theorem uC_1 (σ : bS) (a0 a : Nat) (sp dp n : Int32) : (uC σ a0 a sp dp n).1 = σ.1 := rfl
theorem uC_3 (σ : bS) (a0 a : Nat) (sp dp n : Int32) : (uC σ a0 a sp dp n).2.2 = σ.2.2 := rfl
theorem uC_2 (σ : bS) (a0 a : Nat) (sp dp n : Int32) (a1 j : Nat) : (uC σ a0 a sp dp n).2.1 a1 j = if a1 = a ∧ dp.toNatClampNeg ≤ j ∧ j < dp.toNatClampNeg + n.toNatClampNeg then σ.2.1 a0 (sp.toNatClampNeg + (j - dp.toNatClampNeg)) else σ.2.1 a1 j := by
  show (bif Nat.beq a1 a then va_cpy (σ.2.1 a0) (σ.2.1 a) sp.toNatClampNeg dp.toNatClampNeg n.toNatClampNeg else σ.2.1 a1) j = _
  by_cases h1 : a1 = a
  · subst h1
    simp [va_cpy]
  · simp [h1, bbeq_ne h1]
/-- cells that are unchanged: all but those of P -/
def frC (P : Nat → Prop) (σ σ' : bS) : Prop := ∀ a, ¬ P a → σ'.1 a = σ.1 a ∧ σ'.2.1 a = σ.2.1 a ∧ σ'.2.2 a = σ.2.2 a
theorem frC.rf {P : Nat → Prop} {σ : bS} : frC P σ σ := fun _ _ => ⟨rfl, rfl, rfl⟩
theorem frC.trans {P : Nat → Prop} {σ σ1 σ2 : bS} (h : frC P σ σ1) (h' : frC P σ1 σ2) : frC P σ σ2 := fun a ha => ⟨(h' a ha).1.trans (h a ha).1, (h' a ha).2.1.trans (h a ha).2.1, (h' a ha).2.2.trans (h a ha).2.2⟩
theorem frC.mono {P Q : Nat → Prop} {σ σ1 : bS} (h : frC P σ σ1) (hPQ : ∀ a, P a → Q a) : frC Q σ σ1 := fun a ha => h a (fun z => ha (hPQ a z))
theorem frC.uI {P : Nat → Prop} {σ : bS} {o k : Nat} {v : Int32} (h : P o) : frC P σ (uI σ o k v) := fun a ha => ⟨by
  funext k1
  rw [uI_1, if_neg]
  rintro ⟨rfl, -⟩
  exact ha h, rfl, rfl⟩
theorem frC.uA {P : Nat → Prop} {σ : bS} {o : Nat} {i v : Int32} (h : P o) : frC P σ (uA σ o i v) := fun a ha => ⟨rfl, by
  funext k1
  rw [uA_2, if_neg]
  rintro ⟨rfl, -⟩
  exact ha h, rfl⟩
theorem frC.uC {P : Nat → Prop} {σ : bS} {o o0 : Nat} {sp dp n : Int32} (h : P o) : frC P σ (uC σ o0 o sp dp n) := fun a ha => ⟨rfl, by
  funext k1
  rw [uC_2, if_neg]
  rintro ⟨rfl, -⟩
  exact ha h, rfl⟩
/-- a one-bit word -/
theorem bz_0 (σ : bS) : bz ci_0 σ = some (0, σ) := rfl
theorem bz_1 (σ : bS) : bz ci_1 σ = some (1, σ) := rfl
theorem nI_lt_of {x : Int32} (h0 : ¬ x < 0) {b : Nat} (hb : b < 2 ^ 31) (h : x < nI b) : ∃ j, j < b ∧ x = nI j := by
  obtain ⟨j, hj, rfl⟩ := nI_of h0
  exact ⟨j, (nI_ltI hj hb).mp h, rfl⟩
theorem nI_le_of {x : Int32} (h0 : ¬ x < 0) {b : Nat} (hb : b < 2 ^ 31) (h : x ≤ nI b) : ∃ j, j ≤ b ∧ x = nI j := by
  obtain ⟨j, hj, rfl⟩ := nI_of h0
  exact ⟨j, (nI_leI hj hb).mp h, rfl⟩
theorem nI_sub {a b : Nat} (h : b ≤ a) : nI a - nI b = nI (a - b) := by
  have e : nI (a - b) + nI b = nI a := by rw [nI_add]; congr 1; omega
  rw [← e]
  exact Int32.add_sub_cancel _ _
/-- the set of those of the first n that have a property, as bits -/
def bitsOf (P : Nat → Prop) [DecidablePred P] : Nat → Int32
  | 0 => 0
  | n + 1 => if P n then bitsOf P n ||| ((1 : Int32) <<< (nI n &&& 31)) else bitsOf P n
