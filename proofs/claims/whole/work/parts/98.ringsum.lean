/-! RINGS: sums over banks and over labels -/
def sm (f : Nat → Nat) : Nat → Nat
  | 0 => 0
  | n + 1 => sm f n + f n
theorem sm_congr {f g : Nat → Nat} : ∀ n, (∀ k, k < n → f k = g k) → sm f n = sm g n
  | 0, _ => rfl
  | n + 1, h => by rw [sm, sm, sm_congr n (fun k hk => h k (by omega)), h n (by omega)]
theorem sm_zero {f : Nat → Nat} : ∀ n, (∀ k, k < n → f k = 0) → sm f n = 0
  | 0, _ => rfl
  | n + 1, h => by rw [sm, sm_zero n (fun k hk => h k (by omega)), h n (by omega)]
theorem sm_ge {f : Nat → Nat} : ∀ n k, k < n → f k ≤ sm f n
  | 0, k, h => by omega
  | n + 1, k, h => by
    rw [sm]
    by_cases e : k = n
    · subst e
      omega
    · have := sm_ge (f := f) n k (by omega)
      omega
theorem sm_le {f : Nat → Nat} {c : Nat} : ∀ n, (∀ k, k < n → f k ≤ c) → sm f n ≤ c * n
  | 0, _ => by simp [sm]
  | n + 1, h => by
    have a := sm_le (f := f) n (fun k hk => h k (by omega))
    have b := h n (by omega)
    rw [sm, Nat.mul_succ]
    omega
theorem sm_upd {f g : Nat → Nat} {l0 d : Nat} : ∀ n, l0 < n → (∀ k, k < n → ¬ k = l0 → f k = g k) → g l0 = f l0 + d → sm g n = sm f n + d
  | 0, h, _, _ => by omega
  | n + 1, h, h1, h2 => by
    rw [sm, sm]
    by_cases e : l0 = n
    · subst e
      rw [h2, sm_congr (f := f) (g := g) l0 (fun k hk => h1 k (by omega) (by omega))]
      omega
    · rw [sm_upd n (by omega) (fun k hk => h1 k (by omega)) h2, h1 n (by omega) (by omega)]
      omega
theorem sm_add (f g : Nat → Nat) : ∀ n, sm (fun k => f k + g k) n = sm f n + sm g n
  | 0 => rfl
  | n + 1 => by
    rw [sm, sm, sm, sm_add f g n]
    omega
def hit (p : Nat → Nat) : Nat → Nat → Bool
  | 0, _ => false
  | n + 1, l => hit p n l || (p n == l)
theorem hit_iff (p : Nat → Nat) (l : Nat) : ∀ n, hit p n l = true ↔ ∃ a, a < n ∧ p a = l
  | 0 => ⟨fun h => (by cases h), fun ⟨a, h, _⟩ => by omega⟩
  | n + 1 => by
    rw [hit, Bool.or_eq_true, hit_iff p l n, beq_iff_eq]
    constructor
    · rintro (⟨a, h, e⟩ | e)
      · exact ⟨a, by omega, e⟩
      · exact ⟨n, by omega, e⟩
    · rintro ⟨a, h, e⟩
      by_cases z : a = n
      · subst z
        exact Or.inr e
      · exact Or.inl ⟨a, by omega, e⟩
theorem rep_sum {p H : Nat → Nat} (hp : ∀ a, a < 6 → p a < 6) : ∀ n, n ≤ 6 → sm (fun l => if hit p n l = true then H l else 0) 6 = sm (fun b => if hit p b (p b) = true then 0 else H (p b)) n
  | 0, _ => sm_zero 6 (fun k _ => if_neg Bool.false_ne_true)
  | n + 1, h => by
    have e : sm (fun b => if hit p b (p b) = true then 0 else H (p b)) (n + 1) = sm (fun b => if hit p b (p b) = true then 0 else H (p b)) n + (if hit p n (p n) = true then 0 else H (p n)) := rfl
    rw [e, ← rep_sum hp n (by omega)]
    refine sm_upd (l0 := p n) 6 (hp n (by omega)) (fun k hk e => ?_) ?_
    · show (if hit p n k = true then H k else 0) = (if (hit p n k || (p n == k)) = true then H k else 0)
      rw [show (p n == k) = false from beq_eq_false_iff_ne.mpr (fun z => e z.symm), Bool.or_false]
    · show (if (hit p n (p n) || (p n == p n)) = true then H (p n) else 0) = (if hit p n (p n) = true then H (p n) else 0) + (if hit p n (p n) = true then 0 else H (p n))
      rw [show (p n == p n) = true from beq_self_eq_true _, Bool.or_true, if_pos rfl]
      split <;> omega
theorem relab {p q H K : Nat → Nat} (hp : ∀ a, a < 6 → p a < 6) (hq : ∀ a, a < 6 → q a < 6) (hpq : ∀ a b, a < 6 → b < 6 → (p a = p b ↔ q a = q b)) (hH : ∀ l, l < 6 → (∀ b, b < 6 → ¬ p b = l) → H l = 0) (hK : ∀ l, l < 6 → (∀ b, b < 6 → ¬ q b = l) → K l = 0) (hHK : ∀ b, b < 6 → H (p b) = K (q b)) : sm H 6 = sm K 6 := by
  have e1 : sm H 6 = sm (fun l => if hit p 6 l = true then H l else 0) 6 := sm_congr 6 (fun l hl => by
    by_cases z : hit p 6 l = true
    · rw [if_pos z]
    · rw [if_neg z]
      exact hH l hl (fun b hb e => z ((hit_iff p l 6).mpr ⟨b, hb, e⟩)))
  have e2 : sm K 6 = sm (fun l => if hit q 6 l = true then K l else 0) 6 := sm_congr 6 (fun l hl => by
    by_cases z : hit q 6 l = true
    · rw [if_pos z]
    · rw [if_neg z]
      exact hK l hl (fun b hb e => z ((hit_iff q l 6).mpr ⟨b, hb, e⟩)))
  rw [e1, e2, rep_sum hp 6 (by omega), rep_sum hq 6 (by omega)]
  refine sm_congr 6 (fun b hb => ?_)
  have e : hit p b (p b) = hit q b (q b) := by
    apply Bool.eq_iff_iff.mpr
    rw [hit_iff, hit_iff]
    constructor
    · rintro ⟨a, h1, h2⟩
      exact ⟨a, h1, (hpq a b (by omega) hb).mp h2⟩
    · rintro ⟨a, h1, h2⟩
      exact ⟨a, h1, (hpq a b (by omega) hb).mpr h2⟩
  show (if hit p b (p b) = true then 0 else H (p b)) = (if hit q b (q b) = true then 0 else K (q b))
  rw [e, hHK b hb]
/-! arcs: fr, to of each man of the set s -/
def oA (fr : Nat → Nat) (s : Nat) : Nat → Nat → Nat
  | 0, _ => 0
  | m + 1, k => if s.testBit m = true then oA fr s m k + (if k = fr m then 1 else 0) else oA fr s m k
/-- the class's labels: what has the second's gets the first's -/
def pA (fr to : Nat → Nat) (s : Nat) : Nat → Nat → Nat
  | 0, k => k
  | m + 1, k => if s.testBit m = true then (if pA fr to s m k = pA fr to s m (to m) then pA fr to s m (fr m) else pA fr to s m k) else pA fr to s m k
theorem oA_le (fr : Nat → Nat) (s k : Nat) : ∀ m, oA fr s m k ≤ m
  | 0 => Nat.le_refl _
  | m + 1 => by
    have := oA_le fr s k m
    rw [oA]
    split
    · split <;> omega
    · omega
theorem pA_lt {fr to : Nat → Nat} {s : Nat} (hf : ∀ m, s.testBit m = true → fr m < 6) : ∀ m k, k < 6 → pA fr to s m k < 6
  | 0, k, h => h
  | m + 1, k, h => by
    rw [pA]
    split
    · split
      · exact pA_lt hf m _ (hf m (by assumption))
      · exact pA_lt hf m k h
    · exact pA_lt hf m k h
/-- the two ways of labelling part the banks alike -/
theorem pA_alike {fr to : Nat → Nat} {s : Nat} (hf : ∀ m, s.testBit m = true → fr m < 6) (ht : ∀ m, s.testBit m = true → to m < 6) : ∀ m a b, a < 6 → b < 6 → (pA fr to s m a = pA fr to s m b ↔ pA to fr s m a = pA to fr s m b)
  | 0, a, b, _, _ => Iff.rfl
  | m + 1, a, b, ha, hb => by
    have ih := fun x y hx hy => pA_alike (s := s) hf ht m x y hx hy
    rw [pA, pA, pA, pA]
    by_cases e : s.testBit m = true
    · have f6 := hf m e
      have t6 := ht m e
      have i1 := ih a b ha hb
      have i2 := ih a (to m) ha t6
      have i3 := ih b (to m) hb t6
      have i4 := ih a (fr m) ha f6
      have i5 := ih b (fr m) hb f6
      have i6 := ih (fr m) (to m) f6 t6
      rw [if_pos e, if_pos e, if_pos e, if_pos e]
      generalize pA fr to s m a = A at *
      generalize pA fr to s m b = B at *
      generalize pA fr to s m (fr m) = F at *
      generalize pA fr to s m (to m) = U at *
      generalize pA to fr s m a = A' at *
      generalize pA to fr s m b = B' at *
      generalize pA to fr s m (fr m) = F' at *
      generalize pA to fr s m (to m) = U' at *
      split <;> split <;> split <;> split <;> omega
    · rw [if_neg e, if_neg e, if_neg e, if_neg e]
      exact ih a b ha hb
/-- as many arcs go out of what is joined as come in -/
theorem oA_even {fr to : Nat → Nat} {s : Nat} (hf : ∀ m, s.testBit m = true → fr m < 6) (ht : ∀ m, s.testBit m = true → to m < 6) : ∀ (m : Nat) (U : Nat → Bool), (∀ a b, a < 6 → b < 6 → pA fr to s m a = pA fr to s m b → U a = U b) → sm (fun k => if U k = true then oA fr s m k else 0) 6 = sm (fun k => if U k = true then oA to s m k else 0) 6
  | 0, U, h => sm_congr 6 (fun k _ => rfl)
  | m + 1, U, h => by
    by_cases e : s.testBit m = true
    · have f6 := hf m e
      have t6 := ht m e
      have ih := oA_even hf ht m U (fun a b ha hb q => h a b ha hb (by rw [pA, pA, if_pos e, if_pos e, q]))
      have hU : U (fr m) = U (to m) := h (fr m) (to m) f6 t6 (by
        rw [pA, pA, if_pos e, if_pos e, if_pos rfl]
        split <;> rfl)
      have a1 : sm (fun k => if U k = true then oA fr s (m + 1) k else 0) 6 = sm (fun k => if U k = true then oA fr s m k else 0) 6 + (if U (fr m) = true then 1 else 0) := by
        refine sm_upd (l0 := fr m) 6 f6 (fun k hk z => ?_) ?_
        · show _ = (if U k = true then oA fr s (m + 1) k else 0)
          rw [oA, if_pos e, if_neg z, Nat.add_zero]
        · show (if U (fr m) = true then oA fr s (m + 1) (fr m) else 0) = _
          rw [oA, if_pos e, if_pos rfl]
          split <;> omega
      have a2 : sm (fun k => if U k = true then oA to s (m + 1) k else 0) 6 = sm (fun k => if U k = true then oA to s m k else 0) 6 + (if U (to m) = true then 1 else 0) := by
        refine sm_upd (l0 := to m) 6 t6 (fun k hk z => ?_) ?_
        · show _ = (if U k = true then oA to s (m + 1) k else 0)
          rw [oA, if_pos e, if_neg z, Nat.add_zero]
        · show (if U (to m) = true then oA to s (m + 1) (to m) else 0) = _
          rw [oA, if_pos e, if_pos rfl]
          split <;> omega
      rw [a1, a2, ih, hU]
    · have ih := oA_even hf ht m U (fun a b ha hb q => h a b ha hb (by rw [pA, pA, if_neg e, if_neg e, q]))
      rw [sm_congr (g := fun k => if U k = true then oA fr s m k else 0) 6 (fun k _ => by rw [oA, if_neg e]), sm_congr (f := fun k => if U k = true then oA to s (m + 1) k else 0) (g := fun k => if U k = true then oA to s m k else 0) 6 (fun k _ => by rw [oA, if_neg e])]
      exact ih
/-- who is joined to another has arcs -/
theorem oA_some {fr to : Nat → Nat} {s : Nat} (hf : ∀ m, s.testBit m = true → fr m < 6) (ht : ∀ m, s.testBit m = true → to m < 6) : ∀ m a b, a < 6 → b < 6 → ¬ a = b → pA fr to s m a = pA fr to s m b → 0 < oA fr s m a + oA to s m a
  | 0, a, b, _, _, h, e => absurd e h
  | m + 1, a, b, ha, hb, h, q => by
    rw [oA, oA]
    rw [pA, pA] at q
    by_cases e : s.testBit m = true
    · have f6 := hf m e
      have t6 := ht m e
      rw [if_pos e, if_pos e] at q ⊢
      have ih := fun y hy => oA_some hf ht m a y ha hy
      by_cases z1 : a = fr m
      · rw [if_pos z1]
        omega
      · by_cases z2 : a = to m
        · rw [if_pos z2]
          omega
        · rw [if_neg z1, if_neg z2, Nat.add_zero, Nat.add_zero]
          have i1 := ih (fr m) f6 z1
          have i2 := ih (to m) t6 z2
          have i3 := ih b hb h
          by_cases y1 : pA fr to s m a = pA fr to s m (to m)
          · exact i2 y1
          · by_cases y2 : pA fr to s m b = pA fr to s m (to m)
            · rw [if_neg y1, if_pos y2] at q
              exact i1 q
            · rw [if_neg y1, if_neg y2] at q
              exact i3 q
    · rw [if_neg e, if_neg e] at q ⊢
      exact oA_some hf ht m a b ha hb h q
/-- over the banks with a label -/
def sL (p f : Nat → Nat) (l : Nat) : Nat := sm (fun k => if p k = l then f k else 0) 6
theorem sL_none {p f : Nat → Nat} {l : Nat} (h : ∀ b, b < 6 → ¬ p b = l) : sL p f l = 0 := sm_zero 6 (fun k hk => if_neg (h k hk))
theorem sL_alike {p q f : Nat → Nat} (hpq : ∀ a b, a < 6 → b < 6 → (p a = p b ↔ q a = q b)) {b : Nat} (hb : b < 6) : sL p f (p b) = sL q f (q b) := sm_congr 6 (fun k hk => by
  by_cases z : p k = p b
  · rw [if_pos z, if_pos ((hpq k b hk hb).mp z)]
  · rw [if_neg z, if_neg (fun y => z ((hpq k b hk hb).mpr y))])
theorem sL_even {fr to : Nat → Nat} {s : Nat} (hf : ∀ m, s.testBit m = true → fr m < 6) (ht : ∀ m, s.testBit m = true → to m < 6) (m l : Nat) : sL (pA fr to s m) (oA fr s m) l = sL (pA fr to s m) (oA to s m) l := by
  have h := oA_even hf ht m (fun k => decide (pA fr to s m k = l)) (fun a b _ _ e => by rw [e])
  simp only [decide_eq_true_eq] at h
  exact h
theorem sL_le {p f : Nat → Nat} {l c : Nat} (h : ∀ k, f k ≤ c) : sL p f l ≤ c * 6 := sm_le 6 (fun k _ => by
  split
  · exact h k
  · omega)
theorem sL_mono {p f g : Nat → Nat} {l : Nat} (h : ∀ k, f k ≤ g k) (z : sL p g l = 0) : sL p f l = 0 := by
  refine sm_zero 6 (fun k hk => ?_)
  have a := sm_ge (f := fun k => if p k = l then g k else 0) 6 k hk
  have b := h k
  have a : (if p k = l then g k else 0) ≤ sL p g l := a
  split
  · rename_i y
    rw [if_pos y] at a
    omega
  · rfl
