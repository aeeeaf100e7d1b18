/-! a LAW, as told; the reference -/
abbrev lwS : Type := List (codes × codes × codes) × codes
def tkF (s : tS) (k nx : Nat) : Nat := if tkd s nx = k then (if nx < 400 then 0 else 2) else 1
def smA (s : tS) (nx : Nat) : sR := sumA s (401 - nx) true nx [] [] 0
def lawA (s : tS) : Nat → Nat → Nat → List (codes × codes × codes) → (Nat × Nat) ⊕ (Nat × lwS)
  | 0, _, nx, _ => .inl (2, nx)
  | k + 1, j, nx, acc =>
    if tkd s nx = 26 then
      if j = 4 then .inl (2, nx) else if nx < 400 then
        match smA s (nx + 1) with
        | .inl e => .inl e
        | .inr (n1, A) => if ¬ tkF s 10 n1 = 0 then .inl (tkF s 10 n1, n1) else
          match smA s (n1 + 1) with
          | .inl e => .inl e
          | .inr (n2, B) => if ¬ tkF s 27 n2 = 0 then .inl (tkF s 27 n2, n2) else
            match smA s (n2 + 1) with
            | .inl e => .inl e
            | .inr (n3, D) => if ¬ tkF s 28 n3 = 0 then .inl (tkF s 28 n3, n3) else lawA s k (j + 1) (n3 + 1) (acc ++ [(A, B, D)])
      else .inl (2, nx)
    else match smA s nx with
      | .inl e => .inl e
      | .inr (n1, E) => .inr (n1, acc, E)
/-- the number of a LAW, or none -/
def lwI (o : Option Nat) : Int32 := match o with
  | none => -1
  | some l => nI l
def frL (σ σ' : bS) : Prop := (∀ k, ¬ (k = 7 ∨ k = 8 ∨ k = 9 ∨ k = 36 ∨ k = 38) → σ'.1 0 k = σ.1 0 k) ∧ (∀ a, ¬ (a = 6 ∨ a = 7 ∨ a = 8 ∨ a = 28 ∨ a = 9 ∨ a = 10 ∨ a = 11) → σ'.2.1 a = σ.2.1 a) ∧ σ'.2.2 = σ.2.2 ∧ σ'.2.1 6 0 = σ.2.1 6 0
theorem frL.rf {σ : bS} : frL σ σ := ⟨fun _ _ => rfl, fun _ _ => rfl, rfl, rfl⟩
theorem frL.trans {σ σ1 σ2 : bS} (h : frL σ σ1) (g : frL σ1 σ2) : frL σ σ2 := ⟨fun k hk => (g.1 k hk).trans (h.1 k hk), fun a ha => (g.2.1 a ha).trans (h.2.1 a ha), g.2.2.1.trans h.2.2.1, g.2.2.2.trans h.2.2.2⟩
theorem frL.ofE {σ σ' : bS} (h : frE σ σ') : frL σ σ' := ⟨h.1, fun a ha => h.2.1 a (fun u => ha (by omega)), h.2.2.1, h.2.2.2⟩
theorem TMs.frl {s : tS} {σ σ' : bS} (h : TMs s σ) (f : frL σ σ') : TMs s σ' := fun j hj => by
  rw [f.2.1 2 (by decide), f.2.1 3 (by decide), f.2.1 4 (by decide), f.2.2.1]
  exact h j hj
/-- where the parts of a LAW lie: only that of o at j changes -/
def kpS (o : Option Nat) (j : Nat) (σ σ' : bS) : Prop := ∀ i, (∀ l, o = some l → ¬ i = 196 + 14 * l + j) → σ'.2.1 10 i = σ.2.1 10 i ∧ σ'.2.1 11 i = σ.2.1 11 i
theorem m_sumE {s : tS} {n m nx j : Nat} {o : Option Nat} {x y : Int32} {σ : bS} (hn : 500 ≤ n) (hT : okT s) (hP : MP s nx σ) (h6 : σ.2.1 6 1 = nI m) (hm : m ≤ nx) (hx : x = lwI o) (hy : y = nI j) (ho : ∀ l, o = some l → l < 14) (hj : j < 14) : ∃ v σ', m_sumOf n x y σ = some (v, σ') ∧ frL σ σ' ∧ frB m σ σ' ∧ kpS o j σ σ' ∧ σ'.2.1 9 = σ.2.1 9 ∧ EOut s m (smA s nx) v σ' ∧ (v = 1 → ∀ l, o = some l → ∃ e, σ'.2.1 10 (196 + 14 * l + j) = nI m ∧ σ'.2.1 11 (196 + 14 * l + j) = nI e ∧ σ'.2.1 6 1 = nI e) := by
  obtain ⟨v, σ1, a1, a2, a3, a4⟩ := m_expr_eq (n := n) hn hT hP h6 hm
  have a4 : EOut s m (smA s nx) v σ1 := a4
  unfold m_sumOf
  rw [bin_1 _ (by decide) (by decide), a1, ob_def]
  have k0 : kpS o j σ σ1 := fun i _ => ⟨by rw [a2.2.1 10 (by decide)], by rw [a2.2.1 11 (by decide)]⟩
  have e9 : σ1.2.1 9 = σ.2.1 9 := a2.2.1 9 (by decide)
  have v01 : v = 0 ∨ (v = 1 ∧ ∃ e, σ1.2.1 6 1 = nI e) := by
    unfold EOut at a4
    cases h : smA s nx with
    | inl q =>
      rw [h] at a4
      exact Or.inl a4.1
    | inr q =>
      rw [h] at a4
      exact Or.inr ⟨a4.1, _, a4.2.2.1⟩
  rcases v01 with rfl | ⟨rfl, e, he⟩
  · rw [if_pos rfl]
    exact ⟨0, σ1, rfl, frL.ofE a2, a3, k0, e9, a4, fun u => absurd u (by decide)⟩
  · rw [if_neg one_ne]
    cases o with
    | none =>
      rw [hx, if_pos (show lwI none < 0 by decide), m_sumOf_b57]
      exact ⟨1, σ1, rfl, frL.ofE a2, a3, k0, e9, a4, fun _ l u => by cases u⟩
    | some l =>
      have hl := ho l rfl
      have e6 : sA σ 6 ci_1 = nI m := (sA_1 σ 6).trans h6
      have ei : cs_196 + cb_14 * nI l + nI j = nI (196 + 14 * l + j) := by
        rw [show cs_196 = nI 196 by decide, cb_14_n, nI_mul, nI_add, nI_add]
      rw [hx, hy]
      show ∃ v σ', (if nI l < 0 then _ else bin_ (cs_196 + cb_14 * nI l + nI j) 392 (bin_ ci_1 2 (bin_ (cs_196 + cb_14 * nI l + nI j) 392 (m_sumOf_b57 n (uA (uA σ1 10 (cs_196 + cb_14 * nI l + nI j) (sA σ 6 ci_1)) 11 (cs_196 + cb_14 * nI l + nI j) (sA (uA σ1 10 (cs_196 + cb_14 * nI l + nI j) (sA σ 6 ci_1)) 6 ci_1)))))) = some (v, σ') ∧ _
      rw [if_neg (nI_pos (by omega)), ei, e6, bin_nI (by omega) (by decide), bin_1 _ (by decide) (by decide), bin_nI (by omega) (by decide), m_sumOf_b57, sA_1, uA_o _ _ _ _ (by decide), he]
      have o1 : ∀ b, ¬ b = 10 → ¬ b = 11 → (uA (uA σ1 10 (nI (196 + 14 * l + j)) (nI m)) 11 (nI (196 + 14 * l + j)) (nI e)).2.1 b = σ1.2.1 b := fun b h1 h2 => by rw [uA_o _ _ _ _ h2, uA_o _ _ _ _ h1]
      have o2 : ∀ i, (uA (uA σ1 10 (nI (196 + 14 * l + j)) (nI m)) 11 (nI (196 + 14 * l + j)) (nI e)).2.1 10 i = if i = 196 + 14 * l + j then nI m else σ1.2.1 10 i := fun i => by
        rw [uA_o _ _ _ _ (by decide), uA_2, nI_clamp (by omega)]
        simp
      have o3 : ∀ i, (uA (uA σ1 10 (nI (196 + 14 * l + j)) (nI m)) 11 (nI (196 + 14 * l + j)) (nI e)).2.1 11 i = if i = 196 + 14 * l + j then nI e else σ1.2.1 11 i := fun i => by
        rw [uA_2, nI_clamp (by omega), uA_o _ _ _ _ (by decide)]
        simp
      have f2 : frL σ1 (uA (uA σ1 10 (nI (196 + 14 * l + j)) (nI m)) 11 (nI (196 + 14 * l + j)) (nI e)) := ⟨fun _ _ => rfl, fun b hb => o1 b (fun u => hb (by omega)) (fun u => hb (by omega)), rfl, by rw [o1 6 (by decide) (by decide)]⟩
      refine ⟨1, _, rfl, (frL.ofE a2).trans f2, fun i hi => ?_, fun i hi => ?_, ?_, ?_, fun _ l' u => ?_⟩
      · rw [o1 7 (by decide) (by decide), o1 8 (by decide) (by decide)]
        exact a3 i hi
      · rw [o2, o3, if_neg (hi l rfl), if_neg (hi l rfl)]
        exact k0 i hi
      · rw [o1 9 (by decide) (by decide)]
        exact e9
      · unfold EOut at a4 ⊢
        cases h : smA s nx with
        | inl q =>
          rw [h] at a4
          exact absurd a4.1 (by decide)
        | inr q =>
          rw [h] at a4
          obtain ⟨b1, b2, b3, b4, b5⟩ := a4
          exact ⟨rfl, ⟨b2.1.frl f2, b2.2.1, b2.2.2.1, b2.2.2.2⟩, by rw [o1 6 (by decide) (by decide)]; exact b3, b4.of (o1 7 (by decide) (by decide)) (o1 8 (by decide) (by decide)), b5⟩
      · have el : l = l' := Option.some.inj u
        subst el
        exact ⟨e, by rw [o2, if_pos rfl], by rw [o3, if_pos rfl], by rw [o1 6 (by decide) (by decide)]; exact he⟩
/-- a sign or a word taken -/
theorem m_tkS {s : tS} {n nx k : Nat} {x : Int32} {σ : bS} (hT : okT s) (hP : MP s nx σ) (hx : x = nI (sB k)) (h4 : 4 ≤ k) (h12 : k ≤ 12) : (tkF s k nx = 0 ∧ m_takesSign n x σ = some (1, uI σ 0 7 (nI (nx + 1))) ∧ MP s (nx + 1) (uI σ 0 7 (nI (nx + 1)))) ∨ (¬ tkF s k nx = 0 ∧ ∃ σ', m_takesSign n x σ = some (0, σ') ∧ MF (tkF s k nx) (tpl s nx) σ' ∧ frE σ σ' ∧ σ'.2 = σ.2) := by
  unfold m_takesSign tkF
  rw [hx, m_isSg k hP h4 h12, ob_def]
  by_cases z : tkd s nx = k
  · rw [if_pos z]
    simp only [if_neg one_ne]
    rw [if_pos z]
    rcases m_pass_eq (n := n) hT hP (by omega) with ⟨w, p1, p2⟩ | ⟨w, σ3, p1, p2, p3, p4⟩
    · left
      rw [if_pos w, p2, ob_def]
      exact ⟨rfl, rfl, p1⟩
    · right
      rw [if_neg w, p1, ob_def]
      exact ⟨by omega, σ3, rfl, p2, p3, p4⟩
  · right
    obtain ⟨σ', a1, a2, a3, a4⟩ := m_wrong_eq (n := n) (x := ci_1) (f := 1) (by decide) hP
    rw [if_neg z]
    simp only [if_true]
    rw [if_neg z, a1, ob_def]
    exact ⟨by omega, σ', rfl, a2, a3, a4⟩
theorem m_tkW {s : tS} {n nx k : Nat} {x : Int32} {σ : bS} (hT : okT s) (hP : MP s nx σ) (hx : x = nI k) (hk : k ≤ 23) : (tkF s (13 + k) nx = 0 ∧ m_takesWord n x σ = some (1, uI σ 0 7 (nI (nx + 1))) ∧ MP s (nx + 1) (uI σ 0 7 (nI (nx + 1)))) ∨ (¬ tkF s (13 + k) nx = 0 ∧ ∃ σ', m_takesWord n x σ = some (0, σ') ∧ MF (tkF s (13 + k) nx) (tpl s nx) σ' ∧ frE σ σ' ∧ σ'.2 = σ.2) := by
  unfold m_takesWord tkF
  rw [hx, m_isWd k hT hP hk, ob_def]
  by_cases z : tkd s nx = 13 + k
  · rw [if_pos z]
    simp only [if_neg one_ne]
    rw [if_pos z]
    rcases m_pass_eq (n := n) hT hP (by omega) with ⟨w, p1, p2⟩ | ⟨w, σ3, p1, p2, p3, p4⟩
    · left
      rw [if_pos w, p2, ob_def]
      exact ⟨rfl, rfl, p1⟩
    · right
      rw [if_neg w, p1, ob_def]
      exact ⟨by omega, σ3, rfl, p2, p3, p4⟩
  · right
    obtain ⟨σ', a1, a2, a3, a4⟩ := m_wrong_eq (n := n) (x := ci_1) (f := 1) (by decide) hP
    rw [if_neg z]
    simp only [if_true]
    rw [if_neg z, a1, ob_def]
    exact ⟨by omega, σ', rfl, a2, a3, a4⟩
