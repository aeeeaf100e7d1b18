/-! TOKENS, and what an E makes of them -/
abbrev tS : Type := (Nat → Nat) × (Nat → Nat) × (Nat → List Nat) × (Nat → Nat) × Nat
abbrev tkd (s : tS) : Nat → Nat := s.1
abbrev tpl (s : tS) : Nat → Nat := s.2.1
abbrev twd (s : tS) : Nat → List Nat := s.2.2.1
abbrev tvl (s : tS) : Nat → Nat := s.2.2.2.1
abbrev tcE (s : tS) : Nat := s.2.2.2.2
def okT (s : tS) : Prop := (∀ j, tkd s j ≤ 36) ∧ (∀ j, j < tcE s → 1 < tkd s j) ∧ tkd s (tcE s) ≤ 1 ∧ (∀ i j, i < j → j ≤ tcE s → tpl s i < tpl s j) ∧ (∀ j, tpl s j ≤ 2000) ∧ (∀ j, tkd s j = 2 → okW 27 (twd s j) ∧ (twd s j).length ≤ 8) ∧ (∀ j, tkd s j = 3 → tvl s j ≤ 9999) ∧ tcE s ≤ 2000
def TC (s : tS) (σ : bS) : Prop := ∀ j, j ≤ 400 → j ≤ tcE s → σ.2.1 51 j = nI (tkd s j) ∧ σ.2.1 53 j = nI (tpl s j) ∧ (tkd s j = 2 → σ.2.2 52 j = Int64.ofNat (kR 32 (twd s j))) ∧ (tkd s j = 3 → σ.2.2 52 j = (nI (tvl s j)).toInt64)
def TMs (s : tS) (σ : bS) : Prop := ∀ j, j ≤ tcE s → σ.2.1 2 j = nI (mkK (tkd s j)) ∧ σ.2.1 3 j = nI (tpl s j) ∧ (tkd s j = 2 → σ.2.2 5 j = Int64.ofNat (kR 27 (twd s j))) ∧ (tkd s j = 3 → σ.2.1 4 j = nI (tvl s j)) ∧ (4 ≤ tkd s j → tkd s j ≤ 12 → σ.2.1 4 j = nI (sB (tkd s j))) ∧ (13 ≤ tkd s j → σ.2.1 4 j = nI (tkd s j - 13))
/-- the parser of the reference stands at a TOKEN -/
def MP (s : tS) (nx : Nat) (σ : bS) : Prop := TMs s σ ∧ σ.1 0 7 = nI nx ∧ nx ≤ 400 ∧ nx ≤ tcE s
def MF (f p : Nat) (σ : bS) : Prop := σ.1 0 8 = nI f ∧ σ.1 0 9 = nI p
theorem mkK_in (k : Nat) : mkK k ≤ 5 := by
  unfold mkK
  split
  · omega
  split
  · omega
  split
  · omega
  split
  · omega
  split <;> omega
theorem mkK_2 {k : Nat} : mkK k = 2 ↔ 4 ≤ k ∧ k ≤ 12 := by
  unfold mkK
  split
  · omega
  split
  · omega
  split
  · omega
  split
  · omega
  split <;> omega
theorem mkK_3 {k : Nat} : mkK k = 3 ↔ 13 ≤ k := by
  unfold mkK
  split
  · omega
  split
  · omega
  split
  · omega
  split
  · omega
  split <;> omega
theorem mkK_0 {k : Nat} : mkK k = 0 ↔ k = 2 := by
  unfold mkK
  split
  · omega
  split
  · omega
  split
  · omega
  split
  · omega
  split <;> omega
theorem mkK_1 {k : Nat} : mkK k = 1 ↔ k = 3 := by
  unfold mkK
  split
  · omega
  split
  · omega
  split
  · omega
  split
  · omega
  split <;> omega
theorem mkK_4 {k : Nat} : mkK k = 4 ↔ k = 0 := by
  unfold mkK
  split
  · omega
  split
  · omega
  split
  · omega
  split
  · omega
  split <;> omega
theorem sB_inj : ∀ a b : Fin 13, 4 ≤ a.val → 4 ≤ b.val → sB a.val = sB b.val → a.val = b.val := by decide +kernel
theorem sB_lt (k : Nat) : sB k ≤ 61 := by
  unfold sB
  split
  · omega
  split
  · omega
  split
  · omega
  split
  · omega
  split
  · omega
  split
  · omega
  split
  · omega
  split <;> omega
theorem MP.kind {s : tS} {nx : Nat} {σ : bS} (h : MP s nx σ) : sA σ 2 (sI σ 0 7) = nI (mkK (tkd s nx)) := by
  obtain ⟨h1, h2, h3, h4⟩ := h
  rw [show sI σ 0 7 = nI nx from h2, sA_n _ _ (by omega)]
  exact (h1 nx h4).1
theorem MP.bin {β : Type} {s : tS} {nx : Nat} {σ : bS} {x : Option β} (h : MP s nx σ) : bin_ (sI σ 0 7) 2001 x = x := by
  obtain ⟨h1, h2, h3, h4⟩ := h
  rw [show sI σ 0 7 = nI nx from h2, bin_nI (by omega) (by decide)]
theorem MP.val {s : tS} {nx : Nat} {σ : bS} (h : MP s nx σ) : sA σ 4 (sI σ 0 7) = σ.2.1 4 nx := by
  obtain ⟨h1, h2, h3, h4⟩ := h
  rw [show sI σ 0 7 = nI nx from h2, sA_n _ _ (by omega)]
theorem nI_eqI {a b : Nat} (ha : a < 2 ^ 31) (hb : b < 2 ^ 31) : nI a = nI b ↔ a = b := nI_eq ha hb
theorem m_isSg {s : tS} {n nx : Nat} {σ : bS} (k : Nat) (h : MP s nx σ) (h1 : 4 ≤ k) (h2 : k ≤ 12) : m_isSign n (nI (sB k)) σ = some (if tkd s nx = k then 1 else 0, σ) := by
  unfold m_isSign
  have km := mkK_in (tkd s nx)
  have b1 := sB_lt k
  have b2 := sB_lt (tkd s nx)
  have v := h.1 nx h.2.2.2
  rw [h.bin, h.kind, show ci_2 = nI 2 by decide]
  by_cases z : 4 ≤ tkd s nx ∧ tkd s nx ≤ 12
  · rw [if_pos ((nI_eqI (by omega) (by decide)).mpr (mkK_2.mpr z)), h.bin, h.val, v.2.2.2.2.1 z.1 z.2]
    by_cases y : tkd s nx = k
    · rw [if_pos (by rw [y]), if_pos y]
      rfl
    · rw [if_neg (fun u => y (sB_inj ⟨tkd s nx, by omega⟩ ⟨k, by omega⟩ z.1 h1 (show sB (tkd s nx) = sB k from (nI_eqI (by omega) (by omega)).mp u))), if_neg y]
      rfl
  · rw [if_neg (fun u => z (mkK_2.mp ((nI_eqI (by omega) (by decide)).mp u))), if_neg (fun u => z (by omega))]
    rfl
theorem m_isWd {s : tS} {n nx : Nat} {σ : bS} (k : Nat) (hT : okT s) (h : MP s nx σ) (hk : k ≤ 23) : m_isWord n (nI k) σ = some (if tkd s nx = 13 + k then 1 else 0, σ) := by
  unfold m_isWord
  have km := mkK_in (tkd s nx)
  have k36 := hT.1 nx
  have v := h.1 nx h.2.2.2
  rw [h.bin, h.kind, show ci_3 = nI 3 by decide]
  by_cases z : 13 ≤ tkd s nx
  · rw [if_pos ((nI_eqI (by omega) (by decide)).mpr (mkK_3.mpr z)), h.bin, h.val, v.2.2.2.2.2 z]
    by_cases y : tkd s nx = 13 + k
    · rw [if_pos (by rw [y, Nat.add_sub_cancel_left]), if_pos y]
      rfl
    · rw [if_neg (fun u => y (by have := (nI_eqI (by omega) (by omega)).mp u; omega)), if_neg y]
      rfl
  · rw [if_neg (fun u => z (mkK_3.mp ((nI_eqI (by omega) (by decide)).mp u))), if_neg (fun u => z (by omega))]
    rfl
/-- the reference's parser changes these -/
def frE (σ σ' : bS) : Prop := (∀ k, ¬ (k = 7 ∨ k = 8 ∨ k = 9 ∨ k = 36 ∨ k = 38) → σ'.1 0 k = σ.1 0 k) ∧ (∀ a, ¬ (a = 6 ∨ a = 7 ∨ a = 8 ∨ a = 28) → σ'.2.1 a = σ.2.1 a) ∧ σ'.2.2 = σ.2.2 ∧ σ'.2.1 6 0 = σ.2.1 6 0
theorem frE.rf {σ : bS} : frE σ σ := ⟨fun _ _ => rfl, fun _ _ => rfl, rfl, rfl⟩
theorem frE.trans {σ σ1 σ2 : bS} (h : frE σ σ1) (g : frE σ1 σ2) : frE σ σ2 := ⟨fun k hk => (g.1 k hk).trans (h.1 k hk), fun a ha => (g.2.1 a ha).trans (h.2.1 a ha), g.2.2.1.trans h.2.2.1, g.2.2.2.trans h.2.2.2⟩
theorem frE.uI {σ : bS} {k : Nat} {v : Int32} (h : k = 7 ∨ k = 8 ∨ k = 9 ∨ k = 36 ∨ k = 38) : frE σ (uI σ 0 k v) := ⟨fun j hj => by
  rw [uI_1, if_neg]
  rintro ⟨-, rfl⟩
  exact hj h, fun _ _ => rfl, rfl, rfl⟩
theorem TMs.fr {s : tS} {σ σ' : bS} (h : TMs s σ) (f : frE σ σ') : TMs s σ' := fun j hj => by
  rw [f.2.1 2 (by decide), f.2.1 3 (by decide), f.2.1 4 (by decide), f.2.2.1]
  exact h j hj
theorem m_wrong_eq {s : tS} {n nx f : Nat} {x : Int32} {σ : bS} (hx : x = nI f) (h : MP s nx σ) : ∃ σ', m_wrong n x σ = some (0, σ') ∧ MF f (tpl s nx) σ' ∧ frE σ σ' ∧ σ'.2 = σ.2 := by
  have e : sI (uI σ 0 8 x) 0 7 = nI nx := h.2.1
  have h4 := h.2.2.1
  unfold m_wrong
  rw [e, bin_nI (by omega) (by decide)]
  refine ⟨_, rfl, ⟨?_, ?_⟩, (frE.uI (by decide)).trans (frE.uI (by decide)), rfl⟩
  · rw [uI_1, if_neg (by decide), uI_1, if_pos ⟨rfl, rfl⟩, hx]
  · rw [uI_1, if_pos ⟨rfl, rfl⟩, sA_n _ _ (by omega)]
    exact (h.1 nx h.2.2.2).2.1
theorem m_pass_eq {s : tS} {n nx : Nat} {σ : bS} (hT : okT s) (h : MP s nx σ) (hk : 1 < tkd s nx) : (nx < 400 ∧ MP s (nx + 1) (uI σ 0 7 (nI (nx + 1))) ∧ m_pass n σ = some (1, uI σ 0 7 (nI (nx + 1)))) ∨ (¬ nx < 400 ∧ ∃ σ', m_pass n σ = some (0, σ') ∧ MF 2 (tpl s nx) σ' ∧ frE σ σ' ∧ σ'.2 = σ.2) := by
  obtain ⟨h1, h2, h3, h4⟩ := h
  have lt : nx < tcE s := by
    rcases Nat.lt_or_ge nx (tcE s) with z | z
    · exact z
    · have e : nx = tcE s := by omega
      have := hT.2.2.1
      rw [← e] at this
      omega
  unfold m_pass
  rw [show sI σ 0 7 = nI nx from h2, cs_400_n]
  by_cases z : nx < 400
  · left
    refine ⟨z, ⟨h1.fr (frE.uI (by decide)), by rw [uI_1, if_pos ⟨rfl, rfl⟩], by omega, by omega⟩, ?_⟩
    rw [if_pos ((nI_ltI (by omega) (by omega)).mpr z), nI_s]
    rfl
  · right
    obtain ⟨σ', a, b, c⟩ := m_wrong_eq (n := n) (x := ci_2) (f := 2) (by decide) (⟨h1, h2, h3, h4⟩ : MP s nx σ)
    refine ⟨z, σ', ?_, b, c⟩
    rw [if_neg (fun u => z ((nI_ltI (by omega) (by omega)).mp u)), a, ob_def]
    rfl
/-! signs that wait -/
def wgt (x : Nat) : Nat := if x = 11 then 0 else if 8 ≤ x then 2 else 1
abbrev codes : Type := List (Nat × Nat)
def setl (w : Nat) : codes → List Nat → codes × List Nat
  | C, [] => (C, [])
  | C, x :: S => if wgt x < w then (C, x :: S) else setl w (C ++ [(x - 4, 0)]) S
abbrev sR : Type := (Nat × Nat) ⊕ (Nat × codes)
def sumA (s : tS) : Nat → Bool → Nat → codes → List Nat → Nat → sR
  | 0, _, nx, _, _, _ => .inl (2, nx)
  | k + 1, true, nx, C, S, o =>
    if tkd s nx = 11 then (if o = 6 then .inl (2, nx) else if nx < 400 then sumA s k true (nx + 1) C (11 :: S) (o + 1) else .inl (2, nx))
    else if tkd s nx = 3 then (if nx < 400 then sumA s k false (nx + 1) (C ++ [(0, tvl s nx)]) S o else .inl (2, nx))
    else if 29 ≤ tkd s nx then (if nx < 400 then sumA s k false (nx + 1) (C ++ [(1, tkd s nx - 29)]) S o else .inl (2, nx))
    else .inl (1, nx)
  | k + 1, false, nx, C, S, o =>
    if 6 ≤ tkd s nx ∧ tkd s nx ≤ 9 then (if nx < 400 then sumA s k true (nx + 1) (setl (wgt (tkd s nx)) C S).1 (tkd s nx :: (setl (wgt (tkd s nx)) C S).2) o else .inl (2, nx))
    else if o = 0 then .inr (nx, (setl 1 C S).1)
    else if tkd s nx = 12 then (if nx < 400 then sumA s k false (nx + 1) (setl 1 C S).1 (setl 1 C S).2.tail (o - 1) else .inl (2, nx))
    else .inl (1, nx)
/-- a stack of signs, as an array; g says how each is written -/
def Sgk (g : Nat → Nat) : List Nat → (Nat → Int32) → Prop
  | [], _ => True
  | x :: S, f => f S.length = nI (g x) ∧ Sgk g S f
theorem Sgk.of {g : Nat → Nat} : ∀ {S : List Nat} {f f' : Nat → Int32}, Sgk g S f → (∀ i, i < S.length → f' i = f i) → Sgk g S f'
  | [], _, _, _, _ => trivial
  | x :: S, f, f', h, e => ⟨(e S.length (by rw [List.length_cons]; omega)).trans h.1, h.2.of (fun i hi => e i (by rw [List.length_cons]; omega))⟩
/-- which stacks there are: o of them are ( -/
def okK : List Nat → Nat → Prop
  | [], o => o = 0
  | x :: S, o => (x = 11 ∧ ∃ o', o = o' + 1 ∧ okK S o') ∨ (6 ≤ x ∧ x ≤ 9 ∧ wgt (S.headD 11) < wgt x ∧ okK S o)
def pnd : List Nat → Nat
  | [] => 0
  | x :: S => pnd S + (if x = 11 then 0 else 1)
theorem wgt_le (x : Nat) : wgt x ≤ 2 := by
  unfold wgt
  split
  · omega
  split <;> omega
theorem wgt_op {x : Nat} (h : 6 ≤ x ∧ x ≤ 9) : 1 ≤ wgt x ∧ ¬ x = 11 := by
  unfold wgt
  rw [if_neg (by omega)]
  constructor
  · split <;> omega
  · omega
theorem okK.len : ∀ {S : List Nat} {o : Nat}, okK S o → S.length ≤ 3 * o + wgt (S.headD 11) ∧ pnd S ≤ 2 * o + wgt (S.headD 11) ∧ pnd S ≤ S.length
  | [], o, h => ⟨Nat.zero_le _, Nat.zero_le _, Nat.le_refl _⟩
  | x :: S, o, h => by
    rcases h with ⟨rfl, o', rfl, h⟩ | ⟨h1, h2, h3, h⟩
    · have ih := okK.len h
      have := wgt_le (S.headD 11)
      rw [List.length_cons, pnd, if_pos rfl, List.headD_cons, show wgt 11 = 0 by decide]
      omega
    · have ih := okK.len h
      have := wgt_op ⟨h1, h2⟩
      rw [List.length_cons, pnd, if_neg this.2, List.headD_cons]
      omega
theorem setl_ok {w : Nat} (hw : 1 ≤ w) : ∀ {S : List Nat} {o : Nat} (C : codes), okK S o → okK (setl w C S).2 o ∧ wgt ((setl w C S).2.headD 11) < w ∧ (setl w C S).1.length + pnd (setl w C S).2 = C.length + pnd S ∧ (setl w C S).2.length ≤ S.length
  | [], o, C, h => ⟨h, by rw [setl]; exact hw, rfl, Nat.le_refl _⟩
  | x :: S, o, C, h => by
    rw [setl]
    by_cases z : wgt x < w
    · rw [if_pos z]
      exact ⟨h, z, rfl, Nat.le_refl _⟩
    · rw [if_neg z]
      have nx : ¬ x = 11 := fun u => by
        rw [u] at z
        exact z (by rw [show wgt 11 = 0 by decide]; omega)
      have h' : okK S o := by
        rcases h with ⟨e, -⟩ | ⟨-, -, -, h⟩
        · exact absurd e nx
        · exact h
      obtain ⟨a, b, c, d⟩ := setl_ok hw (C ++ [(x - 4, 0)]) h'
      refine ⟨a, b, ?_, ?_⟩
      · rw [c, List.length_append, List.length_singleton, pnd, if_neg nx]
        omega
      · rw [List.length_cons]
        omega
/-- when all of a ( has settled, the ( is on top -/
theorem okK.top : ∀ {S : List Nat} {o : Nat}, okK S o → 0 < o → wgt (S.headD 11) < 1 → ∃ S', S = 11 :: S' ∧ okK S' (o - 1)
  | [], o, h, ho, _ => by
    have h : o = 0 := h
    omega
  | x :: S, o, h, ho, hw => by
    rcases h with ⟨rfl, o', rfl, h⟩ | ⟨h1, h2, h3, h⟩
    · exact ⟨S, rfl, by rw [Nat.add_sub_cancel]; exact h⟩
    · rw [List.headD_cons] at hw
      have := (wgt_op ⟨h1, h2⟩).1
      omega
theorem okK.bot : ∀ {S : List Nat}, okK S 0 → wgt (S.headD 11) < 1 → S = []
  | [], _, _ => rfl
  | x :: S, h, hw => by
    rcases h with ⟨rfl, o', e, h⟩ | ⟨h1, h2, h3, h⟩
    · omega
    · rw [List.headD_cons] at hw
      have := (wgt_op ⟨h1, h2⟩).1
      omega
