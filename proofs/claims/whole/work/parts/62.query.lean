/-- cells of the class that a question may change -/
def scrC (a : Nat) : Prop := a = 12 ∨ a = 13 ∨ (14 ≤ a ∧ a ≤ 26) ∨ (35 ≤ a ∧ a ≤ 42) ∨ (44 ≤ a ∧ a ≤ 49) ∨ (51 ≤ a ∧ a ≤ 53) ∨ (56 ≤ a ∧ a ≤ 76) ∨ a = 80
def scrI (k : Nat) : Prop := k ≠ 0 ∧ k ≠ 9 ∧ k ≠ 41 ∧ k ≠ 42 ∧ k ≠ 62
def scrA (a : Nat) : Prop := ¬ (a = 1 ∨ (7 ≤ a ∧ a ≤ 24) ∨ a = 30 ∨ a = 44 ∨ a = 45 ∨ a = 46)
/-- what a question leaves of the reference's state -/
def frQ (σ σ' : bS) : Prop := (∀ k, ¬ scrI k → σ'.1 0 k = σ.1 0 k) ∧ (∀ a, ¬ scrA a → σ'.2.1 a = σ.2.1 a) ∧ ∀ j, j < 48 ∨ 144 ≤ j → σ'.2.1 29 j = σ.2.1 29 j
theorem frQ.rf {σ : bS} : frQ σ σ := ⟨fun _ _ => rfl, fun _ _ => rfl, fun _ _ => rfl⟩
theorem frQ.trans {σ σ1 σ2 : bS} (h : frQ σ σ1) (h' : frQ σ1 σ2) : frQ σ σ2 := ⟨fun k hk => (h'.1 k hk).trans (h.1 k hk), fun a ha => (h'.2.1 a ha).trans (h.2.1 a ha), fun j hj => (h'.2.2 j hj).trans (h.2.2 j hj)⟩
theorem frQ.ofM {PI PA : Nat → Prop} {σ σ' : bS} (h : frM PI PA σ σ') (h1 : ∀ k, PI k → scrI k) (h2 : ∀ a, PA a → scrA a ∧ a ≠ 29) : frQ σ σ' := ⟨fun k hk => h.1 k (fun z => hk (h1 k z)), fun a ha => h.2.1 a (fun z => ha (h2 a z).1), fun j _ => congrFun (h.2.1 29 (fun z => (h2 29 z).2 rfl)) j⟩
theorem frQ.uI {σ : bS} {k : Nat} {v : Int32} (h : scrI k) : frQ σ (uI σ 0 k v) := frQ.ofM (PI := fun j => j = k) (PA := fun _ => False) (frM.uI rfl) (fun _ e => e ▸ h) (fun _ e => e.elim)
theorem frQ.uA {σ : bS} {a : Nat} {i v : Int32} (h : scrA a) (h2 : a ≠ 29) : frQ σ (uA σ a i v) := frQ.ofM (PI := fun _ => False) (PA := fun j => j = a) (frM.uA rfl) (fun _ e => e.elim) (fun _ e => e ▸ ⟨h, h2⟩)
theorem InvG.mono {T : aT} {i j : Nat} {G : aG} (h : InvG T i G) (hij : i ≤ j) : InvG T j G := by
  obtain ⟨⟨t, h1, h2⟩, h3⟩ := h
  exact ⟨⟨t, by omega, h2⟩, h3⟩
theorem RHeld.of {T : aT} {i j p w : Nat} {σC σM σC' σM' : bS} (hT : tG T ≤ 4 ∧ tM T ≤ 7) (hij : i ≤ j) (h : RHeld T i p w σC σM) (hC : σC'.2.1 55 = σC.2.1 55) (hM : ∀ k, w ≤ k → k < w + 48 → σM'.2.1 29 k = σM.2.1 29 k) : RHeld T j p w σC' σM' := by
  obtain ⟨G, h1, h2, h3, h4⟩ := h
  refine ⟨G, ?_, h2.of hT hM, h3.mono hij, h4⟩
  unfold CSh
  rw [hC]
  exact h1
theorem Rel.of {i j : Nat} {σC σM σC' σM' : bS} (h : Rel i σC σM) (hij : i ≤ j) (hC : frC scrC σC σC') (hM : frQ σM σM') : Rel j σC' σM' := by
  obtain ⟨T, L, G, h1, h2, h3, h4, h5, h6, h7, h8, h9, h10, h11, h12⟩ := h
  have hT : tG T ≤ 4 ∧ tM T ≤ 7 := ⟨h1.2.2.1, h1.2.2.2.1⟩
  have c := fun a (ha : ¬ scrC a) => hC a ha
  have nC : ∀ a, (a = 0 ∨ (1 ≤ a ∧ a ≤ 11) ∨ (27 ≤ a ∧ a ≤ 34) ∨ a = 43 ∨ a = 50 ∨ a = 54 ∨ a = 55 ∨ (77 ≤ a ∧ a ≤ 79) ∨ a = 81) → ¬ scrC a := fun a ha hs => by unfold scrC at hs; omega
  have nI' : ∀ k, (k = 0 ∨ k = 9 ∨ k = 41 ∨ k = 42 ∨ k = 62) → ¬ scrI k := fun a ha hs => by unfold scrI at hs; omega
  have nA : ∀ a, (a = 1 ∨ (7 ≤ a ∧ a ≤ 24) ∨ a = 30 ∨ a = 44 ∨ a = 45 ∨ a = 46) → ¬ scrA a := fun a ha hs => hs ha
  refine ⟨T, L, G, h1, h2.of (fun a h1 h2 => ⟨(c a (nC a (by omega))).1, (c a (nC a (by omega))).2.1⟩), h3.of (fun a h1 h2 => hM.2.1 a (nA a (by omega))), h4.of (fun a h1 h2 => ⟨(c a (nC a (by omega))).1, (c a (nC a (by omega))).2.1⟩), h5.of hT (fun k _ hk => hM.2.2 k (by omega)), h6.mono hij, h7, ?_, ?_, ?_, ?_, ?_⟩
  · obtain ⟨t, by_, a1, a2, a3, a4, a5⟩ := h8
    exact ⟨t, by_, a1, a2, by rw [(c 0 (nC 0 (by omega))).1]; exact a3, by rw [hM.1 0 (nI' 0 (by omega))]; exact a4, fun j hj => by rw [hM.2.1 1 (nA 1 (by omega)), (c 43 (nC 43 (by omega))).2.1]; exact a5 j hj⟩
  · rw [(c 0 (nC 0 (by omega))).1, hM.1 9 (nI' 9 (by omega))]; exact h9
  · rw [(c 50 (nC 50 (by omega))).2.2]; exact h10
  · obtain ⟨⟨u, h, a1, a2, a3, a4, a5, a6, a7⟩, hd, b1, b2⟩ := h11
    refine ⟨⟨u, h, a1, a2, ?_, ?_, ?_, ?_, fun k hk => ?_⟩, hd, ?_, fun k hk => ⟨?_, fun z => ?_⟩⟩
    · rw [(c 54 (nC 54 (by omega))).1]; exact a3
    · rw [hM.1 42 (nI' 42 (by omega))]; exact a4
    · rw [(c 54 (nC 54 (by omega))).1]; exact a5
    · rw [hM.1 41 (nI' 41 (by omega))]; exact a6
    · exact (a7 k hk).of hT hij (c 55 (nC 55 (by omega))).2.1 (fun q _ _ => hM.2.2 q (by omega))
    · rw [(c 54 (nC 54 (by omega))).1]; exact b1
    · rw [hM.2.1 30 (nA 30 (by omega))]; exact (b2 k hk).1
    · exact ((b2 k hk).2 z).of hT hij (c 55 (nC 55 (by omega))).2.1 (fun q _ _ => hM.2.2 q (by omega))
  · obtain ⟨⟨k, a1, a2, a3, a4⟩, b⟩ := h12
    refine ⟨⟨k, a1, ?_, ?_, fun q hq => ?_⟩, fun m hm => ?_⟩
    · rw [(c 77 (nC 77 (by omega))).1]; exact a2
    · rw [hM.1 62 (nI' 62 (by omega))]; exact a3
    · rw [(c 78 (nC 78 (by omega))).2.1, (c 79 (nC 79 (by omega))).2.1, hM.2.1 44 (nA 44 (by omega)), hM.2.1 45 (nA 45 (by omega))]; exact a4 q hq
    · rw [(c 81 (nC 81 (by omega))).2.1, hM.2.1 46 (nA 46 (by omega))]; exact b m hm
theorem Rel.mono {i j : Nat} {σC σM : bS} (h : Rel i σC σM) (hij : i ≤ j) : Rel j σC σM := h.of hij frC.rf frQ.rf
/-! is there such a one -/
theorem ncases (n : Nat) (hn : n < 2 ^ 31) (x : Int32) : (∃ j, j < n ∧ x = nI j) ∨ (x < 0 ∨ nI n ≤ x) := by
  by_cases h0 : x < 0
  · exact Or.inr (Or.inl h0)
  · obtain ⟨j, hj, rfl⟩ := nI_of h0
    by_cases h : j < n
    · exact Or.inl ⟨j, h, rfl⟩
    · exact Or.inr (Or.inr ((nI_leI hn hj).mpr (by omega)))
theorem sI_d (σ : bS) (o k : Nat) : sI σ o k = σ.1 o k := rfl
theorem sA_n (σ : bS) (a : Nat) {j : Nat} (h : j < 2 ^ 31) : sA σ a (nI j) = σ.2.1 a j := by
  show σ.2.1 a (nI j).toNatClampNeg = _
  rw [nI_clamp h]
theorem c_isMan1 {n c j : Nat} {σ : bS} (h : σ.1 1 3 = nI c) (hc : c < 2 ^ 31) (hj : j < c) : cTop_isMan n (nI j) σ = some (1, σ) := by
  unfold cTop_isMan cTop_isMan_b20
  rw [if_neg (nI_pos (by omega)), sI_d, h, if_neg (nI_ge hj hc)]
  rfl
theorem c_isMan0 {n c : Nat} {σ : bS} {x : Int32} (h : σ.1 1 3 = nI c) (hx : x < 0 ∨ nI c ≤ x) : cTop_isMan n x σ = some (0, σ) := by
  unfold cTop_isMan cTop_isMan_b19 cTop_isMan_b20
  by_cases h0 : x < 0
  · rw [if_pos h0]; rfl
  · rw [if_neg h0, sI_d, h, if_pos (hx.resolve_left h0)]; rfl
theorem c_isBank1 {n c j : Nat} {σ : bS} (h : σ.1 1 0 = nI c) (hc : c < 2 ^ 31) (hj : j < c) : cTop_isBank n (nI j) σ = some (1, σ) := by
  unfold cTop_isBank cTop_isBank_b20
  rw [if_neg (nI_pos (by omega)), sI_d, h, if_neg (nI_ge hj hc)]
  rfl
theorem c_isBank0 {n c : Nat} {σ : bS} {x : Int32} (h : σ.1 1 0 = nI c) (hx : x < 0 ∨ nI c ≤ x) : cTop_isBank n x σ = some (0, σ) := by
  unfold cTop_isBank cTop_isBank_b19 cTop_isBank_b20
  by_cases h0 : x < 0
  · rw [if_pos h0]; rfl
  · rw [if_neg h0, sI_d, h, if_pos (hx.resolve_left h0)]; rfl
theorem c_isBridge1 {n c j : Nat} {σ : bS} (h : σ.1 1 2 = nI c) (hc : c < 2 ^ 31) (hj : j < c) : cTop_isBridge n (nI j) σ = some (1, σ) := by
  unfold cTop_isBridge cTop_isBridge_b20
  rw [if_neg (nI_pos (by omega)), sI_d, h, if_neg (nI_ge hj hc)]
  rfl
theorem c_isBridge0 {n c : Nat} {σ : bS} {x : Int32} (h : σ.1 1 2 = nI c) (hx : x < 0 ∨ nI c ≤ x) : cTop_isBridge n x σ = some (0, σ) := by
  unfold cTop_isBridge cTop_isBridge_b19 cTop_isBridge_b20
  by_cases h0 : x < 0
  · rw [if_pos h0]; rfl
  · rw [if_neg h0, sI_d, h, if_pos (hx.resolve_left h0)]; rfl
theorem bin_c0 {β : Type} {N : Nat} (h : 0 < N) (hN : N < 2 ^ 31) (x : Option β) : bin_ ci_0 N x = x := bin_nI (j := 0) h hN x
theorem sA_c0 (σ : bS) (a : Nat) : sA σ a ci_0 = σ.2.1 a 0 := rfl
theorem m_isMan1 {n c j : Nat} {σ : bS} (h : σ.2.1 20 0 = nI c) (hc : c < 2 ^ 31) (hj : j < c) : m_isMan n (nI j) σ = some (1, σ) := by
  unfold m_isMan m_isMan_b19
  rw [if_neg (nI_pos (by omega)), bin_c0 (by decide) (by decide), sA_c0, h, if_neg (nI_ge hj hc)]
  rfl
theorem m_isMan0 {n c : Nat} {σ : bS} {x : Int32} (h : σ.2.1 20 0 = nI c) (hx : x < 0 ∨ nI c ≤ x) : m_isMan n x σ = some (0, σ) := by
  unfold m_isMan m_isMan_b18 m_isMan_b19
  by_cases h0 : x < 0
  · rw [if_pos h0]; rfl
  · rw [if_neg h0, bin_c0 (by decide) (by decide), sA_c0, h, if_pos (hx.resolve_left h0)]; rfl
theorem m_isBank1 {n c j : Nat} {σ : bS} (h : σ.2.1 12 0 = nI c) (hc : c < 2 ^ 31) (hj : j < c) : m_isBank n (nI j) σ = some (1, σ) := by
  unfold m_isBank m_isBank_b19
  rw [if_neg (nI_pos (by omega)), bin_c0 (by decide) (by decide), sA_c0, h, if_neg (nI_ge hj hc)]
  rfl
theorem m_isBank0 {n c : Nat} {σ : bS} {x : Int32} (h : σ.2.1 12 0 = nI c) (hx : x < 0 ∨ nI c ≤ x) : m_isBank n x σ = some (0, σ) := by
  unfold m_isBank m_isBank_b18 m_isBank_b19
  by_cases h0 : x < 0
  · rw [if_pos h0]; rfl
  · rw [if_neg h0, bin_c0 (by decide) (by decide), sA_c0, h, if_pos (hx.resolve_left h0)]; rfl
theorem m_isBridge1 {n c j : Nat} {σ : bS} (h : σ.2.1 17 0 = nI c) (hc : c < 2 ^ 31) (hj : j < c) : m_isBridge n (nI j) σ = some (1, σ) := by
  unfold m_isBridge m_isBridge_b19
  rw [if_neg (nI_pos (by omega)), bin_c0 (by decide) (by decide), sA_c0, h, if_neg (nI_ge hj hc)]
  rfl
theorem m_isBridge0 {n c : Nat} {σ : bS} {x : Int32} (h : σ.2.1 17 0 = nI c) (hx : x < 0 ∨ nI c ≤ x) : m_isBridge n x σ = some (0, σ) := by
  unfold m_isBridge m_isBridge_b18 m_isBridge_b19
  by_cases h0 : x < 0
  · rw [if_pos h0]; rfl
  · rw [if_neg h0, bin_c0 (by decide) (by decide), sA_c0, h, if_pos (hx.resolve_left h0)]; rfl
/-! promise 5: place -/
theorem sim_place {i : Nat} {σC σM : bS} (h : Rel i σC σM) : Sim_place (Rel (i + 6)) σC σM := by
  refine ⟨0, 0, σC.1 0 2, σC, σM, rfl, ?_, h.mono (by omega)⟩
  obtain ⟨T, L, G, h1, h2, h3, h4, h5, h6, h7, h8, h9, h10, h11, h12⟩ := h
  show some (σM.1 0 9, σM) = _
  rw [h9]
