/-- the body of Rel -/
abbrev RelB (i : Nat) (T : aT) (L : aL) (G : aG) (σC σM : bS) : Prop := InvT T L ∧ CT T L σC ∧ MTx T L σM ∧ CG 27 G σC ∧ MG T 0 G σM ∧ InvG T i G ∧ G 10 0 = tSeed T ∧ RTape σC σM ∧ σC.1 0 2 = σM.1 0 9 ∧ σC.2.2 50 = tkW ∧ RShelf T i σC σM ∧ RSeen T σC σM
theorem RelB.rel {i : Nat} {T : aT} {L : aL} {G : aG} {σC σM : bS} (h : RelB i T L G σC σM) : Rel i σC σM := ⟨T, L, G, h⟩
/-- what a doing may change beside a question's: how it goes on -/
def scrG (a : Nat) : Prop := scrC a ∨ (27 ≤ a ∧ a ≤ 34)
def frGM (σ σ' : bS) : Prop := (∀ k, ¬ scrI k → σ'.1 0 k = σ.1 0 k) ∧ (∀ a, ¬ scrA a → σ'.2.1 a = σ.2.1 a) ∧ ∀ j, 144 ≤ j → σ'.2.1 29 j = σ.2.1 29 j
theorem frGM.rf {σ : bS} : frGM σ σ := ⟨fun _ _ => rfl, fun _ _ => rfl, fun _ _ => rfl⟩
theorem frGM.trans {σ σ1 σ2 : bS} (h : frGM σ σ1) (h' : frGM σ1 σ2) : frGM σ σ2 := ⟨fun k hk => (h'.1 k hk).trans (h.1 k hk), fun a ha => (h'.2.1 a ha).trans (h.2.1 a ha), fun j hj => (h'.2.2 j hj).trans (h.2.2 j hj)⟩
theorem frGM.ofQ {σ σ' : bS} (h : frQ σ σ') : frGM σ σ' := ⟨h.1, h.2.1, fun j hj => h.2.2 j (Or.inr hj)⟩
theorem frGM.ofR {w : Nat} {σ σ' : bS} (h : frR w σ σ') (hw : w ≤ 96) : frGM σ σ' := ⟨fun k hk => h.1 k (fun z => hk (by subst z; unfold scrI; decide)), fun a ha => h.2.1 a (fun z => ha (by unfold scrA; omega)), fun j hj => h.2.2.1 j (by omega)⟩
theorem frGM.ofS {σ σ' : bS} (h : frM sc46 sc31 σ σ') : frGM σ σ' := frGM.ofR (w := 0) (frR.scr h) (by omega)
theorem frGM.uI {σ : bS} {k : Nat} {v : Int32} (h : scrI k) : frGM σ (uI σ 0 k v) := frGM.ofQ (frQ.uI h)
theorem RelB.go {i j : Nat} {T : aT} {L : aL} {G G' : aG} {σC σM σC' σM' : bS} (h : RelB i T L G σC σM) (hij : i ≤ j) (hC : frC scrG σC σC') (hM : frGM σM σM') (hG : CG 27 G' σC') (hG2 : MG T 0 G' σM') (hi : InvG T j G') (hs : G' 10 0 = tSeed T) : RelB j T L G' σC' σM' := by
  obtain ⟨h1, h2, h3, h4, h5, h6, h7, h8, h9, h10, h11, h12⟩ := h
  have hT : tG T ≤ 4 ∧ tM T ≤ 7 := ⟨h1.2.2.1, h1.2.2.2.1⟩
  have c := fun a (ha : ¬ scrG a) => hC a ha
  have nC : ∀ a, (a = 0 ∨ (1 ≤ a ∧ a ≤ 11) ∨ a = 43 ∨ a = 50 ∨ a = 54 ∨ a = 55 ∨ (77 ≤ a ∧ a ≤ 79) ∨ a = 81) → ¬ scrG a := fun a ha hs => by unfold scrG scrC at hs; omega
  have nI' : ∀ k, (k = 0 ∨ k = 9 ∨ k = 41 ∨ k = 42 ∨ k = 62) → ¬ scrI k := fun a ha hs => by unfold scrI at hs; omega
  have nA : ∀ a, (a = 1 ∨ (7 ≤ a ∧ a ≤ 24) ∨ a = 30 ∨ a = 44 ∨ a = 45 ∨ a = 46) → ¬ scrA a := fun a ha hs => hs ha
  refine ⟨h1, h2.of (fun a h1 h2 => ⟨(c a (nC a (by omega))).1, (c a (nC a (by omega))).2.1⟩), h3.of (fun a h1 h2 => hM.2.1 a (nA a (by omega))), hG, hG2, hi, hs, ?_, ?_, ?_, ?_, ?_⟩
  · obtain ⟨t, by_, a1, a2, a3, a4, a5⟩ := h8
    exact ⟨t, by_, a1, a2, by rw [(c 0 (nC 0 (by omega))).1]; exact a3, by rw [hM.1 0 (nI' 0 (by omega))]; exact a4, fun j hj => by rw [hM.2.1 1 (nA 1 (by omega)), (c 43 (nC 43 (by omega))).2.1]; exact a5 j hj⟩
  · rw [(c 0 (nC 0 (by omega))).1, hM.1 9 (nI' 9 (by omega))]; exact h9
  · rw [(c 50 (nC 50 (by omega))).2.2]; exact h10
  · obtain ⟨⟨u, h, a1, a2, a3, a4, a5, a6, a7⟩, hd, b1, b2⟩ := h11
    refine ⟨⟨u, h, a1, a2, ?_, ?_, ?_, ?_, fun k hk => ?_⟩, hd, ?_, fun k hk => ⟨?_, fun z => ?_⟩⟩
    · rw [(c 54 (nC 54 (by omega))).1]; exact a3
    · rw [hM.1 42 (nI' 42 (by omega))]; exact a4
    · rw [(c 54 (nC 54 (by omega))).1]; exact a5
    · rw [hM.1 41 (nI' 41 (by omega))]; exact a6
    · exact (a7 k hk).of hT hij (c 55 (nC 55 (by omega))).2.1 (fun q _ _ => hM.2.2 q (by omega))
    · rw [(c 54 (nC 54 (by omega))).1]; exact b1
    · rw [hM.2.1 30 (nA 30 (by omega))]; exact (b2 k hk).1
    · exact ((b2 k hk).2 z).of hT hij (c 55 (nC 55 (by omega))).2.1 (fun q _ _ => hM.2.2 q (by omega))
  · obtain ⟨⟨k, a1, a2, a3, a4⟩, b⟩ := h12
    refine ⟨⟨k, a1, ?_, ?_, fun q hq => ?_⟩, fun m hm => ?_⟩
    · rw [(c 77 (nC 77 (by omega))).1]; exact a2
    · rw [hM.1 62 (nI' 62 (by omega))]; exact a3
    · rw [(c 78 (nC 78 (by omega))).2.1, (c 79 (nC 79 (by omega))).2.1, hM.2.1 44 (nA 44 (by omega)), hM.2.1 45 (nA 45 (by omega))]; exact a4 q hq
    · rw [(c 81 (nC 81 (by omega))).2.1, hM.2.1 46 (nA 46 (by omega))]; exact b m hm
/-! copies -/
theorem m_copy_l {n a b : Nat} {σ0 : bS} (ha : a ≤ 2160) (hb : b ≤ 2160) (hab : a + 48 ≤ b ∨ b + 48 ≤ a) : ∀ (k j : Nat) (σ : bS), j ≤ 48 → 48 < j + k → (∀ p, σ.2.1 29 p = if b ≤ p ∧ p < b + j then σ0.2.1 29 (p - b + a) else σ0.2.1 29 p) → frM (fun _ => False) (fun a => a = 29) σ0 σ → ∃ σ', m_copies_b2 n k (nI a) (nI b) (nI j) σ = some σ' ∧ (∀ p, σ'.2.1 29 p = if b ≤ p ∧ p < b + 48 then σ0.2.1 29 (p - b + a) else σ0.2.1 29 p) ∧ frM (fun _ => False) (fun a => a = 29) σ0 σ'
  | 0, j, σ, h1, h2, d, f => by omega
  | k + 1, j, σ, h1, h2, d, f => by
    rw [m_copies_b2, cb_48_n]
    by_cases hj : j < 48
    · rw [if_neg (nI_ge hj (by omega)), nI_add, nI_add, bin_nI (by omega) (by decide), bin_nI (by omega) (by decide), ci1_nI, nI_add, sA_n _ _ (by omega), d (a + j), if_neg (by omega)]
      refine m_copy_l ha hb hab k (j + 1) _ hj (by omega) (fun p => ?_) (frMaA f rfl)
      rw [uA_2, nI_clamp (by omega), d p]
      by_cases q : p = b + j
      · rw [if_pos ⟨rfl, q⟩, if_pos (by omega), show p - b + a = a + j by omega]
      · rw [if_neg (fun y => q y.2)]
        by_cases y : b ≤ p ∧ p < b + j
        · rw [if_pos y, if_pos (by omega)]
        · rw [if_neg y, if_neg (by omega)]
    · have e : j = 48 := by omega
      subst e
      rw [if_pos (Int32.le_refl _)]
      exact ⟨σ, rfl, d, f⟩
theorem m_copy {n a b : Nat} {σ : bS} (hn : 60 ≤ n) (ha : a ≤ 2160) (hb : b ≤ 2160) (hab : a + 48 ≤ b ∨ b + 48 ≤ a) : ∃ σ', m_copies n (nI a) (nI b) σ = some σ' ∧ (∀ p, σ'.2.1 29 p = if b ≤ p ∧ p < b + 48 then σ.2.1 29 (p - b + a) else σ.2.1 29 p) ∧ frM (fun _ => False) (fun a => a = 29) σ σ' := m_copy_l ha hb hab n 0 σ (by omega) (by omega) (fun p => by rw [if_neg (by omega)]) frM.rf
/-- a copied row holds what the row held -/
theorem MG.cp {T : aT} {a b : Nat} {G : aG} {σ σ' : bS} (hT : tG T ≤ 4 ∧ tM T ≤ 7) (h : MG T a G σ) (h1 : ∀ p, σ'.2.1 29 p = if b ≤ p ∧ p < b + 48 then σ.2.1 29 (p - b + a) else σ.2.1 29 p) : MG T b G σ' := by
  have e : ∀ d, d < 48 → σ'.2.1 29 (b + d) = σ.2.1 29 (a + d) := fun d hd => by rw [h1, if_pos (by omega), show b + d - b + a = a + d by omega]
  obtain ⟨⟨a1, a2, a3, a4⟩, c, d⟩ := h
  refine ⟨⟨(e 0 (by decide)).trans a1, (e 40 (by decide)).trans a2, (e 41 (by decide)).trans a3, (e 46 (by decide)).trans a4⟩, fun j hj => ?_, fun m hm => ?_⟩
  · rw [Nat.add_assoc, e _ (by omega), Nat.add_assoc b 42, e _ (by omega), ← Nat.add_assoc, ← Nat.add_assoc]
    exact c j hj
  · rw [Nat.add_assoc, e _ (by omega), Nat.add_assoc b 12, e _ (by omega), Nat.add_assoc b 19, e _ (by omega), Nat.add_assoc b 26, e _ (by omega), Nat.add_assoc b 33, e _ (by omega), ← Nat.add_assoc, ← Nat.add_assoc, ← Nat.add_assoc, ← Nat.add_assoc, ← Nat.add_assoc]
    exact d m hm
theorem cpk {a b c N M : Nat} (ha : a + c ≤ N) (hb : b + c ≤ M) (hN : N < 2 ^ 31) (hM : M < 2 ^ 31) : ¬ (nI a < 0 ∨ nI b < 0 ∨ nI c < 0 ∨ N < (nI a).toNatClampNeg + (nI c).toNatClampNeg ∨ M < (nI b).toNatClampNeg + (nI c).toNatClampNeg) := by
  rw [nI_clamp (by omega), nI_clamp (by omega), nI_clamp (by omega)]
  rintro (h | h | h | h | h)
  · exact nI_pos (by omega) h
  · exact nI_pos (by omega) h
  · exact nI_pos (by omega) h
  · omega
  · omega
theorem uC_n (σ : bS) (a0 a : Nat) {s d c : Nat} (hs : s < 2 ^ 31) (hd : d < 2 ^ 31) (hc : c < 2 ^ 31) (a1 j : Nat) : (uC σ a0 a (nI s) (nI d) (nI c)).2.1 a1 j = if a1 = a ∧ d ≤ j ∧ j < d + c then σ.2.1 a0 (s + (j - d)) else σ.2.1 a1 j := by
  rw [uC_2, nI_clamp hs, nI_clamp hd, nI_clamp hc]
theorem uC_o (σ : bS) (a0 a : Nat) (s d c : Int32) {a1 : Nat} (h : ¬ a1 = a) : (uC σ a0 a s d c).2.1 a1 = σ.2.1 a1 := by
  funext j
  rw [uC_2, if_neg (fun z => h z.1)]
theorem uA_o (σ : bS) (a : Nat) (i v : Int32) {a1 : Nat} (h : ¬ a1 = a) : (uA σ a i v).2.1 a1 = σ.2.1 a1 := by
  funext j
  rw [uA_2, if_neg (fun z => h z.1)]
def put55 (q : Nat) (G : aG) (σ : bS) : bS := uC (uC (uC (uC (uC (uC (uC (uA (uA (uA σ 55 (nI q) (G 0 0)) 55 (nI (q + 1)) (G 1 0)) 55 (nI (q + 2)) (G 2 0)) 28 55 (nI 0) (nI (q + 3)) (nI 4)) 29 55 (nI 0) (nI (q + 7)) (nI 4)) 30 55 (nI 0) (nI (q + 11)) (nI 7)) 31 55 (nI 0) (nI (q + 18)) (nI 7)) 32 55 (nI 0) (nI (q + 25)) (nI 7)) 33 55 (nI 0) (nI (q + 32)) (nI 7)) 34 55 (nI 0) (nI (q + 39)) (nI 7)
theorem put55_eq {n q : Nat} {G : aG} {σ : bS} (hq : q + 46 ≤ 1978) (hG : CG 27 G σ) : cGoing_putInto_55 n (nI q) σ = some (put55 q G σ) := by
  have e2 : sI σ 27 2 = G 0 0 := hG.1.1
  have e3 : sI σ 27 3 = G 1 0 := hG.1.2.1
  have e4 : sI σ 27 4 = G 2 0 := hG.1.2.2.1
  unfold cGoing_putInto_55
  simp only [sI_uA, e2, e3, e4, ci0_nI, ci1_nI, ci_2_n, ci_3_n, ci_4_n, ci_8_n, cb7_nI, cb_14_n, cb_21_n, cb_28_n, nI_add, Nat.add_assoc, Nat.reduceAdd]
  rw [bin_nI (by omega) (by decide), bin_nI (by omega) (by decide), bin_nI (by omega) (by decide), if_neg (cpk (by omega) (by omega) (by decide) (by decide)), if_neg (cpk (by omega) (by omega) (by decide) (by decide)), if_neg (cpk (by omega) (by omega) (by decide) (by decide)), if_neg (cpk (by omega) (by omega) (by decide) (by decide)), if_neg (cpk (by omega) (by omega) (by decide) (by decide)), if_neg (cpk (by omega) (by omega) (by decide) (by decide)), if_neg (cpk (by omega) (by omega) (by decide) (by decide))]
  rfl
theorem put55_rd {q : Nat} {G : aG} {σ : bS} (hq : q + 46 ≤ 1978) (j : Nat) : (put55 q G σ).2.1 55 j = if 55 = 55 ∧ q + 39 ≤ j ∧ j < q + 39 + 7 then σ.2.1 34 (0 + (j - (q + 39))) else if 55 = 55 ∧ q + 32 ≤ j ∧ j < q + 32 + 7 then σ.2.1 33 (0 + (j - (q + 32))) else if 55 = 55 ∧ q + 25 ≤ j ∧ j < q + 25 + 7 then σ.2.1 32 (0 + (j - (q + 25))) else if 55 = 55 ∧ q + 18 ≤ j ∧ j < q + 18 + 7 then σ.2.1 31 (0 + (j - (q + 18))) else if 55 = 55 ∧ q + 11 ≤ j ∧ j < q + 11 + 7 then σ.2.1 30 (0 + (j - (q + 11))) else if 55 = 55 ∧ q + 7 ≤ j ∧ j < q + 7 + 4 then σ.2.1 29 (0 + (j - (q + 7))) else if 55 = 55 ∧ q + 3 ≤ j ∧ j < q + 3 + 4 then σ.2.1 28 (0 + (j - (q + 3))) else if 55 = 55 ∧ j = q + 2 then G 2 0 else if 55 = 55 ∧ j = q + 1 then G 1 0 else if 55 = 55 ∧ j = q then G 0 0 else σ.2.1 55 j := by
  unfold put55
  rw [uC_n _ 34 55 (s := 0) (d := q + 39) (c := 7) (by decide) (by omega) (by decide) 55 j]
  rw [uC_n _ 33 55 (s := 0) (d := q + 32) (c := 7) (by decide) (by omega) (by decide) 55 j]
  rw [uC_n _ 32 55 (s := 0) (d := q + 25) (c := 7) (by decide) (by omega) (by decide) 55 j]
  rw [uC_n _ 31 55 (s := 0) (d := q + 18) (c := 7) (by decide) (by omega) (by decide) 55 j]
  rw [uC_n _ 30 55 (s := 0) (d := q + 11) (c := 7) (by decide) (by omega) (by decide) 55 j]
  rw [uC_n _ 29 55 (s := 0) (d := q + 7) (c := 4) (by decide) (by omega) (by decide) 55 j]
  rw [uC_n _ 28 55 (s := 0) (d := q + 3) (c := 4) (by decide) (by omega) (by decide) 55 j]
  simp only [uC_o _ _ _ _ _ _ (show ¬ 28 = 55 by decide), uA_o _ _ _ _ (show ¬ 28 = 55 by decide), uC_o _ _ _ _ _ _ (show ¬ 29 = 55 by decide), uA_o _ _ _ _ (show ¬ 29 = 55 by decide), uC_o _ _ _ _ _ _ (show ¬ 30 = 55 by decide), uA_o _ _ _ _ (show ¬ 30 = 55 by decide), uC_o _ _ _ _ _ _ (show ¬ 31 = 55 by decide), uA_o _ _ _ _ (show ¬ 31 = 55 by decide), uC_o _ _ _ _ _ _ (show ¬ 32 = 55 by decide), uA_o _ _ _ _ (show ¬ 32 = 55 by decide), uC_o _ _ _ _ _ _ (show ¬ 33 = 55 by decide), uA_o _ _ _ _ (show ¬ 33 = 55 by decide), uC_o _ _ _ _ _ _ (show ¬ 34 = 55 by decide), uA_o _ _ _ _ (show ¬ 34 = 55 by decide)]
  simp only [uA_2, nI_clamp (show q < 2 ^ 31 by omega), nI_clamp (show q + 1 < 2 ^ 31 by omega), nI_clamp (show q + 2 < 2 ^ 31 by omega)]
theorem put55_fr {q : Nat} {G : aG} {σ : bS} : frC (fun a => a = 55) σ (put55 q G σ) := frCaC (frCaC (frCaC (frCaC (frCaC (frCaC (frCaC (frCaA (frCaA (frCaA frC.rf rfl) rfl) rfl) rfl) rfl) rfl) rfl) rfl) rfl) rfl
theorem put55_sh {p : Nat} {G : aG} {σ : bS} (hp : p ≤ 42) (hG : CG 27 G σ) : CSh p G (put55 (46 * p) G σ) := by
  refine ⟨⟨?_, ?_, ?_⟩, fun b hb => ⟨?_, ?_⟩, fun m hm => ⟨?_, ?_, ?_, ?_, ?_⟩⟩
  · rw [put55_rd (by omega), if_neg (by omega), if_neg (by omega), if_neg (by omega), if_neg (by omega), if_neg (by omega), if_neg (by omega), if_neg (by omega), if_neg (by omega), if_neg (by omega), if_pos ⟨rfl, rfl⟩]
  · rw [put55_rd (by omega), if_neg (by omega), if_neg (by omega), if_neg (by omega), if_neg (by omega), if_neg (by omega), if_neg (by omega), if_neg (by omega), if_neg (by omega), if_pos ⟨rfl, rfl⟩]
  · rw [put55_rd (by omega), if_neg (by omega), if_neg (by omega), if_neg (by omega), if_neg (by omega), if_neg (by omega), if_neg (by omega), if_neg (by omega), if_pos ⟨rfl, rfl⟩]
  · rw [put55_rd (by omega), if_neg (by omega), if_neg (by omega), if_neg (by omega), if_neg (by omega), if_neg (by omega), if_neg (by omega), if_pos (by omega), show 0 + (46 * p + 3 + b - (46 * p + 3)) = b by omega]
    exact (hG.2.1 b hb).1
  · rw [put55_rd (by omega), if_neg (by omega), if_neg (by omega), if_neg (by omega), if_neg (by omega), if_neg (by omega), if_pos (by omega), show 0 + (46 * p + 7 + b - (46 * p + 7)) = b by omega]
    exact (hG.2.1 b hb).2
  · rw [put55_rd (by omega), if_neg (by omega), if_neg (by omega), if_neg (by omega), if_neg (by omega), if_pos (by omega), show 0 + (46 * p + 11 + m - (46 * p + 11)) = m by omega]
    exact (hG.2.2 m hm).1
  · rw [put55_rd (by omega), if_neg (by omega), if_neg (by omega), if_neg (by omega), if_pos (by omega), show 0 + (46 * p + 18 + m - (46 * p + 18)) = m by omega]
    exact (hG.2.2 m hm).2.1
  · rw [put55_rd (by omega), if_neg (by omega), if_neg (by omega), if_pos (by omega), show 0 + (46 * p + 25 + m - (46 * p + 25)) = m by omega]
    exact (hG.2.2 m hm).2.2.1
  · rw [put55_rd (by omega), if_neg (by omega), if_pos (by omega), show 0 + (46 * p + 32 + m - (46 * p + 32)) = m by omega]
    exact (hG.2.2 m hm).2.2.2.1
  · rw [put55_rd (by omega), if_pos (by omega), show 0 + (46 * p + 39 + m - (46 * p + 39)) = m by omega]
    exact (hG.2.2 m hm).2.2.2.2
theorem put55_ot {p r : Nat} {G G' : aG} {σ : bS} (hp : p ≤ 42) (hr : ¬ r = p) (h : CSh r G' σ) : CSh r G' (put55 (46 * p) G σ) := by
  have e : ∀ d, d < 46 → (put55 (46 * p) G σ).2.1 55 (46 * r + d) = σ.2.1 55 (46 * r + d) := fun d hd => by
    rw [put55_rd (by omega), if_neg (by omega), if_neg (by omega), if_neg (by omega), if_neg (by omega), if_neg (by omega), if_neg (by omega), if_neg (by omega), if_neg (by omega), if_neg (by omega), if_neg (by omega)]
  obtain ⟨⟨a1, a2, a3⟩, b, c⟩ := h
  refine ⟨⟨(e 0 (by decide)).trans a1, (e 1 (by decide)).trans a2, (e 2 (by decide)).trans a3⟩, fun j hj => ?_, fun m hm => ?_⟩
  · rw [Nat.add_assoc, e _ (by omega), Nat.add_assoc _ 7, e _ (by omega), ← Nat.add_assoc, ← Nat.add_assoc]
    exact b j hj
  · rw [Nat.add_assoc, e _ (by omega), Nat.add_assoc _ 18, e _ (by omega), Nat.add_assoc _ 25, e _ (by omega), Nat.add_assoc _ 32, e _ (by omega), Nat.add_assoc _ 39, e _ (by omega), ← Nat.add_assoc, ← Nat.add_assoc, ← Nat.add_assoc, ← Nat.add_assoc, ← Nat.add_assoc]
    exact c m hm
def take55 (q : Nat) (G : aG) (σ : bS) : bS := uC (uC (uC (uC (uC (uC (uC (uI (uI (uI σ 27 2 (G 0 0)) 27 3 (G 1 0)) 27 4 (G 2 0)) 55 28 (nI (q + 3)) (nI 0) (nI 4)) 55 29 (nI (q + 7)) (nI 0) (nI 4)) 55 30 (nI (q + 11)) (nI 0) (nI 7)) 55 31 (nI (q + 18)) (nI 0) (nI 7)) 55 32 (nI (q + 25)) (nI 0) (nI 7)) 55 33 (nI (q + 32)) (nI 0) (nI 7)) 55 34 (nI (q + 39)) (nI 0) (nI 7)
theorem take55_eq {n p : Nat} {G : aG} {σ : bS} (hp : p ≤ 42) (hG : CSh p G σ) : cGoing_takeOutOf_55 n (nI (46 * p)) σ = some (take55 (46 * p) G σ) := by
  have e2 : sA σ 55 (nI (46 * p)) = G 0 0 := (sA_n _ _ (by omega)).trans hG.1.1
  have e3 : sA σ 55 (nI (46 * p + 1)) = G 1 0 := (sA_n _ _ (by omega)).trans hG.1.2.1
  have e4 : sA σ 55 (nI (46 * p + 2)) = G 2 0 := (sA_n _ _ (by omega)).trans hG.1.2.2
  unfold cGoing_takeOutOf_55
  simp only [sA_uI, e2, e3, e4, ci0_nI, ci1_nI, ci_2_n, ci_3_n, ci_4_n, ci_8_n, cb7_nI, cb_14_n, cb_21_n, cb_28_n, nI_add, Nat.add_assoc, Nat.reduceAdd]
  rw [bin_nI (by omega) (by decide), bin_nI (by omega) (by decide), bin_nI (by omega) (by decide), if_neg (cpk (by omega) (by omega) (by decide) (by decide)), if_neg (cpk (by omega) (by omega) (by decide) (by decide)), if_neg (cpk (by omega) (by omega) (by decide) (by decide)), if_neg (cpk (by omega) (by omega) (by decide) (by decide)), if_neg (cpk (by omega) (by omega) (by decide) (by decide)), if_neg (cpk (by omega) (by omega) (by decide) (by decide)), if_neg (cpk (by omega) (by omega) (by decide) (by decide))]
  rfl
theorem take55_fr {q : Nat} {G : aG} {σ : bS} : frC (fun a => 27 ≤ a ∧ a ≤ 34) σ (take55 q G σ) := frCaC (frCaC (frCaC (frCaC (frCaC (frCaC (frCaC (frCaI (frCaI (frCaI frC.rf (by decide)) (by decide)) (by decide)) (by decide)) (by decide)) (by decide)) (by decide)) (by decide)) (by decide)) (by decide)
theorem take55_cg {p : Nat} {G : aG} {σ : bS} (hp : p ≤ 42) (hG : CSh p G σ) (hs : σ.1 27 1 = G 10 0) : CG 27 G (take55 (46 * p) G σ) := by
  have rd : ∀ j, (j < 4 → (take55 (46 * p) G σ).2.1 28 j = σ.2.1 55 (46 * p + 3 + j)) ∧ (j < 4 → (take55 (46 * p) G σ).2.1 29 j = σ.2.1 55 (46 * p + 7 + j)) ∧ (j < 7 → (take55 (46 * p) G σ).2.1 30 j = σ.2.1 55 (46 * p + 11 + j)) ∧ (j < 7 → (take55 (46 * p) G σ).2.1 31 j = σ.2.1 55 (46 * p + 18 + j)) ∧ (j < 7 → (take55 (46 * p) G σ).2.1 32 j = σ.2.1 55 (46 * p + 25 + j)) ∧ (j < 7 → (take55 (46 * p) G σ).2.1 33 j = σ.2.1 55 (46 * p + 32 + j)) ∧ (j < 7 → (take55 (46 * p) G σ).2.1 34 j = σ.2.1 55 (46 * p + 39 + j)) := fun j => by
    refine ⟨fun hj => ?_, fun hj => ?_, fun hj => ?_, fun hj => ?_, fun hj => ?_, fun hj => ?_, fun hj => ?_⟩
    · unfold take55
      rw [uC_o _ _ _ _ _ _ (show ¬ 28 = 34 by decide), uC_o _ _ _ _ _ _ (show ¬ 28 = 33 by decide), uC_o _ _ _ _ _ _ (show ¬ 28 = 32 by decide), uC_o _ _ _ _ _ _ (show ¬ 28 = 31 by decide), uC_o _ _ _ _ _ _ (show ¬ 28 = 30 by decide), uC_o _ _ _ _ _ _ (show ¬ 28 = 29 by decide), uC_n _ 55 28 (s := 46 * p + 3) (d := 0) (c := 4) (by omega) (by decide) (by decide), if_pos (by omega), Nat.sub_zero]
      rfl
    · unfold take55
      rw [uC_o _ _ _ _ _ _ (show ¬ 29 = 34 by decide), uC_o _ _ _ _ _ _ (show ¬ 29 = 33 by decide), uC_o _ _ _ _ _ _ (show ¬ 29 = 32 by decide), uC_o _ _ _ _ _ _ (show ¬ 29 = 31 by decide), uC_o _ _ _ _ _ _ (show ¬ 29 = 30 by decide), uC_n _ 55 29 (s := 46 * p + 7) (d := 0) (c := 4) (by omega) (by decide) (by decide), if_pos (by omega), Nat.sub_zero, uC_o _ _ _ _ _ _ (show ¬ 55 = 28 by decide)]
      rfl
    · unfold take55
      rw [uC_o _ _ _ _ _ _ (show ¬ 30 = 34 by decide), uC_o _ _ _ _ _ _ (show ¬ 30 = 33 by decide), uC_o _ _ _ _ _ _ (show ¬ 30 = 32 by decide), uC_o _ _ _ _ _ _ (show ¬ 30 = 31 by decide), uC_n _ 55 30 (s := 46 * p + 11) (d := 0) (c := 7) (by omega) (by decide) (by decide), if_pos (by omega), Nat.sub_zero, uC_o _ _ _ _ _ _ (show ¬ 55 = 29 by decide), uC_o _ _ _ _ _ _ (show ¬ 55 = 28 by decide)]
      rfl
    · unfold take55
      rw [uC_o _ _ _ _ _ _ (show ¬ 31 = 34 by decide), uC_o _ _ _ _ _ _ (show ¬ 31 = 33 by decide), uC_o _ _ _ _ _ _ (show ¬ 31 = 32 by decide), uC_n _ 55 31 (s := 46 * p + 18) (d := 0) (c := 7) (by omega) (by decide) (by decide), if_pos (by omega), Nat.sub_zero, uC_o _ _ _ _ _ _ (show ¬ 55 = 30 by decide), uC_o _ _ _ _ _ _ (show ¬ 55 = 29 by decide), uC_o _ _ _ _ _ _ (show ¬ 55 = 28 by decide)]
      rfl
    · unfold take55
      rw [uC_o _ _ _ _ _ _ (show ¬ 32 = 34 by decide), uC_o _ _ _ _ _ _ (show ¬ 32 = 33 by decide), uC_n _ 55 32 (s := 46 * p + 25) (d := 0) (c := 7) (by omega) (by decide) (by decide), if_pos (by omega), Nat.sub_zero, uC_o _ _ _ _ _ _ (show ¬ 55 = 31 by decide), uC_o _ _ _ _ _ _ (show ¬ 55 = 30 by decide), uC_o _ _ _ _ _ _ (show ¬ 55 = 29 by decide), uC_o _ _ _ _ _ _ (show ¬ 55 = 28 by decide)]
      rfl
    · unfold take55
      rw [uC_o _ _ _ _ _ _ (show ¬ 33 = 34 by decide), uC_n _ 55 33 (s := 46 * p + 32) (d := 0) (c := 7) (by omega) (by decide) (by decide), if_pos (by omega), Nat.sub_zero, uC_o _ _ _ _ _ _ (show ¬ 55 = 32 by decide), uC_o _ _ _ _ _ _ (show ¬ 55 = 31 by decide), uC_o _ _ _ _ _ _ (show ¬ 55 = 30 by decide), uC_o _ _ _ _ _ _ (show ¬ 55 = 29 by decide), uC_o _ _ _ _ _ _ (show ¬ 55 = 28 by decide)]
      rfl
    · unfold take55
      rw [uC_n _ 55 34 (s := 46 * p + 39) (d := 0) (c := 7) (by omega) (by decide) (by decide), if_pos (by omega), Nat.sub_zero, uC_o _ _ _ _ _ _ (show ¬ 55 = 33 by decide), uC_o _ _ _ _ _ _ (show ¬ 55 = 32 by decide), uC_o _ _ _ _ _ _ (show ¬ 55 = 31 by decide), uC_o _ _ _ _ _ _ (show ¬ 55 = 30 by decide), uC_o _ _ _ _ _ _ (show ¬ 55 = 29 by decide), uC_o _ _ _ _ _ _ (show ¬ 55 = 28 by decide)]
      rfl
  refine ⟨⟨?_, ?_, ?_, ?_⟩, fun b hb => ⟨?_, ?_⟩, fun m hm => ⟨?_, ?_, ?_, ?_, ?_⟩⟩
  · rfl
  · rfl
  · rfl
  · exact hs
  · rw [(rd b).1 (by omega)]
    exact (hG.2.1 b hb).1
  · rw [(rd b).2.1 (by omega)]
    exact (hG.2.1 b hb).2
  · rw [(rd m).2.2.1 (by omega)]
    exact (hG.2.2 m hm).1
  · rw [(rd m).2.2.2.1 (by omega)]
    exact (hG.2.2 m hm).2.1
  · rw [(rd m).2.2.2.2.1 (by omega)]
    exact (hG.2.2 m hm).2.2.1
  · rw [(rd m).2.2.2.2.2.1 (by omega)]
    exact (hG.2.2 m hm).2.2.2.1
  · rw [(rd m).2.2.2.2.2.2 (by omega)]
    exact (hG.2.2 m hm).2.2.2.2
/-! keep -/
theorem RelB.keep {i n n1 : Nat} {T : aT} {L : aL} {G : aG} {σC σM : bS} (hn1 : 60 ≤ n1) (h : RelB i T L G σC σM) : ∃ σC' σM', cShelf_keep_27 n σC = some σC' ∧ m_keeps n1 σM = some σM' ∧ RelB i T L G σC' σM' ∧ σM'.1 0 40 = nI 0 ∧ frC (fun a => a = 54 ∨ a = 55) σC σC' ∧ (∀ j, j < 144 → σM'.2.1 29 j = σM.2.1 29 j) := by
  obtain ⟨h1, h2, h3, h4, h5, h6, h7, h8, h9, h10, ⟨⟨u, hh, a1, a2, a3, a4, a5, a6, a7⟩, hd, b1, b2⟩, h12⟩ := h
  have hT : tG T ≤ 4 ∧ tM T ≤ 7 := ⟨h1.2.2.1, h1.2.2.2.1⟩
  obtain ⟨σ1, d1, d2, d3⟩ := m_copy (n := n1) (a := 0) (b := 288 + 48 * u) (σ := uI σM 0 40 ci_0) hn1 (by omega) (by omega) (by omega)
  have e1 : (put55 (46 * u) G σC).1 = σC.1 := rfl
  obtain ⟨h', eh, hh'⟩ : ∃ h', h' = (if hh < 40 then hh + 1 else 40) ∧ h' ≤ 40 := ⟨_, rfl, by split <;> omega⟩
  obtain ⟨σC', sC⟩ : ∃ y, y = uI (uI (put55 (46 * u) G σC) 54 1 (nI ((u + 1) % 40))) 54 2 (nI h') := ⟨_, rfl⟩
  obtain ⟨σM', sM⟩ : ∃ y, y = (if hh < 40 then uI (uI σ1 0 42 (nI ((u + 1) % 40))) 0 41 (nI h') else uI σ1 0 42 (nI ((u + 1) % 40))) := ⟨_, rfl⟩
  have fC : frC (fun a => a = 54 ∨ a = 55) σC σC' := by
    rw [sC]
    exact frCaI (frCaI (put55_fr.mono (fun a h => Or.inr h)) (Or.inl rfl)) (Or.inl rfl)
  have aM : σM'.2 = σ1.2 := by
    rw [sM]
    split <;> rfl
  have iM : ∀ k, σM'.1 0 k = if k = 41 then nI h' else if k = 42 then nI ((u + 1) % 40) else if k = 40 then nI 0 else σM.1 0 k := fun k => by
    have z : ∀ k, σ1.1 0 k = if k = 40 then nI 0 else σM.1 0 k := fun k => by
      rw [d3.1 k (fun z => z), uI_1]
      by_cases y : k = 40 <;> simp [y, ci0_nI]
    rw [sM]
    by_cases y : hh < 40
    · rw [if_pos y, uI_1, uI_1, z]
      by_cases y1 : k = 41
      · simp [y1]
      · by_cases y2 : k = 42 <;> simp [y1, y2]
    · rw [if_neg y, uI_1, z]
      by_cases y1 : k = 41
      · subst y1
        simp
        rw [eh, if_neg y, a6, show hh = 40 by omega]
      · by_cases y2 : k = 42 <;> simp [y1, y2]
  have rM : ∀ p, σM'.2.1 29 p = if 288 + 48 * u ≤ p ∧ p < 288 + 48 * u + 48 then σM.2.1 29 (p - (288 + 48 * u) + 0) else σM.2.1 29 p := fun p => by rw [aM, d2]; rfl
  have oM : ∀ a, ¬ a = 29 → σM'.2.1 a = σM.2.1 a := fun a ha => by rw [aM, d3.2.1 a ha]; rfl
  have iC : ∀ k, σC'.1 54 k = if k = 2 then nI h' else if k = 1 then nI ((u + 1) % 40) else σC.1 54 k := fun k => by
    rw [sC, uI_1, uI_1, e1]
    by_cases y1 : k = 2
    · simp [y1]
    · by_cases y2 : k = 1 <;> simp [y1, y2]
  have cC : σC'.2.1 55 = (put55 (46 * u) G σC).2.1 55 := by rw [sC]; rfl
  have ot : ∀ p w, ¬ p = u → (w + 48 ≤ 288 + 48 * u ∨ 288 + 48 * u + 48 ≤ w) → RHeld T i p w σC σM → RHeld T i p w σC' σM' := fun p w hp hw => by
    rintro ⟨G', g1, g2, g3, g4⟩
    refine ⟨G', ?_, g2.of hT (fun j j1 j2 => by rw [rM, if_neg (by omega)]), g3, g4⟩
    have z := put55_ot (G := G) (show u ≤ 42 by omega) hp g1
    unfold CSh at z ⊢
    rw [cC]
    exact z
  refine ⟨σC', σM', ?_, ?_, ⟨h1, h2.of (fun a x1 x2 => ⟨(fC a (by omega)).1, (fC a (by omega)).2.1⟩), h3.of (fun a x1 x2 => oM a (by omega)), h4.of (fun a x1 x2 => ⟨(fC a (by omega)).1, (fC a (by omega)).2.1⟩), h5.of hT (fun j _ hj => by rw [rM, if_neg (by omega)]), h6, h7, ?_, ?_, ?_, ?_, ?_⟩, ?_, fC, fun j hj => by rw [rM, if_neg (by omega)]⟩
  · unfold cShelf_keep_27
    have p1 : sI σC 54 1 = nI u := a3
    have p2 : sI (put55 (46 * u) G σC) 54 1 = nI u := a3
    rw [p1, cb_46_n, nI_mul, Nat.mul_comm, put55_eq (by omega) h4, ob_def, if_neg (show ¬ cb_40 = 0 by decide), p2, ci1_nI, nI_add, cb_40_n, brem_n (by omega) (by decide) (by decide)]
    have p3 : sI (uI (put55 (46 * u) G σC) 54 1 (nI ((u + 1) % 40))) 54 2 = nI hh := by rw [sI_d, uI_1, if_neg (by decide)]; exact a5
    rw [p3, nI_add]
    have p4 : cj_min n (nI (hh + 1)) (nI 40) (uI (put55 (46 * u) G σC) 54 1 (nI ((u + 1) % 40))) = some (nI h', uI (put55 (46 * u) G σC) 54 1 (nI ((u + 1) % 40))) := by
      unfold cj_min
      by_cases y : hh < 40
      · rw [if_neg (fun z => by have := (nI_ltI (by omega) (by omega)).mp z; omega), eh, if_pos y]; rfl
      · rw [if_pos ((nI_ltI (by omega) (by omega)).mpr (by omega)), eh, if_neg y]; rfl
    rw [p4, ob_def, sC]
  · unfold m_keeps
    have q1 : sI (uI σM 0 40 ci_0) 0 42 = nI u := a4
    have q2 : sI σ1 0 42 = nI u := by rw [sI_d, d3.1 42 (fun z => z)]; exact a4
    rw [q1, cb_48_n, nI_mul, cs_288_n, nI_add, ci0_nI, ← ci0_nI, show m_copies n1 ci_0 (nI (288 + 48 * u)) (uI σM 0 40 ci_0) = some σ1 from d1, ob_def, if_neg (show ¬ cb_40 = 0 by decide), q2, ci1_nI, nI_add, cb_40_n, brem_n (by omega) (by decide) (by decide)]
    have q3 : sI (uI σ1 0 42 (nI ((u + 1) % 40))) 0 41 = nI hh := by rw [sI_d, uI_1, if_neg (by decide), d3.1 41 (fun z => z)]; exact a6
    rw [q3, nI_add, sM]
    by_cases y : hh < 40
    · rw [if_neg (nI_ge y (by omega)), if_pos y, eh, if_pos y]; rfl
    · rw [if_pos ((nI_leI (by omega) (by omega)).mpr (by omega)), if_neg y]; rfl
  · obtain ⟨t, by_, z1, z2, z3, z4, z5⟩ := h8
    exact ⟨t, by_, z1, z2, by rw [(fC 0 (by decide)).1]; exact z3, by rw [iM]; exact z4, fun j hj => by rw [oM 1 (by decide), (fC 43 (by decide)).2.1]; exact z5 j hj⟩
  · rw [(fC 0 (by decide)).1, iM]; exact h9
  · rw [(fC 50 (by decide)).2.2]; exact h10
  · refine ⟨⟨(u + 1) % 40, h', Nat.mod_lt _ (by decide), hh', ?_, ?_, ?_, ?_, fun j hj => ?_⟩, hd, ?_, fun k hk => ⟨?_, fun z => ?_⟩⟩
    · rw [iC]; rfl
    · rw [iM]; rfl
    · rw [iC]; rfl
    · rw [iM]; rfl
    · by_cases j0 : j = 0
      · subst j0
        rw [show ((u + 1) % 40 + 39 - 0) % 40 = u by omega]
        refine ⟨G, ?_, h5.cp hT rM, h6, h7⟩
        have z := put55_sh (show u ≤ 42 by omega) h4
        unfold CSh at z ⊢
        rw [cC]
        exact z
      · have hj2 : j - 1 < hh := by
          rw [eh] at hj
          split at hj <;> omega
        have e : ((u + 1) % 40 + 39 - j) % 40 = (u + 39 - (j - 1)) % 40 := by omega
        rw [e]
        exact ot _ _ (by omega) (by omega) (a7 (j - 1) hj2)
    · rw [iC]; exact b1
    · rw [oM 30 (by decide)]; exact (b2 k hk).1
    · exact ot _ _ (by omega) (by omega) ((b2 k hk).2 z)
  · obtain ⟨⟨k, z1, z2, z3, z4⟩, b⟩ := h12
    refine ⟨⟨k, z1, ?_, ?_, fun q hq => ?_⟩, fun m hm => ?_⟩
    · rw [(fC 77 (by decide)).1]; exact z2
    · rw [iM]; exact z3
    · rw [(fC 78 (by decide)).2.1, (fC 79 (by decide)).2.1, oM 44 (by decide), oM 45 (by decide)]; exact z4 q hq
    · rw [(fC 81 (by decide)).2.1, oM 46 (by decide)]; exact b m hm
  · rw [iM]; rfl
