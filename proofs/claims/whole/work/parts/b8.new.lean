/-! a text that was told is gone by, on both sides -/
theorem hlf_no {a : Nat} (h : ¬ (7 ≤ a ∧ a ≤ 24)) : hlf a = 0 := by
  unfold hlf
  rw [if_neg (by omega), if_neg (by omega), if_neg (by omega), if_neg (by omega), if_neg (by omega), if_neg (by omega), if_neg (by omega)]
theorem m_new {n G M : Nat} {σ : bS} (hn : 600 ≤ n) (hG : G ≤ 4) (hM : M ≤ 7) (h17 : σ.2.1 17 1 = nI G) (h20 : σ.2.1 20 1 = nI M) : ∃ σ1 σ2, m_lays n σ = some σ1 ∧ m_begins n σ1 = some σ2 ∧ (∀ a j, j < hlf a → σ2.2.1 a j = σ.2.1 a (hlf a + j)) ∧ (∀ k, σ2.1 0 k = if k = 40 ∨ k = 41 ∨ k = 62 then 0 else σ.1 0 k) ∧ (σ2.2.1 29 0 = 0 ∧ σ2.2.1 29 40 = 0 ∧ σ2.2.1 29 41 = 0 ∧ σ2.2.1 29 46 = σ.2.1 24 7) ∧ (∀ b, b < G → σ2.2.1 29 (1 + b) = σ.2.1 19 (4 + b) ∧ σ2.2.1 29 (42 + b) = 0) ∧ (∀ m, m < M → σ2.2.1 29 (5 + m) = σ.2.1 21 (7 + m) ∧ σ2.2.1 29 (12 + m) = -2 ∧ σ2.2.1 29 (19 + m) = σ.2.1 23 (7 + m) ∧ σ2.2.1 29 (26 + m) = 0 ∧ σ2.2.1 29 (33 + m) = 0) ∧ (∀ i, i < 7 → σ2.2.1 46 i = -1) ∧ ∀ i, i < 3 → σ2.2.1 30 i = 0 := by
  obtain ⟨h7, h8, h9, h10, h11, h12, h13, h14, h15, h16, h17', h18, h19, h20', h21, h22, h23, h24⟩ := hlfs
  obtain ⟨σ1, a1, a2, a3, a4⟩ := m_lays_eq hn σ
  have e17 : σ1.2.1 17 0 = nI G := by
    rw [a4 17 0 (by omega), h17']
    exact h17
  have e20 : σ1.2.1 20 0 = nI M := by
    rw [a4 20 0 (by omega), h20']
    exact h20
  obtain ⟨σ2, b1, b2, b3, ⟨b4, b5, b6, b7⟩, b8, b9, b10, b11⟩ := m_begins_eq (n := n) (by omega) hG hM e17 e20
  refine ⟨σ1, σ2, a1, b1, fun a j hj => ?_, fun k => ?_, ⟨b4, b5, b6, ?_⟩, fun b hb => ⟨?_, (b8 b hb).2⟩, fun m hm => ⟨?_, (b9 m hm).2.1, ?_, (b9 m hm).2.2.2⟩, b10, b11⟩
  · rw [b3 a (fun u => by rw [hlf_no (by omega)] at hj; omega)]
    exact a4 a j hj
  · rw [b2 k, a2]
  · rw [b7, a4 24 3 (by omega), h24]
  · rw [(b8 b hb).1, a4 19 b (by omega), h19]
  · rw [(b9 m hm).1, a4 21 m (by omega), h21]
  · rw [(b9 m hm).2.2.1, a4 23 m (by omega), h23]
/-- how it goes on in the class, by tags -/
def gC (σ : bS) : aG := fun t i => if t = 0 then σ.1 27 2 else if t = 1 then σ.1 27 3 else if t = 2 then σ.1 27 4 else if t = 3 then σ.2.1 28 i else if t = 4 then σ.2.1 29 i else if t = 5 then σ.2.1 30 i else if t = 6 then σ.2.1 31 i else if t = 7 then σ.2.1 32 i else if t = 8 then σ.2.1 33 i else if t = 9 then σ.2.1 34 i else σ.1 27 1
theorem CG_gC (σ : bS) : CG 27 (gC σ) σ := ⟨⟨rfl, rfl, rfl, rfl⟩, fun _ _ => ⟨rfl, rfl⟩, fun _ _ => ⟨rfl, rfl, rfl, rfl, rfl⟩⟩
theorem rel_new {i B P G M a m : Nat} {N : nmS} {σC σM σC' σM' : bS} (hQ : Cnt N B P G M σC σM) (hP : PC B P G M a m σC σM) (ha : a ≤ 400) (hm : m ≤ 400) (h23 : σC.1 23 3 = nI a) (c1 : ∀ j, σC'.1 1 j = σC.1 14 j) (c10 : σC'.1 10 3 = σC.1 23 3) (cA : ∀ b, 2 ≤ b → b ≤ 11 → σC'.2.1 b = σC.2.1 (b + 13)) (hM : ∀ a j, j < hlf a → σM'.2.1 a j = σM.2.1 a (hlf a + j))
    (g0 : σC'.1 27 2 = 0 ∧ σC'.1 27 3 = 0 ∧ σC'.1 27 4 = 0 ∧ σC'.1 27 1 = σC.1 14 18) (g1 : ∀ b, b < G → σC'.2.1 28 b = σC.2.1 17 b ∧ σC'.2.1 29 b = 0) (g2 : ∀ m, m < M → σC'.2.1 30 m = σC.2.1 18 m ∧ σC'.2.1 31 m = -1 ∧ σC'.2.1 32 m = σC.2.1 20 m ∧ σC'.2.1 33 m = 0 ∧ σC'.2.1 34 m = 0)
    (k0 : σM'.2.1 29 0 = 0 ∧ σM'.2.1 29 40 = 0 ∧ σM'.2.1 29 41 = 0 ∧ σM'.2.1 29 46 = σM.2.1 24 7) (k1 : ∀ b, b < G → σM'.2.1 29 (1 + b) = σM.2.1 19 (4 + b) ∧ σM'.2.1 29 (42 + b) = 0) (k2 : ∀ m, m < M → σM'.2.1 29 (5 + m) = σM.2.1 21 (7 + m) ∧ σM'.2.1 29 (12 + m) = -2 ∧ σM'.2.1 29 (19 + m) = σM.2.1 23 (7 + m) ∧ σM'.2.1 29 (26 + m) = 0 ∧ σM'.2.1 29 (33 + m) = 0)
    (ht : σC'.1 0 1 = 0 ∧ σM'.1 0 0 = 0) (h2 : σC'.1 0 2 = σM'.1 0 9) (h50 : σC'.2.2 50 = tkW) (hu : ∃ u, u < 40 ∧ σC'.1 54 1 = nI u ∧ σM'.1 0 42 = nI u) (hs : σC'.1 54 2 = 0 ∧ σM'.1 0 41 = 0 ∧ σC'.1 54 3 = 0) (h30 : ∀ i, i < 3 → σM'.2.1 30 i = 0) (h77 : σC'.1 77 4 = 0 ∧ σM'.1 0 62 = 0) (h81 : ∀ m, m < 7 → σC'.2.1 81 m = -1) (h46 : ∀ m, m < 7 → σM'.2.1 46 m = -1) : Rel i σC' σM' := by
  obtain ⟨T, L, t1, t2, t3, t4, t5, t6, t7⟩ := tx_new hQ hP ha hm h23 c1 c10 cA hM
  obtain ⟨-, q2, q3, ⟨-, -, -, s4⟩, -⟩ := hP
  obtain ⟨-, ⟨b6, p10, g4, m7⟩, -, -⟩ := hQ
  obtain ⟨u, u1, u2, u3⟩ := hu
  have gs : gC σC' 10 0 = σC.1 14 18 := g0.2.2.2
  refine ⟨T, L, gC σC', t1, t2, t3, CG_gC σC', ⟨⟨?_, ?_, ?_, ?_⟩, fun b hb => ?_, fun m hm => ?_⟩, ⟨⟨0, by omega, ?_⟩, fun b hb => ?_, fun m hm => ?_⟩, gs.trans t7.symm, ⟨0, fun _ => 0, by omega, fun _ => (show 0 < 256 by omega), ht.1, ht.2, fun j hj => by omega⟩, h2, h50, ⟨⟨u, 0, u1, by omega, u2, u3, hs.1, hs.2.1, fun j hj => by omega⟩, fun _ => false, ?_, fun k hk => ⟨?_, fun z => by cases z⟩⟩, ⟨⟨0, by omega, h77.1, h77.2, fun j hj => by omega⟩, fun m hm => ⟨(h81 m hm).trans (h46 m hm).symm, Or.inl (h81 m hm)⟩⟩⟩
  · exact k0.1.trans g0.1.symm
  · exact k0.2.1.trans g0.2.1.symm
  · exact k0.2.2.1.trans g0.2.2.1.symm
  · exact (k0.2.2.2.trans s4).trans gs.symm
  · rw [t5] at hb
    obtain ⟨-, x2, x3⟩ := q2 b hb
    rw [show 0 + 1 + b = 1 + b by omega, show 0 + 42 + b = 42 + b by omega]
    refine ⟨?_, (k1 b hb).2.trans (g1 b hb).2.symm⟩
    rw [(k1 b hb).1, x3]
    exact congrArg md (g1 b hb).1.symm
  · rw [t6] at hm
    obtain ⟨⟨f, x1, x2, x3⟩, -, x5⟩ := q3 m hm
    obtain ⟨y1, y2, y3, y4, y5⟩ := g2 m hm
    obtain ⟨z1, z2, z3, z4, z5⟩ := k2 m hm
    rw [show 0 + 5 + m = 5 + m by omega, show 0 + 12 + m = 12 + m by omega, show 0 + 19 + m = 19 + m by omega, show 0 + 26 + m = 26 + m by omega, show 0 + 33 + m = 33 + m by omega]
    refine ⟨?_, ?_, (z3.trans x5).trans y3.symm, z4.trans y4.symm, z5.trans y5.symm⟩
    · rw [z1, x3, show gC σC' 5 m = nI f from y1.trans x2, md_n (by omega)]
    · rw [z2, show gC σC' 6 m = -1 from y2, md_m]
  · exact g0.1
  · rw [t5] at hb
    rw [t4, show gC σC' 3 b = σC.2.1 17 b from (g1 b hb).1]
    exact (q2 b hb).2.1
  · rw [t6] at hm
    obtain ⟨⟨f, x1, x2, x3⟩, -, -⟩ := q3 m hm
    obtain ⟨y1, y2, y3, y4, y5⟩ := g2 m hm
    rw [t4]
    exact Or.inl ⟨y2, f, x1, y1.trans x2⟩
  · rw [hs.2.2]
    rfl
  · rw [h30 k hk]
    exact (if_neg (show ¬ false = true by decide)).symm
/-- a text that was not told leaves all as it was -/
theorem rel_kept {i : Nat} {v : Int32} {σC σM σ4 σ5 : bS} (h : Rel i σC σM) (fC : frCd σC σ4) (fM : frRd σM σ5) (h9 : σ5.1 0 9 = v) : Rel (i + 6) (uI (uI σ4 0 1 ci_0) 0 2 v) (uI σ5 0 0 ci_0) := by
  obtain ⟨T, L, G, h1, h2, h3, h4, h5, h6, h7, h8, h9', h10, h11, h12⟩ := h
  obtain ⟨l7, l8, l9, l10, l11, l12, l13, l14, l15, l16, l17, l18, l19, l20, l21, l22, l23, l24⟩ := hlfs
  have hT : tG T ≤ 4 ∧ tM T ≤ 7 := ⟨h1.2.2.1, h1.2.2.2.1⟩
  have c : ∀ a, (1 ≤ a ∧ a ≤ 11) ∨ (27 ≤ a ∧ a ≤ 34) ∨ a = 50 ∨ a = 54 ∨ a = 55 ∨ (77 ≤ a ∧ a ≤ 81) → (uI (uI σ4 0 1 ci_0) 0 2 v).1 a = σC.1 a ∧ (uI (uI σ4 0 1 ci_0) 0 2 v).2.1 a = σC.2.1 a ∧ (uI (uI σ4 0 1 ci_0) 0 2 v).2.2 a = σC.2.2 a := fun a ha => by
    have f := fC a (by omega)
    refine ⟨?_, f.2.1, f.2.2⟩
    rw [← f.1]
    funext k
    rw [uI_1, if_neg (by omega), uI_1, if_neg (by omega)]
  have mi : ∀ k, (k = 41 ∨ k = 42 ∨ k = 62) → (uI σ5 0 0 ci_0).1 0 k = σM.1 0 k := fun k hk => by
    rw [uI_1, if_neg (by omega)]
    exact fM.1 k (by omega)
  have ma : ∀ a, 29 ≤ a → (uI σ5 0 0 ci_0).2.1 a = σM.2.1 a := fun a ha => fM.2.1 a (by omega)
  have hf : ∀ a n, hlf a = n → eqH n ((uI σ5 0 0 ci_0).2.1 a) (σM.2.1 a) := fun a n e j hj => fM.2.2 a j (by omega)
  refine ⟨T, L, G, h1, h2.of (fun a h1 h2 => ⟨(c a (by omega)).1, (c a (by omega)).2.1⟩), h3.ofH h1 ⟨⟨hf 7 _ l7, hf 8 _ l8, hf 9 _ l9, hf 10 _ l10, hf 11 _ l11⟩, ⟨hf 12 _ l12, hf 13 _ l13, hf 17 _ l17, hf 20 _ l20⟩, ⟨hf 14 _ l14, hf 15 _ l15, hf 16 _ l16⟩, hf 18 _ l18, hf 22 _ l22, hf 24 _ l24⟩, h4.of (fun a h1 h2 => ⟨(c a (by omega)).1, (c a (by omega)).2.1⟩), h5.of hT (fun k _ hk => congrFun (ma 29 (by omega)) k), h6.mono (by omega), h7, ⟨0, fun _ => 0, by omega, fun _ => (show 0 < 256 by omega), rfl, rfl, fun j hj => by omega⟩, ?_, ?_, ?_, ?_⟩
  · rw [uI_1, if_pos ⟨rfl, rfl⟩, uI_1, if_neg (by decide)]
    exact h9.symm
  · rw [(c 50 (by omega)).2.2]; exact h10
  · obtain ⟨⟨u, h, a1, a2, a3, a4, a5, a6, a7⟩, hd, b1, b2⟩ := h11
    refine ⟨⟨u, h, a1, a2, ?_, ?_, ?_, ?_, fun k hk => ?_⟩, hd, ?_, fun k hk => ⟨?_, fun z => ?_⟩⟩
    · rw [(c 54 (by omega)).1]; exact a3
    · rw [mi 42 (by omega)]; exact a4
    · rw [(c 54 (by omega)).1]; exact a5
    · rw [mi 41 (by omega)]; exact a6
    · exact (a7 k hk).of hT (by omega) (c 55 (by omega)).2.1 (fun q _ _ => congrFun (ma 29 (by omega)) q)
    · rw [(c 54 (by omega)).1]; exact b1
    · rw [ma 30 (by omega)]; exact (b2 k hk).1
    · exact ((b2 k hk).2 z).of hT (by omega) (c 55 (by omega)).2.1 (fun q _ _ => congrFun (ma 29 (by omega)) q)
  · obtain ⟨⟨k, a1, a2, a3, a4⟩, b⟩ := h12
    refine ⟨⟨k, a1, ?_, ?_, fun q hq => ?_⟩, fun m hm => ?_⟩
    · rw [(c 77 (by omega)).1]; exact a2
    · rw [mi 62 (by omega)]; exact a3
    · rw [(c 78 (by omega)).2.1, (c 79 (by omega)).2.1, ma 44 (by omega), ma 45 (by omega)]; exact a4 q hq
    · rw [(c 81 (by omega)).2.1, ma 46 (by omega)]; exact b m hm
