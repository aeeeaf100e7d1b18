/-! a text that was told means the same on both sides -/
theorem hlfs : hlf 7 = 500 ∧ hlf 8 = 500 ∧ hlf 9 = 14 ∧ hlf 10 = 196 ∧ hlf 11 = 196 ∧ hlf 12 = 1 ∧ hlf 13 = 1 ∧ hlf 14 = 10 ∧ hlf 15 = 10 ∧ hlf 16 = 10 ∧ hlf 17 = 1 ∧ hlf 18 = 4 ∧ hlf 19 = 4 ∧ hlf 20 = 1 ∧ hlf 21 = 7 ∧ hlf 22 = 7 ∧ hlf 23 = 7 ∧ hlf 24 = 4 := by decide
theorem seg_laid {l j m : Nat} {C : codes} {σM σM' : bS} (hM : ∀ a j, j < hlf a → σM'.2.1 a j = σM.2.1 a (hlf a + j)) (h : SegM l j C m σM) (hm : m ≤ 400) (hl : 14 * l + j < 196) : SegT l j C σM' := by
  obtain ⟨h7, h8, h9, h10, h11, -⟩ := hlfs
  obtain ⟨m0, a, b, c, d⟩ := h
  refine ⟨m0, by omega, ?_, ?_, fun i hi => ?_⟩
  · rw [hM 10 _ (by omega), h10, ← Nat.add_assoc]; exact b
  · rw [hM 11 _ (by omega), h11, ← Nat.add_assoc]; exact c
  · rw [hM 7 _ (by omega), h7, hM 8 _ (by omega), h8, ← Nat.add_assoc]; exact d i hi
theorem tx_new {N : nmS} {B P G M a m : Nat} {σC σM σC' σM' : bS} (hQ : Cnt N B P G M σC σM) (hP : PC B P G M a m σC σM) (ha : a ≤ 400) (hm : m ≤ 400) (h23 : σC.1 23 3 = nI a) (c1 : ∀ j, σC'.1 1 j = σC.1 14 j) (c10 : σC'.1 10 3 = σC.1 23 3) (cA : ∀ b, 2 ≤ b → b ≤ 11 → σC'.2.1 b = σC.2.1 (b + 13)) (hM : ∀ a j, j < hlf a → σM'.2.1 a j = σM.2.1 a (hlf a + j)) : ∃ (T : aT) (L : aL), InvT T L ∧ CT T L σC' ∧ MTx T L σM' ∧ tB T = B ∧ tG T = G ∧ tM T = M ∧ tSeed T = σC.1 14 18 := by
  obtain ⟨-, ⟨b6, p10, g4, m7⟩, ⟨c0, c1', c2, c3⟩, ⟨d0, d1, d2, d3⟩⟩ := hQ
  obtain ⟨⟨Q, z1, z2, z3, z4⟩, q2, q3, ⟨⟨s1, s1'⟩, ⟨p, sp1, sp2, sp3⟩, s3, s4⟩, q5⟩ := hP
  obtain ⟨h7, h8, h9, h10, h11, h12, h13, h14, h15, h16, h17, h18, h19, h20, h21, h22, h23', h24⟩ := hlfs
  have hL0 : ∀ k, ∃ o : Option ((Nat → Int32) → Int32), (k < 14 → CL σC' (cellL k σC) o ∧ ML σM' k o) ∧ ∀ f, o = some f → ∀ v v' : Nat → Int32, (∀ j, j < 8 → v j = v' j) → f v = f v' := fun k => by
    by_cases hk : k < 14
    · rcases q5 k hk with ⟨e1, e2⟩ | ⟨p', q, e1, e2, e3, e4, e5, e6, e7, e8⟩
      · refine ⟨none, fun _ => ⟨e1, ?_⟩, fun f e => by cases e⟩
        show σM'.2.1 9 k = -1
        rw [hM 9 k (by omega), h9]
        exact e2
      · refine ⟨some (lawF q), fun _ => ⟨?_, ?_⟩, fun f e v v' hv => ?_⟩
        · rw [e2]
          exact CL_law e1 (fun i hi => by rw [cA 11 (by omega) (by omega)]; exact e4 i hi) (c10.trans h23) e3 (by omega)
        · refine ML_law hk e1 ⟨e5, ?_, fun i hi => ?_, seg_laid hM e7 hm (by omega)⟩
          · rw [hM 9 k (by omega), h9]
            exact e8
          · obtain ⟨x1, x2, x3⟩ := e6 i hi
            exact ⟨seg_laid hM x1 hm (by omega), seg_laid hM x2 hm (by omega), seg_laid hM x3 hm (by omega)⟩
        · have e := Option.some.inj e
          rw [← e]
          unfold lawF
          rw [lawV_v hv q.1 q.2 e1]
    · exact ⟨none, fun h => absurd h hk, fun f e => by cases e⟩
  obtain ⟨L, hL⟩ := Classical.skolem.mp hL0
  have foot : ∀ b, b < G → ∃ f, f < B ∧ σC.2.1 16 b = nI f ∧ σM.2.1 18 (4 + b) = nI f ∧ (σC.2.1 16 b).toNatClampNeg = f := fun b hb => by
    obtain ⟨⟨f, x1, x2, x3⟩, -⟩ := q2 b hb
    exact ⟨f, x1, x2, x3, by rw [x2, nI_clamp (by omega)]⟩
  have home : ∀ b, b < M → ∃ f, f < B ∧ σC.2.1 19 b = nI f ∧ σM.2.1 22 (7 + b) = nI f ∧ (σC.2.1 19 b).toNatClampNeg = f := fun b hb => by
    obtain ⟨-, ⟨f, x1, x2, x3⟩, -⟩ := q3 b hb
    exact ⟨f, x1, x2, x3, by rw [x2, nI_clamp (by omega)]⟩
  refine ⟨((B, P, G, M), (σC.1 14 15, σC.1 14 16, σC.1 14 17, σC.1 14 18), (fun b => (σC.2.1 16 b).toNatClampNeg), (fun m => (σC.2.1 19 m).toNatClampNeg), wlk Q), L, ⟨b6, p10, g4, m7, fun b hb => ?_, fun m hm => ?_, s1, ⟨p, sp1, sp2⟩, fun x y => fold_le Q 0 (by omega) (fun q hq => (z2 q hq).2.2.2.2), fun x => fold_aa Q (fun q hq => (z2 q hq).2.2.1), fun k f e => (hL k).2 f e⟩, ⟨⟨(c1 0).trans c0, (c1 1).trans c1', (c1 2).trans c2, (c1 3).trans c3⟩, ⟨c1 15, c1 16, c1 17, c1 18⟩, fun b hb => ?_, fun m hm => ?_, fun x y hx hy => ?_, fun m hm => ?_, fun b hb => ?_, ?_, ?_, ?_⟩, ⟨⟨?_, ?_, ?_, ?_⟩, ⟨?_, ?_, ?_, ?_⟩, fun b hb => ?_, fun m hm => ?_, fun x y n σ1 hx hy hn f1 f2 f3 f4 => ?_, fun k hk => ?_⟩, rfl, rfl, rfl, rfl⟩
  · obtain ⟨f, x1, x2, x3, x4⟩ := foot b hb
    show (σC.2.1 16 b).toNatClampNeg < B
    omega
  · obtain ⟨f, x1, x2, x3, x4⟩ := home m hm
    show (σC.2.1 19 m).toNatClampNeg < B
    omega
  · obtain ⟨f, x1, x2, x3, x4⟩ := foot b hb
    show σC'.2.1 3 b = nI (σC.2.1 16 b).toNatClampNeg
    rw [cA 3 (by omega) (by omega), x4]
    exact x2
  · obtain ⟨f, x1, x2, x3, x4⟩ := home m hm
    show σC'.2.1 6 m = nI (σC.2.1 19 m).toNatClampNeg
    rw [cA 6 (by omega) (by omega), x4]
    exact x2
  · rw [cA 2 (by omega) (by omega)]
    exact z4 x y hx hy
  · have hm : m < M := hm
    have e := ((hL m).1 (by omega)).1
    unfold cellL at e
    rw [if_pos (by omega)] at e
    rw [cA 8 (by omega) (by omega)]
    exact e
  · have hb : b < G := hb
    have e := ((hL (7 + b)).1 (by omega)).1
    unfold cellL at e
    rw [if_neg (by omega), if_pos (by omega), Nat.add_sub_cancel_left] at e
    rw [cA 9 (by omega) (by omega)]
    exact e
  · have e := ((hL 11).1 (by omega)).1
    unfold cellL at e
    rw [if_neg (by omega), if_neg (by omega)] at e
    rw [c1 12]
    exact e
  · have e := ((hL 12).1 (by omega)).1
    unfold cellL at e
    rw [if_neg (by omega), if_neg (by omega)] at e
    rw [c1 13]
    exact e
  · have e := ((hL 13).1 (by omega)).1
    unfold cellL at e
    rw [if_neg (by omega), if_neg (by omega)] at e
    rw [c1 14]
    exact e
  · rw [hM 12 0 (by omega), h12]; exact d0
  · rw [hM 13 0 (by omega), h13]; exact d1
  · rw [hM 17 0 (by omega), h17]; exact d2
  · rw [hM 20 0 (by omega), h20]; exact d3
  · rw [hM 24 0 (by omega), h24]; exact s1'
  · rw [hM 24 1 (by omega), h24]; exact sp3.trans sp2.symm
  · rw [hM 24 2 (by omega), h24]; exact s3
  · rw [hM 24 3 (by omega), h24]; exact s4
  · have hb : b < G := hb
    obtain ⟨f, x1, x2, x3, x4⟩ := foot b hb
    show σM'.2.1 18 b = nI (σC.2.1 16 b).toNatClampNeg
    rw [hM 18 b (by omega), h18, x4]
    exact x3
  · have hm : m < M := hm
    obtain ⟨f, x1, x2, x3, x4⟩ := home m hm
    show σM'.2.1 22 m = nI (σC.2.1 19 m).toNatClampNeg
    rw [hM 22 m (by omega), h22, x4]
    exact x3
  · have hx : x < B := hx
    have hy : y < B := hy
    unfold m_pathOf
    exact m_path_l (Q := Q) z1 p10 (by omega) (by omega) (fun q hq => by have := z2 q hq; omega) (by rw [f1 0 (by omega), hM 13 0 (by omega), h13]; exact d1) (fun j hj => by
      rw [f2 j (by omega), f3 j (by omega), f4 j (by omega), hM 14 j (by omega), hM 15 j (by omega), hM 16 j (by omega), h14, h15, h16]
      exact z3 j hj) n 0 0 (by omega) (by omega) (by omega)
  · refine ((hL k).1 ?_).2
    have hk : k < M ∨ (7 ≤ k ∧ k < 7 + G) ∨ k = 11 ∨ k = 12 ∨ k = 13 := hk
    omega
