/-! settings and LAWS -/
theorem CD.uI14 {s : tS} {f p j : Nat} {v : Int32} {σ : bS} (h : CD s f p σ) : CD s f p (uI σ 14 j v) := by
  obtain ⟨h1, h2, h3, ⟨nx, a, b, c, d⟩, ll, l1, l2⟩ := h
  refine ⟨?_, h2, ?_, ⟨nx, a, ?_, c, d⟩, ll, l1, ?_⟩
  all_goals (rw [uI_1, if_neg (by omega)]; assumption)
theorem CD.uA {s : tS} {f p b : Nat} {i v : Int32} {σ : bS} (hb : 15 ≤ b ∧ b ≤ 22) (h : CD s f p σ) : CD s f p (uA σ b i v) := by
  obtain ⟨h1, h2, h3, ⟨nx, a, b', c, d⟩, ll, l1, l2⟩ := h
  refine ⟨h1, h2, h3, ⟨nx, fun j q1 q2 => ?_, b', c, d⟩, ll, l1, l2⟩
  rw [uA_o _ _ _ _ (by omega), uA_o _ _ _ _ (by omega)]
  exact a j q1 q2
theorem Dd.u14 {s : tS} {j : Nat} {v : Int32} {σC σM σC' σM' : bS} (h : Dd s σC σM σC' σM') : Dd s σC σM (uI σC' 14 j v) σM' := by
  obtain ⟨f, p, a, b, c, d⟩ := h
  exact ⟨f, p, a.uI14, b, c.trans frQq.u14, d⟩
theorem Dd.uA {s : tS} {b : Nat} {i v : Int32} {σC σM σC' σM' : bS} (hb : 15 ≤ b ∧ b ≤ 22) (h : Dd s σC σM σC' σM') : Dd s σC σM (uA σC' b i v) σM' := by
  obtain ⟨f, p, a, b', c, d⟩ := h
  exact ⟨f, p, CD.uA hb a, b', c.trans (frQq.uA (by omega)), d⟩
theorem st_rest {s : tS} {n nx B P G M a m j hi : Nat} {U : Option (Nat × Nat)} {N : nmS} {x1 x2 x3 : Int32} {σC σM : bS} (hT : okT s) (h : PR s nx U N B P G M a m σC σM) (hk : tkd s nx = 22 + j) (hj : (j = 0 ∧ hi = 23) ∨ (j = 1 ∧ hi = 100) ∨ (j = 2 ∧ hi = 99) ∨ (j = 3 ∧ hi = 9999)) (hx1 : x1 = nI (22 + j)) (hx2 : x2 = nI hi) (hx3 : x3 = nI j) : StO n s nx (ob (cReader_takeSetting n x1 x2 σC) fun q => some (uI q.2 14 (15 + j) q.1)) (m_tellRest n x3 x2 σM) σC σM := by
  obtain ⟨hK, hQ, hc⟩ := h
  obtain ⟨hl, ⟨b6, p10, g4, m7⟩, ⟨c0, c1, c2, c3⟩, ⟨d0, d1, d2, d3⟩⟩ := id hQ
  unfold cReader_takeSetting m_tellRest
  rcases k_word (n := n) (x := x1) (k := 22 + j) hT hK hx1 hk (by omega) with ⟨n4, t1, u1, h1⟩ | ⟨σ1, σ2, t1, u1, dd⟩
  · rw [t1, ob_def, u1, ob_def, if_neg one_ne]
    rcases k_int (n := n) (x := ci_0) (y := x2) (lo := 0) (hi := hi) hT h1 rfl hx2 (by omega) (by omega) with ⟨y0, σ7, σ8, y1, y2, y3, y4, y5, y6⟩ | ⟨σ7, σ8, y1, y2, dd⟩
    · have e35 : sI σ8 0 35 = nI (tvl s (nx + 1)) := y4
      have e4 : ci_4 + x3 = nI (4 + j) := by rw [hx3, ci_4_n, nI_add]
      rw [y1, ob_def, y2, ob_def, if_neg one_ne, e4, bin_nI (by omega) (by decide), bz_1]
      show StO n s nx (ob (ob (cReader_take n ci_4 σ7) fun q3 => some (nI (tvl s (nx + 1)), q3)) fun q => some (uI q.2 14 (15 + j) q.1)) (some (1, uA σ8 24 (nI (4 + j)) (sI σ8 0 35))) σC σM
      rw [e35]
      have K8 := PK.uAM (b := 24) (i := nI (4 + j)) (v := nI (tvl s (nx + 1))) (by omega) y3
      have fC7 : frQq σC σ7 := frQq.u44.trans (frQq.ofN y5)
      have fM8 : frJ σM (uA σ8 24 (nI (4 + j)) (nI (tvl s (nx + 1)))) := (frJ.u7.trans (frJ.ofV y6)).trans (frJ.uA (a := 24) (by omega) (by show 4 ≤ 4 + j; omega) (by omega))
      unfold StO mSt
      rw [ob_def, if_neg one_ne]
      rcases k_semi (n := n) hT K8 with ⟨z0, z1, z2, z3⟩ | ⟨σ9, σ10, z1, z2, dd⟩
      · rw [z1, ob_def, z2, ob_def, ob_def]
        have q14 : σ7.1 14 = σC.1 14 := e_14 y5
        have r14 : ∀ j2, (uI (uI σ7 44 4 (nI (nx + 1 + 1 + 1))) 14 (15 + j) (nI (tvl s (nx + 1)))).1 14 j2 = if j2 = 15 + j then nI (tvl s (nx + 1)) else σC.1 14 j2 := fun j2 => rd14 q14 (nI (nx + 1 + 1 + 1)) (nI (tvl s (nx + 1))) (15 + j) j2
        have r7 : ∀ b, 15 ≤ b → b ≤ 24 → σ7.2.1 b = σC.2.1 b := fun b h1 h2 => by rw [(frN_k y5 b (by omega)).2]; rfl
        have rM : ∀ b j2, (uI (uA σ8 24 (nI (4 + j)) (nI (tvl s (nx + 1)))) 0 7 (nI (nx + 1 + 1 + 1))).2.1 b j2 = if b = 24 ∧ j2 = 4 + j then nI (tvl s (nx + 1)) else σM.2.1 b j2 := fun b j2 => by
          rw [uI_2, uA_2, nI_clamp (by omega), y6.1]
          rfl
        refine ⟨_, _, rfl, Or.inr ⟨rfl, (fC7.trans frQq.u44).trans frQq.u14, fM8.trans frJ.u7, nx + 1 + 1 + 1, _, _, B, P, G, M, a, m, by omega, z3.uI14, ?_, fun hu => ?_⟩⟩
        · refine ⟨hl, ⟨b6, p10, g4, m7⟩, ⟨?_, ?_, ?_, ?_⟩, ⟨?_, ?_, ?_, ?_⟩⟩
          · show (uI (uI σ7 44 4 (nI (nx + 1 + 1 + 1))) 14 (15 + j) (nI (tvl s (nx + 1)))).1 14 0 = _
            rw [r14, if_neg (by omega)]; exact c0
          · show (uI (uI σ7 44 4 (nI (nx + 1 + 1 + 1))) 14 (15 + j) (nI (tvl s (nx + 1)))).1 14 1 = _
            rw [r14, if_neg (by omega)]; exact c1
          · show (uI (uI σ7 44 4 (nI (nx + 1 + 1 + 1))) 14 (15 + j) (nI (tvl s (nx + 1)))).1 14 2 = _
            rw [r14, if_neg (by omega)]; exact c2
          · show (uI (uI σ7 44 4 (nI (nx + 1 + 1 + 1))) 14 (15 + j) (nI (tvl s (nx + 1)))).1 14 3 = _
            rw [r14, if_neg (by omega)]; exact c3
          · rw [rM, if_neg (by omega)]; exact d0
          · rw [rM, if_neg (by omega)]; exact d1
          · rw [rM, if_neg (by omega)]; exact d2
          · rw [rM, if_neg (by omega)]; exact d3
        · obtain ⟨hu1, v1', v9⟩ := wrgU_n hu
          obtain ⟨q1, q2, q3, q4, q5⟩ := hc hu1
          have S : PCs (uI (uI σ7 44 4 (nI (nx + 1 + 1 + 1))) 14 (15 + j) (nI (tvl s (nx + 1)))) (uI (uA σ8 24 (nI (4 + j)) (nI (tvl s (nx + 1)))) 0 7 (nI (nx + 1 + 1 + 1))) := by
            obtain ⟨s1, s2, s3, s4⟩ := q4
            unfold PCs
            rcases hj with ⟨rfl, rfl⟩ | ⟨rfl, rfl⟩ | ⟨rfl, rfl⟩ | ⟨rfl, rfl⟩
            · rw [r14 15, if_pos rfl, r14 16, if_neg (by omega), r14 17, if_neg (by omega), r14 18, if_neg (by omega), rM 24 4, if_pos ⟨rfl, rfl⟩, rM 24 5, if_neg (by omega), rM 24 6, if_neg (by omega), rM 24 7, if_neg (by omega)]
              exact ⟨⟨Or.inr ⟨_, by omega, rfl⟩, (md_oI (by omega)).symm⟩, s2, s3, s4⟩
            · rw [r14 15, if_neg (by omega), r14 16, if_pos rfl, r14 17, if_neg (by omega), r14 18, if_neg (by omega), rM 24 4, if_neg (by omega), rM 24 5, if_pos ⟨rfl, rfl⟩, rM 24 6, if_neg (by omega), rM 24 7, if_neg (by omega)]
              exact ⟨s1, ⟨_, v9, rfl, rfl⟩, s3, s4⟩
            · rw [r14 15, if_neg (by omega), r14 16, if_neg (by omega), r14 17, if_pos rfl, r14 18, if_neg (by omega), rM 24 4, if_neg (by omega), rM 24 5, if_neg (by omega), rM 24 6, if_pos ⟨rfl, rfl⟩, rM 24 7, if_neg (by omega)]
              exact ⟨s1, s2, rfl, s4⟩
            · rw [r14 15, if_neg (by omega), r14 16, if_neg (by omega), r14 17, if_neg (by omega), r14 18, if_pos rfl, rM 24 4, if_neg (by omega), rM 24 5, if_neg (by omega), rM 24 6, if_neg (by omega), rM 24 7, if_pos ⟨rfl, rfl⟩]
              exact ⟨s1, s2, s3, rfl⟩
          exact ⟨q1.of (by omega) (r7 15 (by omega) (by omega)) (fun b j h1 h2 _ => by rw [rM, if_neg (by omega)]), q2.of (by omega) (fun b j h1 h2 _ => congrFun (r7 b (by omega) (by omega)) j) (fun b j h1 h2 _ => by rw [rM, if_neg (by omega)]), q3.of (by omega) (fun b j h1 h2 _ => congrFun (r7 b (by omega) (by omega)) j) (fun b j h1 h2 _ => by rw [rM, if_neg (by omega)]), S, PCl.of q5 (fun j h1 h2 => by rw [r14, if_neg (by omega)]) (fun b hb => r7 b (by omega) (by omega)) (fun b h1 h2 => funext (fun j => by rw [rM, if_neg (by omega)]))⟩
      · obtain ⟨f, p, g1, g2, g3, g4⟩ := id dd
        rw [z1, ob_def, z2, ob_def, ob_def]
        exact ⟨_, _, rfl, Or.inl ⟨rfl, (dd.tr fC7 fM8).u14⟩⟩
    · obtain ⟨f, p, g1, g2, g3, g4⟩ := id dd
      rw [y1, ob_def, y2, ob_def, if_pos rfl, c_takeD g1, ob_def, ob_def, m_tellRest_b16, bz_0]
      exact st_fail rfl rfl (dd.tr frQq.u44 frJ.u7).u14
  · obtain ⟨f, p, g1, g2, g3, g4⟩ := id dd
    rw [t1, ob_def, u1, ob_def, if_pos rfl, c_intD g1, ob_def, c_takeD g1, ob_def, ob_def, m_tellRest_b16, bz_0]
    exact st_fail rfl rfl dd.u14
theorem sum_mono {s : tS} : ∀ (k nx : Nat) (w : Bool) (C : codes) (S : List Nat) (o nx' : Nat) (C' : codes), sumA s k w nx C S o = .inr (nx', C') → nx ≤ nx'
  | 0, nx, w, C, S, o, nx', C', e => by cases e
  | k + 1, nx, true, C, S, o, nx', C', e => by
    rw [sumA] at e
    split at e
    · split at e
      · cases e
      · split at e
        · have := sum_mono k _ _ _ _ _ _ _ e; omega
        · cases e
    · split at e
      · split at e
        · have := sum_mono k _ _ _ _ _ _ _ e; omega
        · cases e
      · split at e
        · split at e
          · have := sum_mono k _ _ _ _ _ _ _ e; omega
          · cases e
        · cases e
  | k + 1, nx, false, C, S, o, nx', C', e => by
    rw [sumA] at e
    split at e
    · split at e
      · have := sum_mono k _ _ _ _ _ _ _ e; omega
      · cases e
    · split at e
      · have e := Sum.inr.inj e
        have e2 : nx = nx' := congrArg Prod.fst e
        omega
      · split at e
        · split at e
          · have := sum_mono k _ _ _ _ _ _ _ e; omega
          · cases e
        · cases e
theorem lawA_mono {s : tS} : ∀ (k j nx : Nat) (acc : List (codes × codes × codes)) (nx' : Nat) (q : lwS), lawA s k j nx acc = .inr (nx', q) → nx ≤ nx' := by
  intro k
  induction k with
  | zero =>
    intro j nx acc nx' q e
    cases e
  | succ k ih =>
    intro j nx acc nx' q e
    rw [lawA] at e
    split at e
    · split at e
      · cases e
      · split at e
        · split at e
          · cases e
          · rename_i n1 A hA
            split at e
            · cases e
            · split at e
              · cases e
              · rename_i n2 B hB
                split at e
                · cases e
                · split at e
                  · cases e
                  · rename_i n3 D hD
                    split at e
                    · cases e
                    · have h1 := sum_mono _ _ _ _ _ _ _ _ hA
                      have h2 := sum_mono _ _ _ _ _ _ _ _ hB
                      have h3 := sum_mono _ _ _ _ _ _ _ _ hD
                      have h4 := ih _ _ _ _ _ e
                      omega
        · cases e
    · split at e
      · cases e
      · rename_i n1 E hE
        have e := Sum.inr.inj e
        have e2 : n1 = nx' := congrArg Prod.fst e
        have h1 := sum_mono _ _ _ _ _ _ _ _ hE
        omega
theorem lawW_mono {s : tS} {nx nx' : Nat} {q : lwS} (e : lawW s nx = .inr (nx', q)) : nx ≤ nx' := by
  unfold lawW at e
  split at e
  · have := lawA_mono _ _ _ _ _ _ e; omega
  · cases e
theorem k_law {s : tS} {n nx a m : Nat} {N : nmS} {U : Option (Nat × Nat)} {o : Option Nat} {x : Int32} {σC σM : bS} (hn : 500 ≤ n) (hT : okT s) (h : PK s nx U N a m σC σM) (hx : x = lwI o) (ho : ∀ l, o = some l → l < 14) : ∃ r σC' v σM1, cReader_takeLaw n σC = some (r, σC') ∧ m_lawTold n x σM = some (v, σM1) ∧ (v = 0 ∨ v = 1) ∧ ∃ σM', (mSt n (some (v, σM1)) = some (0, σM') ∧ Dd s σC σM σC' σM') ∨ (mSt n (some (v, σM1)) = some (1, σM') ∧ ∃ (nx' a' m' : Nat) (q : lwS), nx < nx' ∧ r = nI a ∧ PK s nx' U N a' m' σC' σM' ∧ okL q ∧ q.1.length ≤ 4 ∧ a + (lawC a q.1 q.2).length ≤ a' ∧ AtC a (lawC a q.1 q.2) σC' ∧ frA a σC σC' ∧ frZ σC σC' ∧ m ≤ m' ∧ (∀ l, o = some l → accM l q.1 m' σM' ∧ SegM l (3 * q.1.length) q.2 m' σM' ∧ σM'.2.1 9 (14 + l) = nI q.1.length) ∧ frL σM σM' ∧ frB m σM σM' ∧ kpL o σM σM') := by
  obtain ⟨⟨hC, hM⟩, ⟨ha1, ha2, hm1, hm2⟩, ⟨hU, hUC, hUM⟩, hN, hNC, hNM⟩ := h
  obtain ⟨σ1, a1, a2, a3⟩ := c_lawE (n := n) hn hT hC ha1 ha2
  obtain ⟨v, σ2, b1, b2, b3, b4, b5⟩ := m_lawE (n := n) (o := o) (x := x) hn hT hx ho hM hm1 hm2
  cases hW : lawW s nx with
  | inl e =>
    obtain ⟨f, p⟩ := e
    rw [hW] at a3 b5
    have a3 : CD s f (tpl s p) σ1 := a3
    obtain ⟨b5, b6⟩ : v = 0 ∧ MF f (tpl s p) σ2 := b5
    refine ⟨nI a, σ1, v, σ2, a1, b1, Or.inl b5, σ2, Or.inl ⟨?_, f, _, a3, b6, frQq.ofZ a2, frJ.ofL b2 b3 b4 ho⟩⟩
    rw [b5, mSt, ob_def, if_pos rfl]
  | inr e =>
    obtain ⟨n1, q⟩ := e
    have hO := lawW_ok hT hW
    have hm := lawW_mono hW
    rw [hW] at a3 b5
    obtain ⟨b5, b6, b7, m', b8, b9, b10, b11⟩ : v = 1 ∧ MP s n1 σ2 ∧ q.1.length ≤ 4 ∧ ∃ m', m ≤ m' ∧ σ2.2.1 6 1 = nI m' ∧ m' ≤ n1 ∧ ∀ l, o = some l → accM l q.1 m' σ2 ∧ SegM l (3 * q.1.length) q.2 m' σ2 ∧ σ2.2.1 9 (14 + l) = nI q.1.length := b5
    have a3 : if tkF s 4 n1 = 0 then CP s (n1 + 1) σ1 ∧ σ1.1 23 3 = nI (a + (lawC a q.1 q.2).length) ∧ AtC a (lawC a q.1 q.2) σ1 ∧ a + (lawC a q.1 q.2).length ≤ n1 + 1 ∧ frA a σC σ1 else CD s (tkF s 4 n1) (tpl s n1) σ1 := a3
    have em : mSt n (some (v, σ2)) = ob (m_takesSign n cb_59 σ2) fun q2 => some q2 := by rw [b5, mSt, ob_def, if_neg one_ne]
    rcases m_tkS (n := n) (x := cb_59) (k := 4) hT b6 (by decide) (by omega) (by omega) with ⟨u0, u1, u2⟩ | ⟨u0, σ3, u1, u2, u3, u4⟩
    · rw [if_pos u0] at a3
      obtain ⟨a3, a4, a5, a6, a7⟩ := a3
      refine ⟨nI a, σ1, v, σ2, a1, b1, Or.inr b5, uI σ2 0 7 (nI (n1 + 1)), Or.inr ⟨by rw [em, u1, ob_def], n1 + 1, a + (lawC a q.1 q.2).length, m', q, by omega, rfl, ⟨⟨a3, u2⟩, ⟨a4, a6, b9, by omega⟩, ⟨hU.le (by omega), hUC.of (a2.2 6 (by decide)) (a2.2 7 (by decide)), ?_⟩, hN, ⟨(a2.2 11 (by decide)).trans hNC.1, fun i hi => ?_⟩, ?_⟩, hO, b7, Nat.le_refl _, a5, a7, a2, b8, b11, b2.trans (frL.ofE (frE.uI (by decide))), b3.trans (frB.of2 rfl), b4.trans (kpL.of2 rfl)⟩⟩
      · refine hUM.of ?_ ?_
        · rw [uI_1, if_neg (by decide)]
          exact b2.1 10 (by decide)
        · rw [uI_1, if_neg (by decide)]
          exact b2.1 11 (by decide)
      · have f45 := a2.1 45 (by decide)
        have f46 := a2.1 46 (by decide)
        have f47 := a2.1 47 (by decide)
        rw [f45.2.2, f46.2.1, f47.2.1]
        exact hNC.2 i hi
      · refine ⟨?_, fun i hi => ?_⟩
        · rw [uI_1, if_neg (by decide)]
          exact (b2.1 31 (by decide)).trans hNM.1
        · rw [uI_2, b2.2.1 26 (by decide), b2.2.1 27 (by decide), b2.2.2.1]
          exact hNM.2 i hi
    · rw [if_neg u0] at a3
      exact ⟨nI a, σ1, v, σ2, a1, b1, Or.inr b5, σ3, Or.inl ⟨by rw [em, u1, ob_def], _, _, a3, u2, frQq.ofZ a2, (frJ.ofL b2 b3 b4 ho).trans (frJ.ofV (frV.ofE u3 u4))⟩⟩
/-- content after a LAW is told -/
theorem PC_law {B P G M a m a' m' l : Nat} {q : lwS} {σC σM σC' σM' : bS} (h : PC B P G M a m σC σM) (hl : l < 14) (hO : okL q) (h4 : q.1.length ≤ 4) (ha : a + (lawC a q.1 q.2).length ≤ a') (hA : AtC a (lawC a q.1 q.2) σC') (hm : m ≤ m') (hM : accM l q.1 m' σM' ∧ SegM l (3 * q.1.length) q.2 m' σM' ∧ σM'.2.1 9 (14 + l) = nI q.1.length) (fA : frA a σC σC') (fB : frB m σM σM') (kp : kpL (some l) σM σM') (rM : ∀ b, 12 ≤ b → b ≤ 24 → σM'.2.1 b = σM.2.1 b) (cl : cellL l σC' = nI a) (cn : ∀ k, k < 14 → ¬ k = l → cellL k σC' = cellL k σC) (e14 : ∀ j, 15 ≤ j → σC'.1 14 j = σC.1 14 j) (eA : ∀ b, 15 ≤ b → b ≤ 20 → σC'.2.1 b = σC.2.1 b) : PC B P G M a' m' σC' σM' := by
  obtain ⟨q1, q2, q3, q4, q5⟩ := h
  refine ⟨q1.of (by omega) (eA 15 (by omega) (by omega)) (fun b j h1 h2 _ => congrFun (rM b (by omega) (by omega)) j), q2.of (by omega) (fun b j h1 h2 _ => congrFun (eA b (by omega) (by omega)) j) (fun b j h1 h2 _ => congrFun (rM b (by omega) (by omega)) j), q3.of (by omega) (fun b j h1 h2 _ => congrFun (eA b (by omega) (by omega)) j) (fun b j h1 h2 _ => congrFun (rM b (by omega) (by omega)) j), q4.of e14 (rM 24 (by omega) (by omega)), fun k hk => ?_⟩
  by_cases z : k = l
  · subst z
    exact Or.inr ⟨a, q, hO, cl, ha, hA, h4, hM.1, hM.2.1, hM.2.2⟩
  · exact (q5 k hk).keep hk (cn k hk z) fA (by omega) (kp.2 _ (fun l' e => by have e := Option.some.inj e; omega)) (fun j hj => kp.1 _ (fun l' e => by have e := Option.some.inj e; omega)) fB hm
theorem bz_v {v : Int32} {σ : bS} (h : v = 0 ∨ v = 1) : bz v σ = some (v, σ) := by
  unfold bz
  rw [if_pos h]
theorem frZ_14 {σ σ' : bS} (h : frZ σ σ') (b : Nat) (hb : ¬ (b = 23 ∨ b = 24 ∨ b = 44 ∨ b = 48)) : σ'.1 b = σ.1 b ∧ σ'.2.1 b = σ.2.1 b := ⟨(h.1 b hb).1, (h.1 b hb).2.1⟩
theorem Cnt.of {N : nmS} {B P G M : Nat} {σC σM σC' σM' : bS} (h : Cnt N B P G M σC σM) (hC : ∀ j, j < 4 → σC'.1 14 j = σC.1 14 j) (hM : ∀ b, b = 12 ∨ b = 13 ∨ b = 17 ∨ b = 20 → σM'.2.1 b = σM.2.1 b) : Cnt N B P G M σC' σM' := by
  unfold Cnt
  rw [hC 0 (by omega), hC 1 (by omega), hC 2 (by omega), hC 3 (by omega), hM 12 (by omega), hM 13 (by omega), hM 17 (by omega), hM 20 (by omega)]
  exact h
theorem st_plain {s : tS} {n nx B P G M a m j : Nat} {U : Option (Nat × Nat)} {N : nmS} {x1 : Int32} {σC σM : bS} (hn : 500 ≤ n) (hT : okT s) (h : PR s nx U N B P G M a m σC σM) (hk : tkd s nx = 19 + j) (hj : j < 3) (hx1 : x1 = nI (19 + j)) : ∀ rM, rM = (ob (m_pass n σM) fun q12 => if q12.1 = 0 then m_tellOne_b123 n q12.2 else ob (m_lawTold n (nI (11 + j)) q12.2) fun q13 => if q13.1 = 0 then m_tellOne_b123 n q13.2 else m_tellOne_b124 n ci_1 q13.2) → StO n s nx (ob (cReader_takePlainLaw n x1 σC) fun q => some (uI q.2 14 (12 + j) q.1)) rM σC σM := by
  intro rM hrM
  subst hrM
  obtain ⟨hK, hQ, hc⟩ := h
  unfold cReader_takePlainLaw
  rcases k_word (n := n) (x := x1) (k := 19 + j) hT hK hx1 hk (by omega) with ⟨n4, t1, u1, h1⟩ | ⟨σ1, σ2, t1, u1, dd⟩
  · rw [t1, ob_def, u1, ob_def, if_neg one_ne]
    obtain ⟨r, σ3, v, σ4, w1, w2, w3, σ5, w4⟩ := k_law (n := n) (o := some (11 + j)) (x := nI (11 + j)) hn hT h1 rfl (fun l e => by have e := Option.some.inj e; omega)
    have er : (ob (m_lawTold n (nI (11 + j)) (uI σM 0 7 (nI (nx + 1)))) fun q13 => if q13.1 = 0 then m_tellOne_b123 n q13.2 else m_tellOne_b124 n ci_1 q13.2) = some (v, σ4) := by
      rw [w2, ob_def]
      rcases w3 with rfl | rfl
      · rw [if_pos rfl, m_tellOne_b123, m_tellOne_b124, bz_0]
      · rw [if_neg one_ne, m_tellOne_b124, bz_1]
    show StO n s nx _ (ob (m_lawTold n (nI (11 + j)) (uI σM 0 7 (nI (nx + 1)))) fun q13 => if q13.1 = 0 then m_tellOne_b123 n q13.2 else m_tellOne_b124 n ci_1 q13.2) σC σM
    rw [er, w1, ob_def, ob_def]
    rcases w4 with ⟨y1, dd⟩ | ⟨y1, nx', a', m', q, z1, z2, z3, z4, z5, z6, z7, z8, z9, z10, z11, z12, z13, z14⟩
    · exact ⟨_, σ5, rfl, Or.inl ⟨y1, (dd.tr frQq.u44 frJ.u7).u14⟩⟩
    · have f14 := (frZ_14 z9 14 (by omega)).1
      have r14 : ∀ j2, (uI σ3 14 (12 + j) r).1 14 j2 = if j2 = 12 + j then r else σC.1 14 j2 := fun j2 => by
        rw [uI_1]
        by_cases w : j2 = 12 + j
        · rw [if_pos ⟨rfl, w⟩, if_pos w]
        · rw [if_neg (fun u => w u.2), if_neg w, f14, uI_1, if_neg (by omega)]
      have rA : ∀ b, 15 ≤ b → b ≤ 22 → (uI σ3 14 (12 + j) r).2.1 b = σC.2.1 b := fun b h1 h2 => by rw [uI_2, (frZ_14 z9 b (by omega)).2]; rfl
      refine ⟨_, σ5, rfl, Or.inr ⟨y1, (frQq.u44.trans (frQq.ofZ z9)).trans frQq.u14, frJ.u7.trans (frJ.ofL z12 z13 z14 (fun l e => by have e := Option.some.inj e; omega)), nx', U, N, B, P, G, M, a', m', by omega, z3.uI14, ?_, fun hu => ?_⟩⟩
      · exact hQ.of (fun j2 hj2 => by rw [r14, if_neg (by omega)]) (fun b hb => by rw [z12.2.1 b (by omega)]; rfl)
      · refine PC_law (hc hu) (l := 11 + j) (by omega) z4 z5 z6 (z7.of rfl) z10 (z11 _ rfl) (fun i hi => (z8 i hi)) (fun i hi => z13 i hi) ⟨fun i hi => z14.1 i hi, fun i hi => z14.2 i hi⟩ (fun b h1 h2 => by rw [z12.2.1 b (by omega)]; rfl) ?_ (fun k hk hne => ?_) (fun j2 hj2 => by rw [r14, if_neg (by omega)]) (fun b h1 h2 => rA b (by omega) (by omega))
        · unfold cellL
          rw [if_neg (by omega), if_neg (by omega), show 11 + j + 1 = 12 + j by omega, r14, if_pos rfl, z2]
        · unfold cellL
          rw [rA 21 (by omega) (by omega), rA 22 (by omega) (by omega)]
          split
          · rfl
          split
          · rfl
          · rw [r14, if_neg (by omega)]
  · obtain ⟨f, p, g1, g2, g3, g4⟩ := id dd
    obtain ⟨r, σ3, w1, w2, w3⟩ := c_lawD (n := n) (by omega) g1
    rw [t1, ob_def, u1, ob_def, if_pos rfl, w1, ob_def, ob_def, m_tellOne_b123, m_tellOne_b124, bz_0]
    exact st_fail rfl rfl (show Dd s σC σM (uI σ3 14 (12 + j) r) σ2 from Dd.u14 ⟨f, p, w3, g2, g3.trans (frQq.ofZ w2), g4⟩)
