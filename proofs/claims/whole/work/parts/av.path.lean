/-! PATHS -/
theorem wlk_sym (Q : List (Nat × Nat × Nat)) (a b : Nat) : wlk Q a b = wlk Q b a := by
  unfold wlk
  have e : wlF a b = wlF b a := by
    funext w q
    unfold wlF
    by_cases z : (q.1 = a ∧ q.2.1 = b) ∨ (q.1 = b ∧ q.2.1 = a)
    · have z' : (q.1 = b ∧ q.2.1 = a) ∨ (q.1 = a ∧ q.2.1 = b) := z.symm
      by_cases y : w = 0 ∨ q.2.2 < w
      · rw [if_pos ⟨z, y⟩, if_pos ⟨z', y⟩]
      · rw [if_neg (fun u => y u.2), if_neg (fun u => y u.2)]
    · rw [if_neg (fun u => z u.1), if_neg (fun u => z u.1.symm)]
  rw [e]
theorem wlk_app (Q : List (Nat × Nat × Nat)) (q : Nat × Nat × Nat) (a b : Nat) : wlk (Q ++ [q]) a b = wlF a b (wlk Q a b) q := by
  unfold wlk
  rw [List.foldl_append]
  rfl
theorem wlF_le {a b w : Nat} {q : Nat × Nat × Nat} (hw : w ≤ 9) (hq : q.2.2 ≤ 9) : wlF a b w q ≤ 9 := by
  unfold wlF
  split
  · exact hq
  · exact hw
theorem fold_le {a b : Nat} : ∀ (Q : List (Nat × Nat × Nat)) (w : Nat), w ≤ 9 → (∀ q, q ∈ Q → q.2.2 ≤ 9) → Q.foldl (wlF a b) w ≤ 9
  | [], w, h, _ => h
  | q :: Q, w, h, hq => fold_le Q _ (wlF_le h (hq q (List.mem_cons_self ..))) (fun x hx => hq x (List.mem_cons_of_mem _ hx))
theorem fold_aa {a : Nat} : ∀ (Q : List (Nat × Nat × Nat)), (∀ q, q ∈ Q → ¬ q.1 = q.2.1) → Q.foldl (wlF a a) 0 = 0
  | [], _ => rfl
  | q :: Q, hq => by
    rw [List.foldl_cons]
    have e : wlF a a 0 q = 0 := by
      unfold wlF
      rw [if_neg]
      rintro ⟨z, -⟩
      have := hq q (List.mem_cons_self ..)
      omega
    rw [e]
    exact fold_aa Q (fun x hx => hq x (List.mem_cons_of_mem _ hx))
theorem oI_neg {o : Option Nat} (h : ∀ x, o = some x → x < 2 ^ 31) : oI o < 0 ↔ o = none := by
  cases o with
  | none => exact ⟨fun _ => rfl, fun _ => by decide⟩
  | some x => exact ⟨fun u => absurd u (nI_pos (h x rfl)), fun u => by cases u⟩
theorem c_addPath {n P : Nat} {o1 o2 : Option Nat} {h : Int32} {σ : bS} (hP : σ.1 14 1 = nI P) (h1 : ∀ x, o1 = some x → x < 6) (h2 : ∀ x, o2 = some x → x < 6) : ∃ σ', cTold_addPath_s n (oI o1) (oI o2) h σ = some σ' ∧ σ'.1 = (uI σ 14 1 (nI (P + 1))).1 ∧ σ'.2.2 = σ.2.2 ∧ (∀ b, ¬ b = 15 → σ'.2.1 b = σ.2.1 b) ∧ (∀ (x y hh : Nat) (Q : List (Nat × Nat × Nat)), o1 = some x → o2 = some y → h = nI hh → hh ≤ 9 → (∀ q, q ∈ Q → q.2.2 ≤ 9) → (∀ a b, a < 6 → b < 6 → σ.2.1 15 (6 * a + b) = nI (wlk Q a b)) → ∀ a b, a < 6 → b < 6 → σ'.2.1 15 (6 * a + b) = nI (wlk (Q ++ [(x, y, hh)]) a b)) := by
  unfold cTold_addPath_s
  rw [show sI σ 14 1 = nI P from hP, nI_s]
  cases o1 with
  | none =>
    rw [if_pos (show oI none < 0 by decide), cTold_addPath_s_b18]
    exact ⟨_, rfl, rfl, rfl, fun _ _ => rfl, fun x y hh Q e => by cases e⟩
  | some x =>
    have x6 := h1 x rfl
    rw [if_neg (show ¬ oI (some x) < 0 from nI_pos (by omega))]
    cases o2 with
    | none =>
      rw [if_neg (show ¬ (0 : Int32) ≤ oI none by decide), cTold_addPath_s_b18]
      exact ⟨_, rfl, rfl, rfl, fun _ _ => rfl, fun x y hh Q _ e => by cases e⟩
    | some y =>
      have y6 := h2 y rfl
      have i1 : oI (some x) * cb_6 + oI (some y) = nI (x * 6 + y) := by
        show nI x * cb_6 + nI y = _
        rw [cb_6_n, nI_mul, nI_add]
      have i2 : oI (some y) * cb_6 + oI (some x) = nI (y * 6 + x) := by
        show nI y * cb_6 + nI x = _
        rw [cb_6_n, nI_mul, nI_add]
      rw [if_pos (show (0 : Int32) ≤ oI (some y) from Int32.not_lt.mp (nI_pos (by omega)))]
      unfold cTold_pathHours_s
      rw [i1, bin_nI (by omega) (by decide), ob_def, sA_n _ _ (by omega)]
      have skip : ∀ (σ1 : bS), σ1 = uI σ 14 1 (nI (P + 1)) → ∀ (w : ∀ (hh : Nat) (Q : List (Nat × Nat × Nat)), h = nI hh → hh ≤ 9 → (∀ q, q ∈ Q → q.2.2 ≤ 9) → (∀ a b, a < 6 → b < 6 → σ.2.1 15 (6 * a + b) = nI (wlk Q a b)) → ¬ (wlk Q x y = 0 ∨ hh < wlk Q x y)), ∃ σ', cTold_addPath_s_b62 n σ1 = some σ' ∧ σ'.1 = (uI σ 14 1 (nI (P + 1))).1 ∧ σ'.2.2 = σ.2.2 ∧ (∀ b, ¬ b = 15 → σ'.2.1 b = σ.2.1 b) ∧ (∀ (x1 y1 hh : Nat) (Q : List (Nat × Nat × Nat)), some x = some x1 → some y = some y1 → h = nI hh → hh ≤ 9 → (∀ q, q ∈ Q → q.2.2 ≤ 9) → (∀ a b, a < 6 → b < 6 → σ.2.1 15 (6 * a + b) = nI (wlk Q a b)) → ∀ a b, a < 6 → b < 6 → σ'.2.1 15 (6 * a + b) = nI (wlk (Q ++ [(x1, y1, hh)]) a b)) := fun σ1 e1 w => by
        subst e1
        refine ⟨_, rfl, rfl, rfl, fun _ _ => rfl, fun x1 y1 hh Q ex ey eh h9 hq hw a b ha hb => ?_⟩
        have ex := Option.some.inj ex
        have ey := Option.some.inj ey
        subst ex ey
        rw [uI_2, hw a b ha hb, wlk_app]
        have no := w hh Q eh h9 hq hw
        congr 1
        unfold wlF
        rw [if_neg]
        rintro ⟨z, u⟩
        have z : (x = a ∧ y = b) ∨ (x = b ∧ y = a) := z
        have u : wlk Q a b = 0 ∨ hh < wlk Q a b := u
        rcases z with ⟨rfl, rfl⟩ | ⟨rfl, rfl⟩
        · exact no u
        · rw [wlk_sym] at u
          exact no u
      have put : ∀ (w : ∀ (hh : Nat) (Q : List (Nat × Nat × Nat)), h = nI hh → hh ≤ 9 → (∀ q, q ∈ Q → q.2.2 ≤ 9) → (∀ a b, a < 6 → b < 6 → σ.2.1 15 (6 * a + b) = nI (wlk Q a b)) → (wlk Q x y = 0 ∨ hh < wlk Q x y)), ∃ σ', cTold_addPath_s_b38 n (oI (some x)) (oI (some y)) h (uI σ 14 1 (nI (P + 1))) = some σ' ∧ σ'.1 = (uI σ 14 1 (nI (P + 1))).1 ∧ σ'.2.2 = σ.2.2 ∧ (∀ b, ¬ b = 15 → σ'.2.1 b = σ.2.1 b) ∧ (∀ (x1 y1 hh : Nat) (Q : List (Nat × Nat × Nat)), some x = some x1 → some y = some y1 → h = nI hh → hh ≤ 9 → (∀ q, q ∈ Q → q.2.2 ≤ 9) → (∀ a b, a < 6 → b < 6 → σ.2.1 15 (6 * a + b) = nI (wlk Q a b)) → ∀ a b, a < 6 → b < 6 → σ'.2.1 15 (6 * a + b) = nI (wlk (Q ++ [(x1, y1, hh)]) a b)) := fun w => by
        unfold cTold_addPath_s_b38
        rw [i1, i2, bin_nI (by omega) (by decide), bin_nI (by omega) (by decide), cTold_addPath_s_b62]
        refine ⟨_, rfl, rfl, rfl, fun b hb => by rw [uA_o _ _ _ _ hb, uA_o _ _ _ _ hb, uI_2], fun x1 y1 hh Q ex ey eh h9 hq hw a b ha hb => ?_⟩
        have ex := Option.some.inj ex
        have ey := Option.some.inj ey
        subst ex ey
        rw [uA_2, uA_2, nI_clamp (by omega), nI_clamp (by omega), uI_2, wlk_app]
        have yes := w hh Q eh h9 hq hw
        by_cases z : (x = a ∧ y = b) ∨ (x = b ∧ y = a)
        · have ew : wlF a b (wlk Q a b) (x, y, hh) = hh := by
            unfold wlF
            rw [if_pos ⟨z, show wlk Q a b = 0 ∨ hh < wlk Q a b by
              rcases z with ⟨rfl, rfl⟩ | ⟨rfl, rfl⟩
              · exact yes
              · rw [wlk_sym]
                exact yes⟩]
          rw [ew]
          by_cases q : 6 * a + b = y * 6 + x
          · rw [if_pos ⟨rfl, q⟩, eh]
          · rw [if_neg (fun u => q u.2), if_pos ⟨rfl, by omega⟩, eh]
        · have ew : wlF a b (wlk Q a b) (x, y, hh) = wlk Q a b := by
            unfold wlF
            rw [if_neg (fun u => z u.1)]
          rw [ew, if_neg (fun u => z (by omega)), if_neg (fun u => z (by omega))]
          exact hw a b ha hb
      have val : ∀ (Q : List (Nat × Nat × Nat)), (∀ q, q ∈ Q → q.2.2 ≤ 9) → (∀ a b, a < 6 → b < 6 → σ.2.1 15 (6 * a + b) = nI (wlk Q a b)) → (uI σ 14 1 (nI (P + 1))).2.1 15 (x * 6 + y) = nI (wlk Q x y) ∧ wlk Q x y ≤ 9 := fun Q hq hw => ⟨by rw [uI_2, show x * 6 + y = 6 * x + y by omega]; exact hw x y x6 y6, fold_le Q 0 (by omega) hq⟩
      show ∃ σ', (if (uI σ 14 1 (nI (P + 1))).2.1 15 (x * 6 + y) = 0 then _ else _) = some σ' ∧ _
      by_cases z : (uI σ 14 1 (nI (P + 1))).2.1 15 (x * 6 + y) = 0
      · rw [if_pos z]
        refine put (fun hh Q eh h9 hq hw => Or.inl ?_)
        obtain ⟨v1, v2⟩ := val Q hq hw
        exact nI_inj (by omega) (by omega) (v1.symm.trans z)
      · rw [if_neg z]
        show ∃ σ', (if (uI σ 14 1 (nI (P + 1))).2.1 15 (x * 6 + y) ≤ h then _ else _) = some σ' ∧ _
        by_cases y2 : (uI σ 14 1 (nI (P + 1))).2.1 15 (x * 6 + y) ≤ h
        · rw [if_pos y2]
          refine skip _ rfl (fun hh Q eh h9 hq hw u => ?_)
          obtain ⟨v1, v2⟩ := val Q hq hw
          rw [v1] at z y2
          rw [eh] at y2
          have := (nI_leI (by omega) (by omega)).mp y2
          rcases u with u | u
          · exact z (by rw [u]; rfl)
          · omega
        · rw [if_neg y2]
          refine put (fun hh Q eh h9 hq hw => Or.inr ?_)
          obtain ⟨v1, v2⟩ := val Q hq hw
          rw [v1, eh] at y2
          exact Nat.lt_of_not_le (fun u => y2 ((nI_leI (by omega) (by omega)).mpr u))
/-- a FAULT 3 to 5 is noted on both sides -/
theorem k_note {s : tS} {n nx f j a m : Nat} {N : nmS} {U : Option (Nat × Nat)} {x : Int32} {σC σM : bS} (hT : okT s) (h : PK s nx U N a m σC σM) (hx : x = nI f) (h3 : 3 ≤ f) (h5 : f ≤ 5) (hj : j < nx) (hU2 : okU j U) : ∃ σC' σM', cReader_note n x (nI j) σC = some σC' ∧ m_tells n x (nI j) σM = some σM' ∧ PK s nx (ntd U f j) N a m σC' σM' ∧ fr67 σC σC' ∧ frU σM σM' := by
  obtain ⟨⟨hC, hM⟩, ⟨ha1, ha2, hm1, hm2⟩, ⟨hU, hUC, hUM⟩, hN, hNC, hNM⟩ := h
  have nx4 := hC.1.2.2.1
  have nxe := hC.1.2.2.2
  obtain ⟨σ1, a1, a2, a3⟩ := c_note (n := n) (f := f) (j := j) (x := x) hx hU hUC hC.1.1 (by omega) (by omega)
  obtain ⟨σ2, b1, b2, b3⟩ := m_tell (n := n) (f := f) (j := j) (x := x) hT hx h5 hU hUM hM.1 (by omega) (fun f0 j0 e => Or.inl (hU2 f0 j0 e).2.2)
  exact ⟨σ1, σ2, a1, b1, ⟨⟨hC.of67 a3, hM.of b3.1 (b3.2 7 (by decide))⟩, ⟨by rw [a3.2.1 23 (by decide)]; exact ha1, ha2, by rw [b3.1]; exact hm1, hm2⟩, ⟨hU.ntd h3 h5 hj, a2, b2⟩, hN, hNC.of67 a3, hNM.ofU b3⟩, a3, b3⟩
theorem PK.oku {s : tS} {nx a m : Nat} {N : nmS} {U : Option (Nat × Nat)} {σC σM : bS} (h : PK s nx U N a m σC σM) : okU nx U := h.2.2.1.1
def cP14 (n : Nat) (x1 x3 : Int32) (σ : bS) : Option bS := cReader_readPath_b56 n x1 x3 σ
/-- from the INT of a PATH on -/
theorem st_path2 {s : tS} {n nx nx0 B P G M a m : Nat} {U U0 : Option (Nat × Nat)} {N : nmS} {o1 o2 : Option Nat} {σC σM σC0 σM0 : bS} (hT : okT s) (hK : PK s nx U N a m σC σM) (hQ : Cnt N B P G M σC0 σM0) (hP : P < 10) (hc : U0 = none → PC B P G M a m σC0 σM0) (lt : nx0 < nx) (b1 : ∀ x, o1 = some x → x < B) (b2 : ∀ x, o2 = some x → x < B) (hU : U = none → U0 = none ∧ ∃ x y, o1 = some x ∧ o2 = some y ∧ ¬ x = y) (e14 : σC.1 14 = σC0.1 14) (eA : ∀ b, 15 ≤ b → b ≤ 24 → σC.2.1 b = σC0.2.1 b) (m14 : σM.2.1 14 (10 + P) = oI o1) (m15 : σM.2.1 15 (10 + P) = oI o2) (eM : ∀ b j, 7 ≤ b → b ≤ 24 → ¬ ((b = 14 ∨ b = 15) ∧ j = 10 + P) → σM.2.1 b j = σM0.2.1 b j) (fC : frQq σC0 σC) (fM : frJ σM0 σM) : StO n s nx0 (cReader_readPath_b56 n (oI o1) (oI o2) σC) (m_tellPath_b105 n (nI (10 + P)) σM) σC0 σM0 := by
  obtain ⟨⟨hl, hin⟩, ⟨b6, p10, g4, m7⟩, ⟨c0, c1, c2, c3⟩, ⟨d0, d1, d2, d3⟩⟩ := id hQ
  unfold StO cReader_readPath_b56 m_tellPath_b105
  rcases k_int (n := n) (x := ci_1) (y := cb_9) (lo := 1) (hi := 9) hT hK ci1_nI cb_9_n (by omega) (by omega) with ⟨t0, σ1, σ2, t1, t2, t3, t4, t5, t6⟩ | ⟨σ1, σ2, t1, t2, dd⟩
  · have e35 : sI σ2 0 35 = nI (tvl s nx) := t4
    have e13 : sA (uA σ2 16 (nI (10 + P)) (nI (tvl s nx))) 13 ci_1 = nI P := by
      rw [sA_1, uA_o _ _ _ _ (by decide), t6.1, eM 13 1 (by omega) (by omega) (by omega)]
      exact d1
    rw [t1, ob_def, t2, ob_def, if_neg one_ne, bin_nI (by omega) (by decide), bin_1 _ (by decide) (by decide), bin_1 _ (by decide) (by decide), bz_1]
    show ∃ σC' σM', (ob (cReader_take n ci_4 σ1) fun q2 => _) = _ ∧ ((mSt n (some (1, uA (uA σ2 16 (nI (10 + P)) (sI σ2 0 35)) 13 ci_1 (sA (uA σ2 16 (nI (10 + P)) (sI σ2 0 35)) 13 ci_1 + ci_1))) = _ ∧ _) ∨ (mSt n (some (1, uA (uA σ2 16 (nI (10 + P)) (sI σ2 0 35)) 13 ci_1 (sA (uA σ2 16 (nI (10 + P)) (sI σ2 0 35)) 13 ci_1 + ci_1))) = _ ∧ _))
    rw [e35, e13, nI_s]
    unfold mSt
    rw [ob_def, if_neg one_ne]
    have hK2 := PK.uAM (b := 13) (i := ci_1) (v := nI (P + 1)) (by omega) (PK.uAM (b := 16) (i := nI (10 + P)) (v := nI (tvl s nx)) (by omega) t3)
    have fC2 : frQq σC0 σ1 := fC.trans (frQq.ofN t5)
    have fM2 : frJ σM0 (uA (uA σ2 16 (nI (10 + P)) (nI (tvl s nx))) 13 ci_1 (nI (P + 1))) := ((fM.trans (frJ.ofV t6)).trans (frJ.uA (a := 16) (by omega) (by show 10 ≤ 10 + P; omega) (by omega))).trans (frJ_uA1 (Or.inr (Or.inl rfl)))
    rcases k_semi (n := n) hT hK2 with ⟨w0, w1, w2, w3⟩ | ⟨σ3, σ4, w1, w2, dd⟩
    · have q14 : σ1.1 14 = σC0.1 14 := (frN_k t5 14 (by omega)).1.trans e14
      have p14 : (uI σ1 44 4 (nI (nx + 1 + 1))).1 14 1 = nI P := by
        rw [uI_1, if_neg (by decide), q14]
        exact c1
      obtain ⟨σ5, x1, x2, x3, x4, x5⟩ := c_addPath (n := n) (P := P) (o1 := o1) (o2 := o2) (h := nI (tvl s nx)) p14 (fun x e => by have := b1 x e; omega) (fun x e => by have := b2 x e; omega)
      rw [w1, ob_def, w2, ob_def, if_pos (show sI (uI σ1 44 4 (nI (nx + 1 + 1))) 44 5 = 0 from w3.1.1.2), x1, ob_def, cReader_readPath_b88]
      have r14 : ∀ j, σ5.1 14 j = if j = 1 then nI (P + 1) else σC0.1 14 j := fun j => by rw [x2]; exact rd14 q14 (nI (nx + 1 + 1)) (nI (P + 1)) 1 j
      have rA : ∀ b, 16 ≤ b → b ≤ 24 → σ5.2.1 b = σC0.2.1 b := fun b h1 h2 => by rw [x4 b (by omega), uI_2, (frN_k t5 b (by omega)).2, eA b (by omega) (by omega)]
      have rM : ∀ b j, 7 ≤ b → b ≤ 24 → ¬ ((b = 14 ∨ b = 15 ∨ b = 16) ∧ j = 10 + P) → ¬ (b = 13 ∧ j = 1) → (uI (uA (uA σ2 16 (nI (10 + P)) (nI (tvl s nx))) 13 ci_1 (nI (P + 1))) 0 7 (nI (nx + 1 + 1))).2.1 b j = σM0.2.1 b j := fun b j h1 h2 h3 h4 => by
        rw [uI_2, rdA1, if_neg h4, uA_2, nI_clamp (by omega), if_neg (by omega), t6.1, eM b j h1 h2 (by omega)]
      have f5 : frQq (uI σ1 44 4 (nI (nx + 1 + 1))) σ5 := fun b hb => by
        refine ⟨?_, x4 b (by omega), by rw [x3]⟩
        rw [x2]
        funext j
        rw [uI_1, if_neg (by omega)]
      have hK5 : PK s (nx + 1 + 1) (wrgU U 1 9 (tvl s nx) nx) N a m σ5 (uI (uA (uA σ2 16 (nI (10 + P)) (nI (tvl s nx))) 13 ci_1 (nI (P + 1))) 0 7 (nI (nx + 1 + 1))) := by
        obtain ⟨⟨⟨hC, h5⟩, hM⟩, ⟨ha1, ha2, hm1, hm2⟩, ⟨hU, hUC, hUM⟩, hN, hNC, hNM⟩ := w3
        have y44 : σ5.1 44 = (uI σ1 44 4 (nI (nx + 1 + 1))).1 44 := by
          rw [x2]
          funext j
          rw [uI_1, if_neg (by omega)]
        refine ⟨⟨⟨⟨fun j h1 h2 => ?_, by rw [y44]; exact hC.2.1, hC.2.2.1, hC.2.2.2⟩, by rw [y44]; exact h5⟩, hM⟩, ⟨?_, ha2, hm1, hm2⟩, ⟨hU, hUC.of (by rw [y44]) (by rw [y44]), hUM⟩, hN, ⟨by rw [y44]; exact hNC.1, fun j hj => ?_⟩, hNM⟩
        · rw [x4 51 (by decide), x4 53 (by decide), x3]
          exact hC.1 j h1 h2
        · rw [x2, uI_1, if_neg (by decide)]
          exact ha1
        · rw [x4 46 (by decide), x4 47 (by decide), x3]
          exact hNC.2 j hj
      refine ⟨_, _, rfl, Or.inr ⟨rfl, (fC2.trans frQq.u44).trans f5, fM2.trans frJ.u7, nx + 1 + 1, _, _, B, P + 1, G, M, a, m, by omega, hK5, ?_, fun hu => ?_⟩⟩
      · refine ⟨⟨hl, hin⟩, ⟨b6, by omega, g4, m7⟩, ⟨?_, ?_, ?_, ?_⟩, ⟨?_, ?_, ?_, ?_⟩⟩
        · rw [r14, if_neg (by omega)]; exact c0
        · rw [r14, if_pos rfl]
        · rw [r14, if_neg (by omega)]; exact c2
        · rw [r14, if_neg (by omega)]; exact c3
        · rw [rM 12 1 (by omega) (by omega) (by omega) (by omega)]; exact d0
        · rw [uI_2, rdA1, if_pos ⟨rfl, rfl⟩]
        · rw [rM 17 1 (by omega) (by omega) (by omega) (by omega)]; exact d2
        · rw [rM 20 1 (by omega) (by omega) (by omega) (by omega)]; exact d3
      · obtain ⟨hu1, v1, v9⟩ := wrgU_n hu
        obtain ⟨hu0, x, y, ex, ey, ne⟩ := hU hu1
        obtain ⟨q1, q2, q3, q4, q5⟩ := hc hu0
        have xb := b1 x ex
        have yb := b2 y ey
        refine ⟨?_, q2.of (by omega) (fun b j h1 h2 _ => congrFun (rA b (by omega) (by omega)) j) (fun b j h1 h2 _ => rM b j (by omega) (by omega) (by omega) (by omega)), q3.of (by omega) (fun b j h1 h2 _ => congrFun (rA b (by omega) (by omega)) j) (fun b j h1 h2 _ => rM b j (by omega) (by omega) (by omega) (by omega)), q4.of (fun j hj => by rw [r14, if_neg (by omega)]) (funext (fun j => rM 24 j (by omega) (by omega) (by omega) (by omega))), PCl.of q5 (fun j h1 h2 => by rw [r14, if_neg (by omega)]) (fun b hb => rA b (by omega) (by omega)) (fun b h1 h2 => funext (fun j => rM b j (by omega) (by omega) (by omega) (by omega)))⟩
        obtain ⟨Q, z1, z2, z3, z4⟩ := q1
        have gl : ∀ j, j < P → (Q ++ [(x, y, tvl s nx)]).getD j p0 = Q.getD j p0 := fun j hj => by
          rw [List.getD_eq_getElem?_getD, List.getD_eq_getElem?_getD, List.getElem?_append_left (by omega)]
        have gr : (Q ++ [(x, y, tvl s nx)]).getD P p0 = (x, y, tvl s nx) := by
          rw [List.getD_eq_getElem?_getD, List.getElem?_append_right (by omega), show P - Q.length = 0 by omega]
          rfl
        refine ⟨Q ++ [(x, y, tvl s nx)], by rw [List.length_append, List.length_singleton, z1], fun q hq => ?_, fun j hj => ?_, fun a' b' ha' hb' => ?_⟩
        · rcases List.mem_append.mp hq with w | w
          · exact z2 q w
          · rw [List.mem_singleton.mp w]
            exact ⟨xb, yb, ne, v1, v9⟩
        · by_cases jP : j < P
          · rw [gl j jP, rM 14 _ (by omega) (by omega) (by omega) (by omega), rM 15 _ (by omega) (by omega) (by omega) (by omega), rM 16 _ (by omega) (by omega) (by omega) (by omega)]
            exact z3 j jP
          · have jP : j = P := by omega
            subst jP
            rw [gr]
            refine ⟨?_, ?_, ?_⟩
            · rw [uI_2, rdA1, if_neg (by omega), uA_2, if_neg (by omega), t6.1, m14, ex]
              rfl
            · rw [uI_2, rdA1, if_neg (by omega), uA_2, if_neg (by omega), t6.1, m15, ey]
              rfl
            · rw [uI_2, rdA1, if_neg (by omega), uA_2, nI_clamp (by omega), if_pos ⟨rfl, rfl⟩]
        · refine x5 x y (tvl s nx) Q ex ey rfl v9 (fun q hq => (z2 q hq).2.2.2.2) (fun a2 b2 ha2 hb2 => ?_) a' b' ha' hb'
          rw [uI_2, (frN_k t5 15 (by omega)).2, eA 15 (by omega) (by omega)]
          exact z4 a2 b2 ha2 hb2
    · rw [w1, ob_def, w2, ob_def]
      obtain ⟨f, p, g1, g2, g3, g4⟩ := id dd
      rw [if_neg g1.ne, cReader_readPath_b88]
      exact ⟨_, _, rfl, Or.inl ⟨rfl, dd.tr fC2 fM2⟩⟩
  · obtain ⟨f, p, g1, g2, g3, g4⟩ := id dd
    rw [t1, ob_def, t2, ob_def, if_pos rfl, c_takeD g1, ob_def, if_neg g1.ne, cReader_readPath_b88, bz_0, mSt, ob_def, if_pos rfl]
    exact ⟨_, _, rfl, Or.inl ⟨rfl, dd.tr fC fM⟩⟩
theorem path_dead {s : tS} {n f p : Nat} {x y : Int32} {σ : bS} (h : CD s f p σ) : cReader_readPath_b56 n x y σ = some σ := by
  unfold cReader_readPath_b56
  rw [c_intD h, ob_def, c_takeD h, ob_def, if_neg h.ne, cReader_readPath_b88]
theorem st_fail {n nx : Nat} {s : tS} {rC : Option bS} {rM : Option (Int32 × bS)} {σC σM σC' σM' : bS} (h1 : rC = some σC') (h2 : rM = some (0, σM')) (h : Dd s σC σM σC' σM') : StO n s nx rC rM σC σM := ⟨σC', σM', h1, Or.inl ⟨by rw [h2, mSt, ob_def, if_pos rfl], h⟩⟩
theorem frQq.of67 {σ σ' : bS} (h : fr67 σ σ') : frQq σ σ' := frQq.ofN (frN.of67 h)
theorem st_path {s : tS} {n nx B P G M a m : Nat} {U : Option (Nat × Nat)} {N : nmS} {σC σM : bS} (hn : 500 ≤ n) (hT : okT s) (h : PR s nx U N B P G M a m σC σM) (hk : tkd s nx = 14) : StO n s nx (cReader_readPath n σC) (m_tellPath n σM) σC σM := by
  obtain ⟨hK, hQ, hc⟩ := h
  obtain ⟨⟨hl, hin⟩, ⟨b6, p10, g4, m7⟩, ⟨c0, c1, c2, c3⟩, ⟨d0, d1, d2, d3⟩⟩ := id hQ
  unfold cReader_readPath m_tellPath
  rw [bin_1 _ (by decide) (by decide), bin_1 _ (by decide) (by decide), sA_1, d1, cb_10_n, nI_add]
  rcases k_first (n := n) (x := cb_14) (k := 14) (y := sI σC 14 1) (c := P) (z := nI 10) (mo := 10) hT hK (by decide) hk (by omega) c1 rfl p10 (by omega) with ⟨lt, t1, u1, h1⟩ | ⟨lt, σ1, σ2, t1, u1, dd⟩ | ⟨eq, σ1, σ2, t1, u1, dd⟩
  · rw [t1, ob_def, if_neg (show ¬ nI P = nI 10 from fun u => by have := nI_inj (by omega) (by omega) u; omega), u1, ob_def, if_neg one_ne]
    rcases k_name (n := n) (k := 0) (x := cb_13) (y := ci_0) (by omega) hT h1 (by omega) (by omega) (by decide) rfl with ⟨v0, σ1, σ2, v1, v2, v3, v4, v5, v6⟩ | ⟨σ1, σ2, v1, v2, dd⟩
    · have e35 : sI σ2 0 35 = oI (fndN N (twd s (nx + 1)) 0) := v4
      rw [v1, ob_def, v2, ob_def, if_neg one_ne, bin_nI (by omega) (by decide)]
      show StO n s nx (ob (cReader_takeName n cb_13 σ1) fun q6 => _) (ob (m_takesName n ci_0 (uA σ2 14 (nI (10 + P)) (sI σ2 0 35))) fun q5 => _) σC σM
      rw [e35]
      generalize ho1 : fndN N (twd s (nx + 1)) 0 = o1 at *
      have K2 := PK.uAM (b := 14) (i := nI (10 + P)) (v := oI o1) (by omega) v3
      have fC1 : frQq σC σ1 := frQq.u44.trans (frQq.ofN v5)
      have fM1 : frJ σM (uA σ2 14 (nI (10 + P)) (oI o1)) := (frJ.u7.trans (frJ.ofV v6)).trans (frJ.uA (a := 14) (by omega) (by show 10 ≤ 10 + P; omega) (by omega))
      rcases k_name (n := n) (k := 0) (x := cb_13) (y := ci_0) (by omega) hT K2 (by omega) (by omega) (by decide) rfl with ⟨w0, σ3, σ4, w1, w2, w3, w4, w5, w6⟩ | ⟨σ3, σ4, w1, w2, dd⟩
      · generalize ho2 : fndN N (twd s (nx + 1 + 1)) 0 = o2 at *
        have e35' : sI σ4 0 35 = oI o2 := w4
        have b1 : ∀ x, o1 = some x → x < B := fun x e => hin.bank (ho1.trans e)
        have b2 : ∀ x, o2 = some x → x < B := fun x e => hin.bank (ho2.trans e)
        rw [w1, ob_def, w2, ob_def, if_neg one_ne, bin_nI (by omega) (by decide)]
        show StO n s nx (if sI σ3 44 5 = 0 then _ else _) (if sI (uA σ4 15 (nI (10 + P)) (sI σ4 0 35)) 0 35 < 0 then m_tellPath_b105 n (nI (10 + P)) (uA σ4 15 (nI (10 + P)) (sI σ4 0 35)) else bin_ (nI (10 + P)) 20 (if sA (uA σ4 15 (nI (10 + P)) (sI σ4 0 35)) 14 (nI (10 + P)) = sI (uA σ4 15 (nI (10 + P)) (sI σ4 0 35)) 0 35 then ob (m_tells n ci_3 (sI (uA σ2 14 (nI (10 + P)) (oI o1)) 0 7) (uA σ4 15 (nI (10 + P)) (sI σ4 0 35))) fun q6 => m_tellPath_b105 n (nI (10 + P)) q6 else m_tellPath_b105 n (nI (10 + P)) (uA σ4 15 (nI (10 + P)) (sI σ4 0 35)))) σC σM
        rw [if_pos (show sI σ3 44 5 = 0 from w3.1.1.2), e35', show sI (uA σ4 15 (nI (10 + P)) (oI o2)) 0 35 = oI o2 from w4, bin_nI (by omega) (by decide)]
        have K4 := PK.uAM (b := 15) (i := nI (10 + P)) (v := oI o2) (by omega) w3
        have fC3 : frQq σC σ3 := fC1.trans (frQq.ofN w5)
        have fM4 : frJ σM (uA σ4 15 (nI (10 + P)) (oI o2)) := (fM1.trans (frJ.ofV w6)).trans (frJ.uA (a := 15) (by omega) (by show 10 ≤ 10 + P; omega) (by omega))
        have e14 : σ3.1 14 = σC.1 14 := (frN_k w5 14 (by omega)).1.trans (e_14 v5)
        have eA : ∀ b, 15 ≤ b → b ≤ 24 → σ3.2.1 b = σC.2.1 b := fun b h1 h2 => by rw [(frN_k w5 b (by omega)).2, (frN_k v5 b (by omega)).2]; rfl
        have eM : ∀ b j, 7 ≤ b → b ≤ 24 → ¬ ((b = 14 ∨ b = 15) ∧ j = 10 + P) → (uA σ4 15 (nI (10 + P)) (oI o2)).2.1 b j = σM.2.1 b j := fun b j h1 h2 h3 => by
          rw [uA_2, nI_clamp (by omega), if_neg (by omega), w6.1, uA_2, nI_clamp (by omega), if_neg (by omega), v6.1]
          rfl
        have m14 : (uA σ4 15 (nI (10 + P)) (oI o2)).2.1 14 (10 + P) = oI o1 := by rw [uA_o _ _ _ _ (by decide), w6.1, uA_2, nI_clamp (by omega), if_pos ⟨rfl, rfl⟩]
        have m15 : (uA σ4 15 (nI (10 + P)) (oI o2)).2.1 15 (10 + P) = oI o2 := by rw [uA_2, nI_clamp (by omega), if_pos ⟨rfl, rfl⟩]
        have s14 : sA (uA σ4 15 (nI (10 + P)) (oI o2)) 14 (nI (10 + P)) = oI o1 := by rw [sA_n _ _ (by omega)]; exact m14
        rw [s14]
        have go : (unkU (unkU U o1 (nx + 1)) o2 (nx + 1 + 1) = none → ∃ x y, o1 = some x ∧ o2 = some y ∧ ¬ x = y) → StO n s nx (cReader_readPath_b56 n (oI o1) (oI o2) σ3) (m_tellPath_b105 n (nI (10 + P)) (uA σ4 15 (nI (10 + P)) (oI o2))) σC σM := fun hne => st_path2 (U0 := U) hT K4 hQ lt hc (by omega) b1 b2 (fun u => ⟨(unkU_n (unkU_n u).1).1, hne u⟩) e14 eA m14 m15 eM fC3 fM4
        cases o1 with
        | none =>
          rw [if_pos (show oI none < 0 by decide)]
          have hne : unkU (unkU U none (nx + 1)) o2 (nx + 1 + 1) = none → ∃ x y, (none : Option Nat) = some x ∧ o2 = some y ∧ ¬ x = y := fun u => by
            obtain ⟨x, e⟩ := (unkU_n (unkU_n u).1).2
            cases e
          cases o2 with
          | none =>
            rw [if_pos (show oI none < 0 by decide)]
            exact go hne
          | some y =>
            have yb := b2 y rfl
            rw [if_neg (show ¬ oI (some y) < 0 from nI_pos (by omega)), if_neg (show ¬ oI none = oI (some y) from fun u => nI_m1 (j := y) (by omega) u.symm)]
            exact go hne
        | some x =>
          have xb := b1 x rfl
          rw [if_neg (show ¬ oI (some x) < 0 from nI_pos (by omega))]
          cases o2 with
          | none =>
            rw [if_neg (show ¬ oI (some x) = oI none from nI_m1 (j := x) (by omega)), if_pos (show oI none < 0 by decide)]
            exact go (fun u => by
              obtain ⟨y, e⟩ := (unkU_n u).2
              cases e)
          | some y =>
            have yb := b2 y rfl
            rw [if_neg (show ¬ oI (some y) < 0 from nI_pos (by omega))]
            by_cases xy : x = y
            · subst xy
              rw [if_pos rfl, if_pos rfl]
              have j1 : sI σ1 44 4 = nI (nx + 1 + 1) := v3.1.1.1.2.1
              have j2 : sI (uA σ2 14 (nI (10 + P)) (oI (some x))) 0 7 = nI (nx + 1 + 1) := K2.1.2.2.1
              rw [j2]
              show StO n s nx (ob (cReader_note n ci_3 (sI σ1 44 4) σ3) fun q7 => _) _ σC σM
              rw [j1]
              obtain ⟨σ5, σ6, x1, x2, x3, x4, x5⟩ := k_note (n := n) (f := 3) (j := nx + 1 + 1) (x := ci_3) hT K4 (by decide) (by omega) (by omega) (by omega) K2.oku
              rw [x1, ob_def, x2, ob_def]
              refine st_path2 (U0 := U) hT x3 hQ lt hc (by omega) b1 b2 (fun u => ?_) ?_ (fun b h1 h2 => ?_) ?_ ?_ (fun b j h1 h2 h3 => ?_) (fC3.trans (frQq.of67 x4)) (fM4.trans (frJ.ofV (frV.ofU x5)))
              · exfalso
                cases hq : unkU (unkU U (some x) (nx + 1)) (some x) (nx + 1 + 1) with
                | none =>
                  rw [hq] at u
                  cases u
                | some q =>
                  rw [hq] at u
                  cases u
              · rw [x4.2.1 14 (by decide)]; exact e14
              · rw [x4.1]; exact eA b h1 h2
              · rw [x5.1]; exact m14
              · rw [x5.1]; exact m15
              · rw [x5.1]; exact eM b j h1 h2 h3
            · have nxy : ¬ oI (some x) = oI (some y) := fun u => xy (nI_inj (by omega) (by omega) u)
              rw [if_neg nxy, if_neg nxy]
              exact go (fun _ => ⟨x, y, rfl, rfl, xy⟩)
      · obtain ⟨f, p, g1, g2, g3, g4⟩ := id dd
        rw [w1, ob_def, w2, ob_def, if_pos rfl, if_neg g1.ne, bz_0]
        exact st_fail (path_dead g1) rfl (dd.tr fC1 fM1)
    · obtain ⟨f, p, g1, g2, g3, g4⟩ := id dd
      rw [v1, ob_def, v2, ob_def, if_pos rfl, c_nameD g1, ob_def, if_neg g1.ne, m_tellPath_b42, bz_0]
      exact st_fail (path_dead g1) rfl (dd.tr frQq.u44 frJ.u7)
  · obtain ⟨f, p, g1, g2, g3, g4⟩ := id dd
    rw [t1, ob_def, if_neg (show ¬ nI P = nI 10 from fun u => by have := nI_inj (by omega) (by omega) u; omega), u1, ob_def, if_pos rfl, c_nameD g1, ob_def, c_nameD g1, ob_def, if_neg g1.ne, m_tellPath_b42, bz_0]
    exact st_fail (path_dead g1) rfl dd
  · obtain ⟨f, p, g1, g2, g3, g4⟩ := id dd
    rw [t1, ob_def, if_pos (show nI P = nI 10 by rw [eq]), u1, ob_def, c_nameD g1, ob_def, c_nameD g1, ob_def, if_neg g1.ne]
    exact st_fail (path_dead g1) rfl dd
