/-! both parsers in step -/
theorem lawA_ok {s : tS} (hT : okT s) : ∀ (k j nx : Nat) (acc : List (codes × codes × codes)) (nx' : Nat) (q : lwS), (∀ x, x ∈ acc → okE x.1 ∧ okE x.2.1 ∧ okE x.2.2) → lawA s k j nx acc = .inr (nx', q) → okL q := by
  intro k
  induction k with
  | zero =>
    intro j nx acc nx' q h e
    cases e
  | succ k ih =>
    intro j nx acc nx' q h e
    rw [lawA] at e
    split at e
    · split at e
      · cases e
      · split at e
        · split at e
          · cases e
          · rename_i n1 A hA
            split at e
            · cases e
            · split at e
              · cases e
              · rename_i n2 B hB
                split at e
                · cases e
                · split at e
                  · cases e
                  · rename_i n3 D hD
                    split at e
                    · cases e
                    · refine ih _ _ _ nx' q (fun x hx => ?_) e
                      rcases List.mem_append.mp hx with y | y
                      · exact h x y
                      · rw [List.mem_singleton.mp y]
                        exact ⟨smA_ok hT hA, smA_ok hT hB, smA_ok hT hD⟩
        · cases e
    · split at e
      · cases e
      · rename_i n1 E hE
        have e := Sum.inr.inj e
        have e2 : (acc, E) = q := congrArg Prod.snd e
        rw [← e2]
        exact ⟨h, smA_ok hT hE⟩
theorem lawW_ok {s : tS} (hT : okT s) {nx nx' : Nat} {q : lwS} (e : lawW s nx = .inr (nx', q)) : okL q := by
  unfold lawW at e
  split at e
  · exact lawA_ok hT _ _ _ [] nx' q (fun x hx => by cases hx) e
  · cases e
def frQq (σ σ' : bS) : Prop := frC (fun a => (14 ≤ a ∧ a ≤ 24) ∨ (44 ≤ a ∧ a ≤ 48)) σ σ'
theorem frQq.ofN {σ σ' : bS} (h : frN σ σ') : frQq σ σ' := h.1.mono (fun a ha => Or.inr ⟨ha.1, by omega⟩)
theorem frQq.ofZ {σ σ' : bS} (h : frZ σ σ') : frQq σ σ' := h.1.mono (fun a ha => by omega)
theorem frQq.trans {σ σ1 σ2 : bS} (h : frQq σ σ1) (g : frQq σ1 σ2) : frQq σ σ2 := frC.trans h g
/-- first halves of the reference's arrays -/
def hlf (a : Nat) : Nat := if a = 7 ∨ a = 8 then 500 else if a = 9 then 14 else if a = 10 ∨ a = 11 then 196 else if a = 12 ∨ a = 13 ∨ a = 17 ∨ a = 20 then 1 else if a = 14 ∨ a = 15 ∨ a = 16 then 10 else if a = 18 ∨ a = 19 ∨ a = 24 then 4 else if a = 21 ∨ a = 22 ∨ a = 23 then 7 else 0
def frJ (σ σ' : bS) : Prop := (∀ k, ¬ (k = 7 ∨ k = 8 ∨ k = 9 ∨ k = 10 ∨ k = 11 ∨ k = 31 ∨ k = 35 ∨ k = 36 ∨ k = 38) → σ'.1 0 k = σ.1 0 k) ∧ (∀ a, ¬ (6 ≤ a ∧ a ≤ 28) → σ'.2.1 a = σ.2.1 a) ∧ (∀ a, ¬ a = 25 → σ'.2.2 a = σ.2.2 a) ∧ ∀ a j, j < hlf a → σ'.2.1 a j = σ.2.1 a j
theorem frJ.rf {σ : bS} : frJ σ σ := ⟨fun _ _ => rfl, fun _ _ => rfl, fun _ _ => rfl, fun _ _ _ => rfl⟩
theorem frJ.trans {σ σ1 σ2 : bS} (h : frJ σ σ1) (g : frJ σ1 σ2) : frJ σ σ2 := ⟨fun k hk => (g.1 k hk).trans (h.1 k hk), fun a ha => (g.2.1 a ha).trans (h.2.1 a ha), fun a ha => (g.2.2.1 a ha).trans (h.2.2.1 a ha), fun a j hj => (g.2.2.2 a j hj).trans (h.2.2.2 a j hj)⟩
theorem frJ.ofW {σ σ' : bS} (h : frW σ σ') : frJ σ σ' := ⟨h.2.2, fun a ha => h.1 a (by omega), h.2.1, fun a j hj => by
  rw [h.1 a (fun u => by
    rcases u with rfl | rfl
    · exact absurd hj (by decide +revert)
    · exact absurd hj (by decide +revert))]⟩
theorem frJ.ofV {σ σ' : bS} (h : frV σ σ') : frJ σ σ' := frJ.ofW (frW.ofV h)
theorem frJ.uA {σ : bS} {a i : Nat} {v : Int32} (ha : 6 ≤ a ∧ a ≤ 28) (hi : hlf a ≤ i) (hi2 : i < 2 ^ 31) : frJ σ (uA σ a (nI i) v) := ⟨fun _ _ => rfl, fun b hb => uA_o _ _ _ _ (fun u => hb (u ▸ ha)), fun _ _ => rfl, fun b j hj => by
  rw [uA_2, nI_clamp hi2, if_neg]
  rintro ⟨rfl, rfl⟩
  omega⟩
theorem hlf_le {a : Nat} : (a = 6 ∨ a = 28 ∨ a = 26 ∨ a = 27 → hlf a = 0) ∧ (a = 7 ∨ a = 8 → hlf a = 500) ∧ (a = 9 → hlf a = 14) ∧ (a = 10 ∨ a = 11 → hlf a = 196) := by
  refine ⟨?_, ?_, ?_, ?_⟩
  · rintro (rfl | rfl | rfl | rfl) <;> decide
  · rintro (rfl | rfl) <;> decide
  · rintro rfl; decide
  · rintro (rfl | rfl) <;> decide
theorem frJ.ofL {m : Nat} {o : Option Nat} {σ σ' : bS} (h : frL σ σ') (hB : frB m σ σ') (hk : kpL o σ σ') (ho : ∀ l, o = some l → l < 14) : frJ σ σ' := ⟨fun k hk => h.1 k (by omega), fun a ha => h.2.1 a (by omega), fun a _ => by rw [h.2.2.1], fun a j hj => by
  by_cases z : a = 6 ∨ a = 7 ∨ a = 8 ∨ a = 28 ∨ a = 9 ∨ a = 10 ∨ a = 11
  · have l := hlf_le (a := a)
    rcases z with rfl | rfl | rfl | rfl | rfl | rfl | rfl
    · have := l.1 (by omega); omega
    · have := l.2.1 (by omega); exact (hB j (by omega)).1
    · have := l.2.1 (by omega); exact (hB j (by omega)).2
    · have := l.1 (by omega); omega
    · have := l.2.2.1 rfl; exact hk.2 j (fun l' hl => by omega)
    · have := l.2.2.2 (by omega); exact (hk.1 j (fun l' hl => by omega)).1
    · have := l.2.2.2 (by omega); exact (hk.1 j (fun l' hl => by omega)).2
  · rw [h.2.1 a z]⟩
theorem TMs.frj {s : tS} {σ σ' : bS} (h : TMs s σ) (f : frJ σ σ') : TMs s σ' := fun j hj => by
  rw [f.2.1 2 (by decide), f.2.1 3 (by decide), f.2.1 4 (by decide), f.2.2.1 5 (by decide)]
  exact h j hj
/-- both have found the same FAULT -/
def Dd (s : tS) (σC σM σC' σM' : bS) : Prop := ∃ f p, CD s f p σC' ∧ MF f p σM' ∧ frQq σC σC' ∧ frJ σM σM'
theorem Dd.tr {s : tS} {σC σM σC1 σM1 σC' σM' : bS} (h : Dd s σC1 σM1 σC' σM') (f : frQq σC σC1) (g : frJ σM σM1) : Dd s σC σM σC' σM' := by
  obtain ⟨a, b, c, d, e, e2⟩ := h
  exact ⟨a, b, c, d, f.trans e, g.trans e2⟩
def PK (s : tS) (nx : Nat) (U : Option (Nat × Nat)) (N : nmS) (a m : Nat) (σC σM : bS) : Prop := (CP s nx σC ∧ MP s nx σM) ∧ (σC.1 23 3 = nI a ∧ a ≤ nx ∧ σM.2.1 6 1 = nI m ∧ m ≤ nx) ∧ (okU nx U ∧ UnC s U σC ∧ UnM s U σM) ∧ nmOk N ∧ NmC N σC ∧ NmM N σM
theorem okU.unk {nx : Nat} {U : Option (Nat × Nat)} {o : Option Nat} (h : okU nx U) : okU (nx + 1) (unkU U o nx) := by
  unfold unkU
  cases o with
  | none => exact (h.le (by omega)).ntd (by omega) (by omega) (by omega)
  | some x => exact h.le (by omega)
theorem okU.wrg {nx lo hi v : Nat} {U : Option (Nat × Nat)} (h : okU nx U) : okU (nx + 1) (wrgU U lo hi v nx) := by
  unfold wrgU
  split
  · exact (h.le (by omega)).ntd (by omega) (by omega) (by omega)
  · exact h.le (by omega)
theorem okU.twc {nx : Nat} {N : nmS} {w : List Nat} {U : Option (Nat × Nat)} (h : okU nx U) : okU (nx + 1) (twcU U N w nx) := by
  unfold twcU
  split
  · exact (h.le (by omega)).ntd (by omega) (by omega) (by omega)
  · exact h.le (by omega)
theorem frN_k {σ σ' : bS} (h : frN σ σ') (a : Nat) (ha : ¬ (44 ≤ a ∧ a ≤ 47)) : σ'.1 a = σ.1 a ∧ σ'.2.1 a = σ.2.1 a := ⟨(h.1 a ha).1, (h.1 a ha).2.1⟩
theorem k_name {s : tS} {n nx k a m : Nat} {N : nmS} {U : Option (Nat × Nat)} {x y : Int32} {σC σM : bS} (hn : 50 ≤ n) (hT : okT s) (h : PK s nx U N a m σC σM) (h17 : N.length ≤ 17) (hk : k ≤ 2) (hx : x = nI (srt k)) (hy : y = nI k) : (tkF s 2 nx = 0 ∧ ∃ σC' σM', cReader_takeName n x σC = some (oI (fndN N (twd s nx) k), σC') ∧ m_takesName n y σM = some (1, σM') ∧ PK s (nx + 1) (unkU U (fndN N (twd s nx) k) nx) N a m σC' σM' ∧ σM'.1 0 35 = oI (fndN N (twd s nx) k) ∧ frN σC σC' ∧ frV σM σM') ∨ (∃ σC' σM', cReader_takeName n x σC = some (-1, σC') ∧ m_takesName n y σM = some (0, σM') ∧ Dd s σC σM σC' σM') := by
  obtain ⟨⟨hC, hM⟩, ⟨ha1, ha2, hm1, hm2⟩, ⟨hU, hUC, hUM⟩, hN, hNC, hNM⟩ := h
  have nx4 := hC.1.2.2.1
  rw [hx, hy]
  rcases c_nameE (n := n) (k := k) hn hT hC hN h17 hNC hU hUC hk ha1 (by omega) with ⟨t0, σ1, t1, t2, t3, t4, t5⟩ | ⟨t0, σ1, t1, t2, t3⟩
  · rcases m_nameE (n := n) (k := k) hn hT hM hN h17 hNM hU hUM hk with ⟨u0, σ2, u1, u2, u3, u4, u5, u6⟩ | ⟨u0, -⟩
    · refine Or.inl ⟨t0, σ1, σ2, t1, u1, ⟨⟨t2, u2⟩, ⟨?_, by omega, ?_, by omega⟩, ⟨hU.unk, t4, u4⟩, hN, t3, u3⟩, u5, t5, u6⟩
      · rw [(frN_k t5 23 (by omega)).1]; exact ha1
      · rw [u6.1]; exact hm1
    · exact absurd t0 u0
  · rcases m_nameE (n := n) (k := k) hn hT hM hN h17 hNM hU hUM hk with ⟨u0, -⟩ | ⟨u0, σ2, u1, u2, u3⟩
    · exact absurd u0 t0
    · exact Or.inr ⟨σ1, σ2, t1, u1, _, _, t2, u2, frQq.ofZ t3, frJ.ofV u3⟩
theorem k_new {s : tS} {n nx k nu a m : Nat} {N : nmS} {U : Option (Nat × Nat)} {x y x2 y2 : Int32} {σC σM : bS} (hn : 50 ≤ n) (hT : okT s) (h : PK s nx U N a m σC σM) (h17 : N.length < 17) (hk : k ≤ 2) (hnu : nu < 20) (hx : x = nI (srt k)) (hy : y = nI nu) (hx2 : x2 = nI k) (hy2 : y2 = nI nu) : (tkF s 2 nx = 0 ∧ ∃ σC' σM', cReader_takeNewName n x y σC = some σC' ∧ m_names n x2 y2 σM = some (1, σM') ∧ PK s (nx + 1) (twcU U N (twd s nx) nx) (N ++ [(twd s nx, k, nu)]) a m σC' σM' ∧ frN σC σC' ∧ frW σM σM') ∨ (∃ σC' σM', cReader_takeNewName n x y σC = some σC' ∧ m_names n x2 y2 σM = some (0, σM') ∧ Dd s σC σM σC' σM') := by
  obtain ⟨⟨hC, hM⟩, ⟨ha1, ha2, hm1, hm2⟩, ⟨hU, hUC, hUM⟩, hN, hNC, hNM⟩ := h
  have nx4 := hC.1.2.2.1
  rw [hx, hy, hx2, hy2]
  rcases c_newE (n := n) (k := k) (nu := nu) hn hT hC hN h17 hNC hU hUC ha1 (by omega) with ⟨t0, σ1, t1, t2, t3, t4, t5⟩ | ⟨t0, σ1, t1, t2, t3⟩
  · rcases m_newE (n := n) (k := k) (nu := nu) hn hT hM hN h17 hNM hU hUM with ⟨u0, σ2, u1, u2, u3, u4, u6⟩ | ⟨u0, -⟩
    · obtain ⟨z, _⟩ := tkF_0 t0
      have ow := hT.2.2.2.2.2.1 nx z
      refine Or.inl ⟨t0, σ1, σ2, t1, u1, ⟨⟨t2, u2⟩, ⟨?_, by omega, ?_, by omega⟩, ⟨hU.twc, t4, u4⟩, fun i hi => ?_, t3, u3⟩, t5, u6⟩
      · rw [(frN_k t5 23 (by omega)).1]; exact ha1
      · rw [u6.1 6 (by decide)]; exact hm1
      · rw [List.length_append, List.length_singleton] at hi
        rw [List.getD_eq_getElem?_getD]
        by_cases w : i < N.length
        · rw [List.getElem?_append_left w, ← List.getD_eq_getElem?_getD]
          exact hN i w
        · rw [List.getElem?_append_right (by omega), show i - N.length = 0 by omega]
          exact ⟨ow.1, ow.2, hk, hnu⟩
    · exact absurd t0 u0
  · rcases m_newE (n := n) (k := k) (nu := nu) hn hT hM hN h17 hNM hU hUM with ⟨u0, -⟩ | ⟨u0, σ2, u1, u2, u3⟩
    · exact absurd u0 t0
    · exact Or.inr ⟨σ1, σ2, t1, u1, _, _, t2, u2, frQq.ofZ t3, frJ.ofW u3⟩
theorem k_int {s : tS} {n nx lo hi a m : Nat} {N : nmS} {U : Option (Nat × Nat)} {x y : Int32} {σC σM : bS} (hT : okT s) (h : PK s nx U N a m σC σM) (hx : x = nI lo) (hy : y = nI hi) (hlo : lo ≤ 9999) (hhi : hi ≤ 9999) : (tkF s 3 nx = 0 ∧ ∃ σC' σM', cReader_takeInt n x y σC = some (nI (tvl s nx), σC') ∧ m_takesInt n x y σM = some (1, σM') ∧ PK s (nx + 1) (wrgU U lo hi (tvl s nx) nx) N a m σC' σM' ∧ σM'.1 0 35 = nI (tvl s nx) ∧ frN σC σC' ∧ frV σM σM') ∨ (∃ σC' σM', cReader_takeInt n x y σC = some (nI lo, σC') ∧ m_takesInt n x y σM = some (0, σM') ∧ Dd s σC σM σC' σM') := by
  obtain ⟨⟨hC, hM⟩, ⟨ha1, ha2, hm1, hm2⟩, ⟨hU, hUC, hUM⟩, hN, hNC, hNM⟩ := h
  have nx4 := hC.1.2.2.1
  rcases c_intE (n := n) hT hC hx hy hlo hhi hU hUC ha1 (by omega) with ⟨t0, σ1, t1, t2, t3, t4, t5, t6⟩ | ⟨t0, σ1, t1, t2, t3⟩
  · rcases m_intE (n := n) hT hM hx hy hlo hhi hU hUM with ⟨u0, σ2, u1, u2, u3, u4, u6⟩ | ⟨u0, -⟩
    · refine Or.inl ⟨t0, σ1, σ2, t1, u1, ⟨⟨t2, u2⟩, ⟨?_, by omega, ?_, by omega⟩, ⟨hU.wrg, t3, u3⟩, hN, hNC.of t5 t6, hNM.of u6.1 (u6.2 31 (by decide))⟩, u4, t4, u6⟩
      · rw [(frN_k t4 23 (by omega)).1]; exact ha1
      · rw [u6.1]; exact hm1
    · exact absurd t0 u0
  · rcases m_intE (n := n) hT hM hx hy hlo hhi hU hUM with ⟨u0, -⟩ | ⟨u0, σ2, u1, u2, u3⟩
    · exact absurd u0 t0
    · exact Or.inr ⟨σ1, σ2, t1, u1, _, _, t2, u2, frQq.ofZ t3, frJ.ofV u3⟩
/-- a TOKEN is passed on both sides -/
theorem PK.pass {s : tS} {nx a m : Nat} {N : nmS} {U : Option (Nat × Nat)} {σC σM : bS} (h : PK s nx U N a m σC σM) (h1 : CP s (nx + 1) (uI σC 44 4 (nI (nx + 1)))) (h2 : MP s (nx + 1) (uI σM 0 7 (nI (nx + 1)))) : PK s (nx + 1) U N a m (uI σC 44 4 (nI (nx + 1))) (uI σM 0 7 (nI (nx + 1))) := by
  obtain ⟨⟨hC, hM⟩, ⟨ha1, ha2, hm1, hm2⟩, ⟨hU, hUC, hUM⟩, hN, hNC, hNM⟩ := h
  refine ⟨⟨h1, h2⟩, ⟨?_, by omega, hm1, by omega⟩, ⟨hU.le (by omega), hUC.of ?_ ?_, hUM.of ?_ ?_⟩, hN, hNC.of rfl ?_, hNM.of rfl ?_⟩
  all_goals first | (rw [uI_1, if_neg (by decide)]; done) | (rw [uI_1, if_neg (by decide)]; assumption)
/-- the ; behind a statement -/
theorem k_semi {s : tS} {n nx a m : Nat} {N : nmS} {U : Option (Nat × Nat)} {σC σM : bS} (hT : okT s) (h : PK s nx U N a m σC σM) : (tkF s 4 nx = 0 ∧ cReader_take n ci_4 σC = some (uI σC 44 4 (nI (nx + 1))) ∧ m_takesSign n cb_59 σM = some (1, uI σM 0 7 (nI (nx + 1))) ∧ PK s (nx + 1) U N a m (uI σC 44 4 (nI (nx + 1))) (uI σM 0 7 (nI (nx + 1)))) ∨ (∃ σC' σM', cReader_take n ci_4 σC = some σC' ∧ m_takesSign n cb_59 σM = some (0, σM') ∧ Dd s σC σM σC' σM') := by
  have h0 := h
  obtain ⟨⟨hC, hM⟩, ⟨ha1, ha2, hm1, hm2⟩, -⟩ := h
  have nx4 := hC.1.2.2.1
  rcases c_tkF (n := n) (x := ci_4) (k := 4) hT ci_4_n (by omega) (by omega) hC ha1 (by omega) with ⟨t0, t1, t2⟩ | ⟨t0, σ1, t1, t2, t3⟩
  · rcases m_tkS (n := n) (x := cb_59) (k := 4) hT hM (by decide) (by omega) (by omega) with ⟨u0, u1, u2⟩ | ⟨u0, -⟩
    · exact Or.inl ⟨t0, t1, u1, h0.pass t2 u2⟩
    · exact absurd t0 u0
  · rcases m_tkS (n := n) (x := cb_59) (k := 4) hT hM (by decide) (by omega) (by omega) with ⟨u0, -⟩ | ⟨u0, σ2, u1, u2, u3, u4⟩
    · exact absurd u0 t0
    · exact Or.inr ⟨σ1, σ2, t1, u1, _, _, t2, u2, frQq.ofZ t3, frJ.ofV (frV.ofE u3 u4)⟩
/-- the first word of a statement that has no most -/
theorem k_word {s : tS} {n nx k a m : Nat} {N : nmS} {U : Option (Nat × Nat)} {x : Int32} {σC σM : bS} (hT : okT s) (h : PK s nx U N a m σC σM) (hx : x = nI k) (hk : tkd s nx = k) (hk13 : 13 ≤ k) : (nx < 400 ∧ cReader_take n x σC = some (uI σC 44 4 (nI (nx + 1))) ∧ m_pass n σM = some (1, uI σM 0 7 (nI (nx + 1))) ∧ PK s (nx + 1) U N a m (uI σC 44 4 (nI (nx + 1))) (uI σM 0 7 (nI (nx + 1)))) ∨ (∃ σC' σM', cReader_take n x σC = some σC' ∧ m_pass n σM = some (0, σM') ∧ Dd s σC σM σC' σM') := by
  have h0 := h
  obtain ⟨⟨hC, hM⟩, ⟨ha1, ha2, hm1, hm2⟩, -⟩ := h
  have nx4 := hC.1.2.2.1
  have k36 := hT.1 nx
  rcases c_tkF (n := n) (x := x) (k := k) hT hx (by omega) (by omega) hC ha1 (by omega) with ⟨t0, t1, t2⟩ | ⟨t0, σ1, t1, t2, t3⟩
  · rcases m_pass_eq (n := n) hT hM (by omega) with ⟨u0, u1, u2⟩ | ⟨u0, -⟩
    · exact Or.inl ⟨u0, t1, u2, h0.pass t2 u1⟩
    · exact absurd (tkF_0 t0).2 u0
  · have e : tkF s k nx = 2 ∧ ¬ nx < 400 := by
      unfold tkF at t0 ⊢
      rw [if_pos hk] at t0 ⊢
      by_cases w : nx < 400
      · rw [if_pos w] at t0
        exact absurd rfl t0
      · rw [if_neg w]
        exact ⟨rfl, w⟩
    rcases m_pass_eq (n := n) hT hM (by omega) with ⟨u0, -⟩ | ⟨u0, σ2, u1, u2, u3, u4⟩
    · exact absurd u0 e.2
    · rw [e.1] at t2
      exact Or.inr ⟨σ1, σ2, t1, u1, _, _, t2, u2, frQq.ofZ t3, frJ.ofV (frV.ofE u3 u4)⟩
