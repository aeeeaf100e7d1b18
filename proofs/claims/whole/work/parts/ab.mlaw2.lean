/-! the reference's LAW, whole -/
def SegM (l j : Nat) (C : codes) (mx : Nat) (σ : bS) : Prop := ∃ m0, m0 + C.length ≤ mx ∧ σ.2.1 10 (196 + 14 * l + j) = nI m0 ∧ σ.2.1 11 (196 + 14 * l + j) = nI (m0 + C.length) ∧ AtM m0 C σ
theorem SegM.keep {l j mx mx' : Nat} {C : codes} {σ σ' : bS} (h : SegM l j C mx σ) (f : frB mx σ σ') (k : σ'.2.1 10 (196 + 14 * l + j) = σ.2.1 10 (196 + 14 * l + j) ∧ σ'.2.1 11 (196 + 14 * l + j) = σ.2.1 11 (196 + 14 * l + j)) (le : mx ≤ mx') : SegM l j C mx' σ' := by
  obtain ⟨m0, a, b, c, d⟩ := h
  refine ⟨m0, by omega, k.1.trans b, k.2.trans c, fun i hi => ?_⟩
  rw [(f (500 + m0 + i) (by omega)).1, (f (500 + m0 + i) (by omega)).2]
  exact d i hi
abbrev d3 : codes × codes × codes := ([], [], [])
def accM (l : Nat) (acc : List (codes × codes × codes)) (mx : Nat) (σ : bS) : Prop := ∀ i, i < acc.length → SegM l (3 * i) (acc.getD i d3).1 mx σ ∧ SegM l (3 * i + 1) (acc.getD i d3).2.1 mx σ ∧ SegM l (3 * i + 2) (acc.getD i d3).2.2 mx σ
theorem accM.keep {l j mx mx' : Nat} {o : Option Nat} {acc : List (codes × codes × codes)} {σ σ' : bS} (h : accM l acc mx σ) (f : frB mx σ σ') (k : kpS o j σ σ') (hj : 3 * acc.length ≤ j) (hj2 : j < 14) (le : mx ≤ mx') : accM l acc mx' σ' := fun i hi => by
  obtain ⟨a, b, c⟩ := h i hi
  have q : ∀ x, x < j → σ'.2.1 10 (196 + 14 * l + x) = σ.2.1 10 (196 + 14 * l + x) ∧ σ'.2.1 11 (196 + 14 * l + x) = σ.2.1 11 (196 + 14 * l + x) := fun x hx => k _ (fun l' _ => by omega)
  exact ⟨a.keep f (q _ (by omega)) le, b.keep f (q _ (by omega)) le, c.keep f (q _ (by omega)) le⟩
theorem frB.le {m m' : Nat} {σ σ' : bS} (h : frB m' σ σ') (le : m ≤ m') : frB m σ σ' := fun i hi => h i (by omega)
def kpL (o : Option Nat) (σ σ' : bS) : Prop := (∀ i, (∀ l, o = some l → ¬ (196 + 14 * l ≤ i ∧ i < 196 + 14 * l + 14)) → σ'.2.1 10 i = σ.2.1 10 i ∧ σ'.2.1 11 i = σ.2.1 11 i) ∧ ∀ i, (∀ l, o = some l → ¬ i = 14 + l) → σ'.2.1 9 i = σ.2.1 9 i
theorem kpL.rf {o : Option Nat} {σ : bS} : kpL o σ σ := ⟨fun _ _ => ⟨rfl, rfl⟩, fun _ _ => rfl⟩
theorem kpL.trans {o : Option Nat} {σ σ1 σ2 : bS} (h : kpL o σ σ1) (g : kpL o σ1 σ2) : kpL o σ σ2 := ⟨fun i hi => ⟨(g.1 i hi).1.trans (h.1 i hi).1, (g.1 i hi).2.trans (h.1 i hi).2⟩, fun i hi => (g.2 i hi).trans (h.2 i hi)⟩
theorem kpL.of2 {o : Option Nat} {σ σ' : bS} (h : σ'.2 = σ.2) : kpL o σ σ' := ⟨fun i _ => by rw [h]; exact ⟨rfl, rfl⟩, fun i _ => by rw [h]⟩
theorem kpL.ofS {o : Option Nat} {j : Nat} {σ σ' : bS} (h : kpS o j σ σ') (h9 : σ'.2.1 9 = σ.2.1 9) (hj : j < 14) : kpL o σ σ' := ⟨fun i hi => h i (fun l hl u => hi l hl (by omega)), fun i _ => by rw [h9]⟩
theorem kpS.of2 {o : Option Nat} {j : Nat} {σ σ' : bS} (h : σ'.2 = σ.2) : kpS o j σ σ' := fun i _ => by rw [h]; exact ⟨rfl, rfl⟩
/-- a part of a LAW is told -/
theorem m_sumF {s : tS} {n m nx j : Nat} {o : Option Nat} {x y : Int32} {σ : bS} (hn : 500 ≤ n) (hT : okT s) (hP : MP s nx σ) (h6 : σ.2.1 6 1 = nI m) (hm : m ≤ nx) (hx : x = lwI o) (hy : y = nI j) (ho : ∀ l, o = some l → l < 14) (hj : j < 14) : ∃ v σ', m_sumOf n x y σ = some (v, σ') ∧ frL σ σ' ∧ frB m σ σ' ∧ kpS o j σ σ' ∧ σ'.2.1 9 = σ.2.1 9 ∧ ((∃ f p, smA s nx = .inl (f, p) ∧ v = 0 ∧ MF f (tpl s p) σ') ∨ (∃ nx' C, smA s nx = .inr (nx', C) ∧ v = 1 ∧ MP s nx' σ' ∧ σ'.2.1 6 1 = nI (m + C.length) ∧ m + C.length ≤ nx' ∧ ∀ l, o = some l → SegM l j C (m + C.length) σ')) := by
  obtain ⟨v, σ', a1, a2, a3, a4, a5, a6, a7⟩ := m_sumE (n := n) hn hT hP h6 hm hx hy ho hj
  refine ⟨v, σ', a1, a2, a3, a4, a5, ?_⟩
  cases h : smA s nx with
  | inl q =>
    obtain ⟨f, p⟩ := q
    rw [h] at a6
    exact Or.inl ⟨f, p, rfl, a6.1, a6.2⟩
  | inr q =>
    obtain ⟨nx', C⟩ := q
    rw [h] at a6
    obtain ⟨b1, b2, b3, b4, b5⟩ := a6
    refine Or.inr ⟨nx', C, rfl, b1, b2, b3, b5, fun l hl => ?_⟩
    obtain ⟨e, c1, c2, c3⟩ := a7 b1 l hl
    exact ⟨m, Nat.le_refl _, c1, by rw [c2, ← c3, b3], b4⟩
def LOut (s : tS) (o : Option Nat) (m : Nat) (r : (Nat × Nat) ⊕ (Nat × lwS)) (v : Int32) (σ : bS) : Prop := match r with
  | .inl (f, p) => v = 0 ∧ MF f (tpl s p) σ
  | .inr (nx, ifs, E) => v = 1 ∧ MP s nx σ ∧ ifs.length ≤ 4 ∧ ∃ m', m ≤ m' ∧ σ.2.1 6 1 = nI m' ∧ m' ≤ nx ∧ ∀ l, o = some l → accM l ifs m' σ ∧ SegM l (3 * ifs.length) E m' σ ∧ σ.2.1 9 (14 + l) = nI ifs.length
theorem LOut.le {s : tS} {o : Option Nat} {m m' : Nat} {r : (Nat × Nat) ⊕ (Nat × lwS)} {v : Int32} {σ : bS} (h : LOut s o m' r v σ) (le : m ≤ m') : LOut s o m r v σ := by
  unfold LOut at h ⊢
  cases r with
  | inl q => exact h
  | inr q =>
    obtain ⟨a, b, c, m2, d, e⟩ := h
    exact ⟨a, b, c, m2, by omega, e⟩
theorem getD_app3 {acc : List (codes × codes × codes)} {x : codes × codes × codes} {i : Nat} (h : i < acc.length) : (acc ++ [x]).getD i d3 = acc.getD i d3 := by
  rw [List.getD_eq_getElem?_getD, List.getD_eq_getElem?_getD, List.getElem?_append_left h]
theorem getD_last3 {acc : List (codes × codes × codes)} {x : codes × codes × codes} : (acc ++ [x]).getD acc.length d3 = x := by
  rw [List.getD_eq_getElem?_getD, List.getElem?_append_right (Nat.le_refl _), Nat.sub_self]
  rfl
theorem m_law_l {s : tS} {n : Nat} {o : Option Nat} {x : Int32} (hn : 500 ≤ n) (hT : okT s) (hx : x = lwI o) (ho : ∀ l, o = some l → l < 14) : ∀ (k fuel j nx m : Nat) (acc : List (codes × codes × codes)) (σ : bS), j + k = 5 → j ≤ 4 → j = acc.length → MP s nx σ → σ.2.1 6 1 = nI m → m ≤ nx → (∀ l, o = some l → accM l acc m σ) → k < fuel → ∃ v σ', m_lawTold_b13 n fuel x (nI j) σ = some (v, σ') ∧ frL σ σ' ∧ frB m σ σ' ∧ kpL o σ σ' ∧ LOut s o m (lawA s k j nx acc) v σ' := by
  intro k
  induction k with
  | zero =>
    intro fuel j nx m acc σ hk hj4 hj hP h6 hm hA hf
    omega
  | succ k ih =>
    intro fuel j nx m acc σ hk hj4 hj hP h6 hm hA hf
    obtain ⟨fuel, rfl⟩ : ∃ f', fuel = f' + 1 := ⟨fuel - 1, by omega⟩
    have k36 := hT.1 nx
    have nx4 := hP.2.2.1
    have hxn : x < 0 ↔ o = none := by
      rw [hx]
      cases o with
      | none => exact ⟨fun _ => rfl, fun _ => by decide⟩
      | some l => exact ⟨fun u => absurd u (nI_pos (by have := ho l rfl; omega)), fun u => by cases u⟩
    have e3 : ci_3 * nI j = nI (3 * j) := by rw [show ci_3 = nI 3 by decide, nI_mul]
    rw [m_lawTold_b13, show cb_13 = nI 13 by decide, m_isWd 13 hT hP (by omega), ob_def, lawA, e3]
    by_cases z : tkd s nx = 26
    · rw [if_pos (show tkd s nx = 13 + 13 from z), if_pos z]
      simp only [if_neg one_ne]
      rw [ci_4_n]
      by_cases y : j = 4
      · obtain ⟨σ', a1, a2, a3, a4⟩ := m_wrong_eq (n := n) (x := ci_2) (f := 2) (by decide) hP
        rw [if_pos (by rw [y]), a1, ob_def, if_pos y]
        exact ⟨0, σ', rfl, frL.ofE a3, frB.of2 a4, kpL.of2 a4, rfl, a2⟩
      · rw [if_neg (fun u => y ((nI_eqI (by omega) (by decide)).mp u)), if_neg y]
        rcases m_pass_eq (n := n) hT hP (by omega) with ⟨w, p1, p2⟩ | ⟨w, σ3, p1, p2, p3, p4⟩
        · rw [p2, ob_def, if_neg one_ne, if_pos w]
          obtain ⟨v1, σ1, a1, a2, a3, a4, a5, a6⟩ := m_sumF (s := s) (n := n) (m := m) (nx := nx + 1) (j := 3 * j) (o := o) (x := x) (y := nI (3 * j)) (σ := uI σ 0 7 (nI (nx + 1))) hn hT p1 h6 (by omega) hx rfl ho (by omega)
          have fr1 : frL σ σ1 := (frL.ofE (frE.uI (by decide))).trans a2
          have fb1 : frB m σ σ1 := (frB.of2 rfl).trans a3
          have kl1 : kpL o σ σ1 := (kpL.of2 rfl).trans (kpL.ofS a4 a5 (by omega))
          show ∃ v σ', (ob (m_sumOf n x (nI (3 * j)) (uI σ 0 7 (nI (nx + 1)))) fun q5 => _) = some (v, σ') ∧ _
          rw [a1, ob_def]
          rcases a6 with ⟨f, p, b1, rfl, b2⟩ | ⟨n1, A, b1, rfl, b2, b3, b4, b5⟩
          · rw [if_pos rfl, b1, m_lawTold_b51]
            exact ⟨0, σ1, rfl, fr1, fb1, kl1, rfl, b2⟩
          · rw [if_neg one_ne, b1]
            have hA1 : ∀ l, o = some l → accM l acc (m + A.length) σ1 := fun l hl => (hA l hl).keep fb1 (show kpS o (3 * j) σ σ1 from a4) (by omega) (by omega) (by omega)
            show ∃ v σ', (ob (m_takesSign n cb_60 σ1) fun q6 => _) = some (v, σ') ∧ _
            rcases m_tkS (n := n) (x := cb_60) (k := 10) hT b2 (by decide) (by omega) (by omega) with ⟨t0, t1, t2⟩ | ⟨t0, σ', t1, t2, t3, t4⟩
            · rw [t1, ob_def, if_neg one_ne]
              obtain ⟨v2, σ2, c1, c2, c3, c4, c5, c6⟩ := m_sumF (s := s) (n := n) (m := m + A.length) (nx := n1 + 1) (j := 3 * j + 1) (o := o) (x := x) (y := nI (3 * j) + ci_1) (σ := uI σ1 0 7 (nI (n1 + 1))) hn hT t2 b3 (by omega) hx (by rw [nI_s]) ho (by omega)
              have fr2 : frL σ σ2 := (fr1.trans (frL.ofE (frE.uI (by decide)))).trans c2
              have fb2 : frB m σ σ2 := (fb1.trans (frB.of2 rfl)).trans (c3.le (by omega))
              have kl2 : kpL o σ σ2 := (kl1.trans (kpL.of2 rfl)).trans (kpL.ofS c4 c5 (by omega))
              show ∃ v σ', (ob (m_sumOf n x (nI (3 * j) + ci_1) (uI σ1 0 7 (nI (n1 + 1)))) fun q7 => _) = some (v, σ') ∧ _
              rw [c1, ob_def]
              rcases c6 with ⟨f, p, g1, rfl, g2⟩ | ⟨n2, B, g1, rfl, g2, g3, g4, g5⟩
              · rw [if_pos rfl, m_lawTold_b75]
                refine ⟨0, σ2, rfl, fr2, fb2, kl2, ?_⟩
                show LOut s o m (if ¬ tkF s 10 n1 = 0 then .inl (tkF s 10 n1, n1) else _) 0 σ2
                rw [if_neg (fun u => u t0), g1]
                exact ⟨rfl, g2⟩
              · rw [if_neg one_ne]
                have hA2 : ∀ l, o = some l → accM l acc (m + A.length + B.length) σ2 := fun l hl => (hA1 l hl).keep (σ' := σ2) ((frB.of2 rfl : frB _ σ1 (uI σ1 0 7 (nI (n1 + 1)))).trans c3) (show kpS o (3 * j + 1) σ1 σ2 from c4) (by omega) (by omega) (by omega)
                have sA2 : ∀ l, o = some l → SegM l (3 * j) A (m + A.length + B.length) σ2 := fun l hl => (b5 l hl).keep (σ' := σ2) ((frB.of2 rfl : frB _ σ1 (uI σ1 0 7 (nI (n1 + 1)))).trans c3) (c4 _ (fun l' _ => by omega)) (by omega)
                show ∃ v σ', (ob (m_takesWord n cb_14 σ2) fun q8 => _) = some (v, σ') ∧ _
                rcases m_tkW (n := n) (x := cb_14) (k := 14) hT g2 (by decide) (by omega) with ⟨u0, u1, u2⟩ | ⟨u0, σ', u1, u2, u3, u4⟩
                · rw [u1, ob_def, if_neg one_ne]
                  obtain ⟨v3, σ3, d1, d2, d3', d4, d5, d6⟩ := m_sumF (s := s) (n := n) (m := m + A.length + B.length) (nx := n2 + 1) (j := 3 * j + 2) (o := o) (x := x) (y := nI (3 * j) + ci_2) (σ := uI σ2 0 7 (nI (n2 + 1))) hn hT u2 g3 (by omega) hx (by rw [show ci_2 = nI 2 by decide, nI_add]) ho (by omega)
                  have fr3 : frL σ σ3 := (fr2.trans (frL.ofE (frE.uI (by decide)))).trans d2
                  have fb3 : frB m σ σ3 := (fb2.trans (frB.of2 rfl)).trans (d3'.le (by omega))
                  have kl3 : kpL o σ σ3 := (kl2.trans (kpL.of2 rfl)).trans (kpL.ofS d4 d5 (by omega))
                  show ∃ v σ', (ob (m_sumOf n x (nI (3 * j) + ci_2) (uI σ2 0 7 (nI (n2 + 1)))) fun q9 => _) = some (v, σ') ∧ _
                  rw [d1, ob_def]
                  rcases d6 with ⟨f, p, h1, rfl, h2⟩ | ⟨n3, D, h1, rfl, h2, h3, h4, h5⟩
                  · rw [if_pos rfl, m_lawTold_b99]
                    refine ⟨0, σ3, rfl, fr3, fb3, kl3, ?_⟩
                    show LOut s o m (if ¬ tkF s 10 n1 = 0 then .inl (tkF s 10 n1, n1) else _) 0 σ3
                    rw [if_neg (fun u => u t0), g1]
                    show LOut s o m (if ¬ tkF s 27 n2 = 0 then .inl (tkF s 27 n2, n2) else _) 0 σ3
                    rw [if_neg (fun u => u u0), h1]
                    exact ⟨rfl, h2⟩
                  · rw [if_neg one_ne]
                    have fc : frB (m + A.length + B.length) σ2 σ3 := (frB.of2 rfl : frB _ σ2 (uI σ2 0 7 (nI (n2 + 1)))).trans d3'
                    have hA3 : ∀ l, o = some l → accM l acc (m + A.length + B.length + D.length) σ3 := fun l hl => (hA2 l hl).keep fc (show kpS o (3 * j + 2) σ2 σ3 from d4) (by omega) (by omega) (by omega)
                    have sA3 : ∀ l, o = some l → SegM l (3 * j) A (m + A.length + B.length + D.length) σ3 := fun l hl => (sA2 l hl).keep fc (d4 _ (fun l' _ => by omega)) (by omega)
                    have sB3 : ∀ l, o = some l → SegM l (3 * j + 1) B (m + A.length + B.length + D.length) σ3 := fun l hl => (g5 l hl).keep fc (d4 _ (fun l' _ => by omega)) (by omega)
                    show ∃ v σ', (ob (m_takesWord n cb_15 σ3) fun q10 => _) = some (v, σ') ∧ _
                    rcases m_tkW (n := n) (x := cb_15) (k := 15) hT h2 (by decide) (by omega) with ⟨w0, w1, w2⟩ | ⟨w0, σ', w1, w2, w3, w4⟩
                    · rw [w1, ob_def, if_neg one_ne, nI_s]
                      have hA4 : ∀ l, o = some l → accM l (acc ++ [(A, B, D)]) (m + A.length + B.length + D.length) (uI σ3 0 7 (nI (n3 + 1))) := fun l hl i hi => by
                        rw [List.length_append, List.length_singleton] at hi
                        by_cases e : i = acc.length
                        · subst e
                          rw [getD_last3, ← hj]
                          exact ⟨sA3 l hl, sB3 l hl, h5 l hl⟩
                        · rw [getD_app3 (by omega)]
                          exact hA3 l hl i (by omega)
                      obtain ⟨v, σ4, i1, i2, i3, i4, i5⟩ := ih fuel (j + 1) (n3 + 1) (m + A.length + B.length + D.length) (acc ++ [(A, B, D)]) (uI σ3 0 7 (nI (n3 + 1))) (by omega) (by omega) (by rw [List.length_append, List.length_singleton]; omega) w2 h3 (by omega) hA4 (by omega)
                      refine ⟨v, σ4, i1, (fr3.trans (frL.ofE (frE.uI (by decide)))).trans i2, (fb3.trans (frB.of2 rfl)).trans (i3.le (by omega)), (kl3.trans (kpL.of2 rfl)).trans i4, ?_⟩
                      show LOut s o m (if ¬ tkF s 10 n1 = 0 then .inl (tkF s 10 n1, n1) else _) v σ4
                      rw [if_neg (fun u => u t0), g1]
                      show LOut s o m (if ¬ tkF s 27 n2 = 0 then .inl (tkF s 27 n2, n2) else _) v σ4
                      rw [if_neg (fun u => u u0), h1]
                      show LOut s o m (if ¬ tkF s 28 n3 = 0 then .inl (tkF s 28 n3, n3) else _) v σ4
                      rw [if_neg (fun u => u w0)]
                      exact i5.le (by omega)
                    · rw [w1, ob_def, if_pos rfl]
                      refine ⟨0, σ', rfl, fr3.trans (frL.ofE w3), fb3.trans (frB.of2 w4), kl3.trans (kpL.of2 w4), ?_⟩
                      show LOut s o m (if ¬ tkF s 10 n1 = 0 then .inl (tkF s 10 n1, n1) else _) 0 σ'
                      rw [if_neg (fun u => u t0), g1]
                      show LOut s o m (if ¬ tkF s 27 n2 = 0 then .inl (tkF s 27 n2, n2) else _) 0 σ'
                      rw [if_neg (fun u => u u0), h1]
                      show LOut s o m (if ¬ tkF s 28 n3 = 0 then .inl (tkF s 28 n3, n3) else _) 0 σ'
                      rw [if_pos w0]
                      exact ⟨rfl, w2⟩
                · rw [u1, ob_def, if_pos rfl, m_lawTold_b99]
                  refine ⟨0, σ', rfl, fr2.trans (frL.ofE u3), fb2.trans (frB.of2 u4), kl2.trans (kpL.of2 u4), ?_⟩
                  show LOut s o m (if ¬ tkF s 10 n1 = 0 then .inl (tkF s 10 n1, n1) else _) 0 σ'
                  rw [if_neg (fun u => u t0), g1]
                  show LOut s o m (if ¬ tkF s 27 n2 = 0 then .inl (tkF s 27 n2, n2) else _) 0 σ'
                  rw [if_pos u0]
                  exact ⟨rfl, u2⟩
            · rw [t1, ob_def, if_pos rfl, m_lawTold_b75]
              refine ⟨0, σ', rfl, fr1.trans (frL.ofE t3), fb1.trans (frB.of2 t4), kl1.trans (kpL.of2 t4), ?_⟩
              show LOut s o m (if ¬ tkF s 10 n1 = 0 then .inl (tkF s 10 n1, n1) else _) 0 σ'
              rw [if_pos t0]
              exact ⟨rfl, t2⟩
        · rw [p1, ob_def, if_pos rfl, if_neg w, m_lawTold_b51]
          exact ⟨0, σ3, rfl, frL.ofE p3, frB.of2 p4, kpL.of2 p4, rfl, p2⟩
    · rw [if_neg (show ¬ tkd s nx = 13 + 13 from z), if_neg z]
      simp only [if_true]
      obtain ⟨v1, σ1, a1, a2, a3, a4, a5, a6⟩ := m_sumF (s := s) (n := n) (m := m) (nx := nx) (j := 3 * j) (o := o) (x := x) (y := nI (3 * j)) (σ := σ) hn hT hP h6 hm hx rfl ho (by omega)
      have kl1 : kpL o σ σ1 := kpL.ofS a4 a5 (by omega)
      rw [a1, ob_def]
      rcases a6 with ⟨f, p, b1, rfl, b2⟩ | ⟨n1, E, b1, rfl, b2, b3, b4, b5⟩
      · rw [if_pos rfl, b1]
        exact ⟨0, σ1, rfl, a2, a3, kl1, rfl, b2⟩
      · rw [if_neg one_ne, b1]
        have hA1 : ∀ l, o = some l → accM l acc (m + E.length) σ1 := fun l hl => (hA l hl).keep a3 a4 (by omega) (by omega) (by omega)
        cases o with
        | none =>
          rw [if_pos (hxn.mpr rfl), m_lawTold_b145]
          exact ⟨1, σ1, rfl, a2, a3, kl1, rfl, b2, by omega, m + E.length, by omega, b3, b4, fun l hl => by cases hl⟩
        | some l =>
          have hl := ho l rfl
          have ei : cb_14 + nI l = nI (14 + l) := by rw [cb_14_n, nI_add]
          rw [if_neg (fun u => by cases hxn.mp u), hx]
          show ∃ v σ', bin_ (cb_14 + nI l) 28 (m_lawTold_b145 n (uA σ1 9 (cb_14 + nI l) (nI j))) = some (v, σ') ∧ _
          rw [ei, bin_nI (by omega) (by decide), m_lawTold_b145]
          have o1 : ∀ b, ¬ b = 9 → (uA σ1 9 (nI (14 + l)) (nI j)).2.1 b = σ1.2.1 b := fun b h1 => by rw [uA_o _ _ _ _ h1]
          have o9 : ∀ i, (uA σ1 9 (nI (14 + l)) (nI j)).2.1 9 i = if i = 14 + l then nI j else σ1.2.1 9 i := fun i => by
            rw [uA_2, nI_clamp (by omega)]
            simp
          have f2 : frL σ1 (uA σ1 9 (nI (14 + l)) (nI j)) := ⟨fun _ _ => rfl, fun b hb => o1 b (fun u => hb (by omega)), rfl, by rw [o1 6 (by decide)]⟩
          have fB2 : frB (m + E.length) σ1 (uA σ1 9 (nI (14 + l)) (nI j)) := fun i _ => by rw [o1 7 (by decide), o1 8 (by decide)]; exact ⟨rfl, rfl⟩
          have k2 : kpS (some l) (3 * j) σ1 (uA σ1 9 (nI (14 + l)) (nI j)) := fun i _ => by rw [o1 10 (by decide), o1 11 (by decide)]; exact ⟨rfl, rfl⟩
          refine ⟨1, _, rfl, a2.trans f2, a3.trans (fB2.le (by omega)), kl1.trans ⟨fun i _ => by rw [o1 10 (by decide), o1 11 (by decide)]; exact ⟨rfl, rfl⟩, fun i hi => by rw [o9, if_neg (hi l rfl)]⟩, rfl, ⟨b2.1.frl f2, b2.2.1, b2.2.2.1, b2.2.2.2⟩, by omega, m + E.length, by omega, by rw [o1 6 (by decide)]; exact b3, b4, fun l' hl' => ?_⟩
          have el : l = l' := Option.some.inj hl'
          subst el
          refine ⟨(hA1 l rfl).keep fB2 k2 (by omega) (by omega) (by omega), ?_, by rw [o9, if_pos rfl, hj]⟩
          rw [← hj]
          exact (b5 l rfl).keep fB2 ⟨by rw [o1 10 (by decide)], by rw [o1 11 (by decide)]⟩ (by omega)
