/-! the reference works out a LAW -/
def AtN (p : Nat) (C : codes) (f g : Nat → Int32) : Prop := ∀ i, i < C.length → f (p + i) = nI (C.getD i (0, 0)).1 ∧ g (p + i) = nI (C.getD i (0, 0)).2
theorem AtN.hd {a : Nat} {q : Nat × Nat} {Y : codes} {f g : Nat → Int32} (h : AtN a (q :: Y) f g) : (f a = nI q.1 ∧ g a = nI q.2) ∧ AtN (a + 1) Y f g := ⟨h 0 (by rw [List.length_cons]; omega), fun i hi => by
  have := h (i + 1) (by rw [List.length_cons]; omega)
  rw [show a + 1 + i = a + (i + 1) by omega]
  exact this⟩
abbrev frD (σ σ' : bS) : Prop := frM (fun k => k = 46) (fun a => a = 32) σ σ'
/-- whether something was divided by 0 -/
def ngt (r : Option (List Int32)) (st' : List Int32) (x y : Int32) : Prop := (match r with
  | none => y = 1
  | some s2 => s2 = st' ∧ y = x) ∧ (x = 1 → y = 1)
theorem ngt.tr {r : Option (List Int32)} {st' : List Int32} {x x1 y : Int32} (h : ngt r st' x1 y) (e : x1 = x) : ngt r st' x y := by
  subst e
  exact h
theorem ngt.no {r : Option (List Int32)} {st' : List Int32} {x y : Int32} (h : ngt r st' 1 y) : ngt none st' x y := ⟨h.2 rfl, fun _ => h.2 rfl⟩
theorem m_ev {n en : Nat} {v : Nat → Int32} : ∀ (C : codes) (st : List Int32) (p k e : Nat) (σ : bS), okCd C → dpt 16 C st.length = some e → st.length ≤ 16 → StI st (σ.2.1 32) → AtN p C (σ.2.1 7) (σ.2.1 8) → p + C.length = en → en ≤ 500 → (∀ j, j < 8 → σ.2.1 31 j = v j) → ∃ σ' st', frD σ σ' ∧ st'.length = e ∧ StI st' (σ'.2.1 32) ∧ ngt (evS v C st) st' (σ.1 0 46) (σ'.1 0 46) ∧ m_sumTold_b28 n (k + C.length) (nI st.length) (nI en) (nI p) σ = m_sumTold_b28 n k (nI e) (nI en) (nI en) σ'
  | [], st, p, k, e, σ, hc, hd, h16, hS, hA, hp, hl4, hv => by
    have hd := Option.some.inj hd
    have hp : p = en := hp
    exact ⟨σ, st, frM.rf, hd, hS, ⟨⟨rfl, rfl⟩, fun u => u⟩, by rw [← hd, hp]; rfl⟩
  | (op, x) :: r, st, p, k, e, σ, hc, hd, h16, hS, hA, hp, hl4, hv => by
    have h1 := hc (op, x) (List.mem_cons_self ..)
    have hc2 : okCd r := fun q hq => hc q (List.mem_cons_of_mem _ hq)
    obtain ⟨⟨hA1, hA3⟩, hA2⟩ := hA.hd
    have h1a : op ≤ 5 := h1.1
    have h1b : x ≤ 9999 := h1.2.1
    have hA1 : σ.2.1 7 p = nI op := hA1
    have hA3 : σ.2.1 8 p = nI x := hA3
    rw [List.length_cons] at hp
    have e7 : sA σ 7 (nI p) = nI op := by rw [sA_n _ _ (by omega)]; exact hA1
    have e8 : sA σ 8 (nI p) = nI x := by rw [sA_n _ _ (by omega)]; exact hA3
    rw [dpt] at hd
    rw [evS, List.length_cons, show k + (r.length + 1) = (k + r.length) + 1 by omega, m_sumTold_b28, if_neg (nI_ge (by omega) (by omega)), bin_nI (by omega) (by decide), e7, e8]
    have step : ∀ (w : Int32) (st2 : List Int32) (σ1 : bS), σ1.2 = σ.2 → σ1.1 0 46 = 1 ∨ σ1 = σ → frD σ σ1 → st2.length < 16 → StI st2 (σ.2.1 32) → dpt 16 r (st2.length + 1) = some e → ∃ σ' st', frD σ σ' ∧ st'.length = e ∧ StI st' (σ'.2.1 32) ∧ ngt (evS v r (w :: st2)) st' (σ1.1 0 46) (σ'.1 0 46) ∧ m_sumTold_b120 n (m_sumTold_b28 n (k + r.length)) (nI (st2.length + 1)) (nI en) (nI p) (uA σ1 32 (nI st2.length) w) = m_sumTold_b28 n k (nI e) (nI en) (nI en) σ' := fun w st2 σ1 h2 _ hf hlt hS2 hd2 => by
      rw [m_sumTold_b120, nI_s]
      have hS3 : StI (w :: st2) ((uA σ1 32 (nI st2.length) w).2.1 32) := StI.push (by rw [h2]; exact hS2) (by omega)
      obtain ⟨σ', st', a1, a2, a3, a4, a5⟩ := m_ev (n := n) (v := v) r (w :: st2) (p + 1) k e (uA σ1 32 (nI st2.length) w) hc2 hd2 (by rw [List.length_cons]; omega) hS3 (by rw [uA_o _ _ _ _ (by decide), uA_o _ _ _ _ (by decide), h2]; exact hA2) (by omega) hl4 (by rw [uA_o _ _ _ _ (by decide), h2]; exact hv)
      exact ⟨σ', st', (hf.trans (frM.uA rfl)).trans a1, a2, a3, a4, a5⟩
    by_cases z : op ≤ 1
    · rw [if_pos z] at hd
      by_cases y : st.length < 16
      · rw [if_pos y] at hd
        rw [if_pos (show nI op ≤ ci_1 from (nI_leI (b := 1) (by omega) (by omega)).mpr z)]
        by_cases w : op = 0
        · rw [if_pos w, if_pos (show nI op = 0 by rw [w]; rfl), bin_nI (by omega) (by decide), m_sumTold_b116, bin_nI (by omega) (by decide), nI_s]
          exact step (nI x) st σ rfl (Or.inr rfl) frM.rf y hS hd
        · have w1 : op = 1 := by omega
          have x8 : x < 8 := h1.2.2 w1
          rw [if_neg w, if_pos w1, if_neg (show ¬ nI op = 0 by rw [w1]; decide), bin_nI (by omega) (by decide), bin_nI (by omega) (by decide), sA_n _ _ (by omega), hv x x8, m_sumTold_b116, bin_nI (by omega) (by decide), nI_s]
          exact step (v x) st σ rfl (Or.inr rfl) frM.rf y hS hd
      · rw [if_neg y] at hd
        cases hd
    · rw [if_neg z] at hd
      by_cases y : 2 ≤ st.length
      · rw [if_pos y] at hd
        rw [if_neg (show ¬ op = 0 by omega), if_neg (show ¬ op = 1 by omega), if_neg (show ¬ nI op ≤ ci_1 from nI_ge (a := 1) (by omega) (by omega))]
        match st, y, h16, hS, hd with
        | b :: a :: st2, y, h16, hS, hd =>
          obtain ⟨s1, s2, s3⟩ := hS
          have s1 : σ.2.1 32 (st2.length + 1) = b := s1
          have s2 : σ.2.1 32 st2.length = a := s2
          rw [List.length_cons, List.length_cons] at h16
          have hd : dpt 16 r (st2.length + 1) = some e := hd
          have em : nI (st2.length + 1 + 1) + ci_m1 = nI (st2.length + 1) := by
            rw [← nI_s (st2.length + 1), Int32.add_assoc, show ci_1 + ci_m1 = 0 by decide, Int32.add_zero]
          rw [List.length_cons, List.length_cons, em, m_sumTold_b53, m_sumTold_b60, nI_m1', m_sumTold_b70, bin_nI (by omega) (by decide), bin_nI (by omega) (by decide), sA_n _ _ (by omega), sA_n _ _ (by omega), s1, s2, opS_2]
          unfold m_joined opv
          by_cases o2 : op = 2
          · rw [if_pos (show nI op = ci_2 by rw [o2]; decide), if_pos o2, ob_def, bin_nI (by omega) (by decide)]
            exact step (a + b) st2 σ rfl (Or.inr rfl) frM.rf (by omega) s3 hd
          · rw [if_neg (show ¬ nI op = ci_2 from fun u => o2 (nI_inj (by omega) (by decide) (u.trans ci_2_n))), if_neg o2]
            by_cases o3 : op = 3
            · rw [if_pos (show nI op = ci_3 by rw [o3]; decide), if_pos o3, m_joined_b17, ob_def, bin_nI (by omega) (by decide)]
              exact step (a - b) st2 σ rfl (Or.inr rfl) frM.rf (by omega) s3 hd
            · rw [if_neg (show ¬ nI op = ci_3 from fun u => o3 (nI_inj (by omega) (by decide) (u.trans ci_3_n))), if_neg o3]
              by_cases o4 : op = 4
              · rw [if_pos (show nI op = ci_4 by rw [o4]; decide), if_pos o4, ob_def, bin_nI (by omega) (by decide)]
                exact step (a * b) st2 σ rfl (Or.inr rfl) frM.rf (by omega) s3 hd
              · rw [if_neg (show ¬ nI op = ci_4 from fun u => o4 (nI_inj (by omega) (by decide) (u.trans ci_4_n))), if_neg o4]
                by_cases b0 : b = 0
                · rw [if_pos b0, if_pos b0, m_joined_b36, if_pos b0, m_joined_b47, ob_def, bin_nI (by omega) (by decide)]
                  obtain ⟨σ', st', a1, a2, a3, a4, a5⟩ := step ci_0 st2 (uI σ 0 46 ci_1) rfl (Or.inl (by rw [uI_1, if_pos ⟨rfl, rfl⟩]; rfl)) (frM.uI rfl) (by omega) s3 hd
                  have e1 : (uI σ 0 46 ci_1).1 0 46 = 1 := by rw [uI_1, if_pos ⟨rfl, rfl⟩]; rfl
                  rw [e1] at a4
                  exact ⟨σ', st', a1, a2, a3, a4.no, a5⟩
                · rw [if_neg b0, if_neg b0, m_joined_b36, if_neg b0, if_neg b0, m_joined_b47, ob_def, bin_nI (by omega) (by decide)]
                  exact step (a / b) st2 σ rfl (Or.inr rfl) frM.rf (by omega) s3 hd
      · rw [if_neg y] at hd
        cases hd
/-- where a part of a LAW lies, as told -/
def SegT (l j : Nat) (C : codes) (σ : bS) : Prop := ∃ m0, m0 + C.length ≤ 500 ∧ σ.2.1 10 (14 * l + j) = nI m0 ∧ σ.2.1 11 (14 * l + j) = nI (m0 + C.length) ∧ AtN m0 C (σ.2.1 7) (σ.2.1 8)
theorem m_sum1 {n l j : Nat} {v : Nat → Int32} {C : codes} {x y : Int32} {σ : bS} (hn : 600 ≤ n) (hx : x = nI l) (hy : y = nI j) (hl : l < 14) (hj : j < 14) (hC : okE C) (hS : SegT l j C σ) (hv : ∀ j, j < 8 → σ.2.1 31 j = v j) : ∃ r σ', m_sumTold n x y σ = some (r, σ') ∧ frD σ σ' ∧ (match evT v C with
    | none => σ'.1 0 46 = 1
    | some z => r = z ∧ σ'.1 0 46 = σ.1 0 46) ∧ (σ.1 0 46 = 1 → σ'.1 0 46 = 1) := by
  obtain ⟨m0, s1, s2, s3, s4⟩ := hS
  have e : cb_14 * x + y = nI (14 * l + j) := by rw [hx, hy, cb_14_n, nI_mul, nI_add]
  unfold m_sumTold
  rw [e, bin_nI (by omega) (by decide), bin_nI (by omega) (by decide), sA_n _ _ (by omega), sA_n _ _ (by omega), s2, s3]
  obtain ⟨k, rfl⟩ : ∃ k, n = k + 1 + C.length := ⟨n - 1 - C.length, by omega⟩
  obtain ⟨σ', st', a1, a2, a3, a4, a5⟩ := m_ev (n := k + 1 + C.length) (v := v) C [] m0 (k + 1) 1 σ hC.1 hC.2.1 (by show 0 ≤ 16; omega) trivial s4 rfl s1 hv
  have a5 : m_sumTold_b28 (k + 1 + C.length) (k + 1 + C.length) ci_0 (nI (m0 + C.length)) (nI m0) σ = m_sumTold_b28 (k + 1 + C.length) (k + 1) (nI 1) (nI (m0 + C.length)) (nI (m0 + C.length)) σ' := a5
  rw [a5, m_sumTold_b28, if_pos (Int32.le_refl _), bin_c0 (by omega) (by decide), sA_c0]
  refine ⟨_, σ', rfl, a1, ?_, a4.2⟩
  rw [evT_1 hC] at a4
  cases q : evT v C with
  | none =>
    rw [q] at a4
    exact a4.1
  | some z =>
    rw [q] at a4
    obtain ⟨b1, b2⟩ := a4.1
    refine ⟨?_, b2⟩
    rw [← b1] at a3
    exact a3.1
theorem frD_seg {l j : Nat} {C : codes} {σ σ' : bS} (h : SegT l j C σ) (f : frD σ σ') : SegT l j C σ' := by
  unfold SegT
  rw [f.2.1 10 (by decide), f.2.1 11 (by decide), f.2.1 7 (by decide), f.2.1 8 (by decide)]
  exact h
def LawT (l : Nat) (q : lwS) (σ : bS) : Prop := q.1.length ≤ 4 ∧ σ.2.1 9 l = nI q.1.length ∧ (∀ i, i < q.1.length → SegT l (3 * i) (q.1.getD i d3).1 σ ∧ SegT l (3 * i + 1) (q.1.getD i d3).2.1 σ ∧ SegT l (3 * i + 2) (q.1.getD i d3).2.2 σ) ∧ SegT l (3 * q.1.length) q.2 σ
theorem LawT.fr {l : Nat} {q : lwS} {σ σ' : bS} (h : LawT l q σ) (f : frD σ σ') : LawT l q σ' := ⟨h.1, by rw [f.2.1 9 (by decide)]; exact h.2.1, fun i hi => ⟨frD_seg (h.2.2.1 i hi).1 f, frD_seg (h.2.2.1 i hi).2.1 f, frD_seg (h.2.2.1 i hi).2.2 f⟩, frD_seg h.2.2.2 f⟩
theorem m_99 {n l j : Nat} {v : Nat → Int32} {C : codes} {x y : Int32} {σ : bS} (hn : 600 ≤ n) (hx : x = nI l) (hy : y = nI j) (hl : l < 14) (hj : j < 14) (hC : okE C) (hS : SegT l j C σ) (hv : ∀ j, j < 8 → σ.2.1 31 j = v j) : ∃ r σ', m_lawOf_b99 n x y σ = some (r, σ') ∧ frD σ σ' ∧ (σ.1 0 46 = 1 → r = 0) ∧ (σ.1 0 46 = 0 → r = (evT v C).getD 0) := by
  obtain ⟨r, σ', a1, a2, a3, a4⟩ := m_sum1 (n := n) hn hx hy hl hj hC hS hv
  unfold m_lawOf_b99
  rw [a1, ob_def]
  by_cases z : σ'.1 0 46 = 0
  · rw [if_pos (show sI σ' 0 46 = 0 from z), m_lawOf_b117]
    refine ⟨r, σ', rfl, a2, fun u => ?_, fun u => ?_⟩
    · have := a4 u
      rw [z] at this
      exact absurd this (by decide)
    · cases q : evT v C with
      | none =>
        rw [q] at a3
        have a3 : σ'.1 0 46 = 1 := a3
        rw [z] at a3
        exact absurd a3 (by decide)
      | some y =>
        rw [q] at a3
        exact a3.1
  · rw [if_neg (show ¬ sI σ' 0 46 = 0 from z), m_lawOf_b117]
    refine ⟨0, σ', rfl, a2, fun u => rfl, fun u => ?_⟩
    cases q : evT v C with
    | none => rfl
    | some y =>
      rw [q] at a3
      exact absurd (a3.2.trans u) z
theorem drop_d3 {ifs : List (codes × codes × codes)} {i : Nat} (h : i < ifs.length) : ifs.drop i = ifs.getD i d3 :: ifs.drop (i + 1) := by
  rw [List.drop_eq_getElem_cons h, List.getD_eq_getElem?_getD, List.getElem?_eq_getElem h]
  rfl
theorem m_lawv {n l : Nat} {v : Nat → Int32} {q : lwS} (hn : 600 ≤ n) (hl : l < 14) (hO : okL q) : ∀ (r i k : Nat) (σ : bS), i + r = q.1.length → r + 2 ≤ k → LawT l q σ → (∀ j, j < 8 → σ.2.1 31 j = v j) → ∃ y σ', m_lawOf_b22 n k (nI l) (nI i) ci_1 σ = some (y, σ') ∧ frD σ σ' ∧ (σ.1 0 46 = 1 → y = 0) ∧ (σ.1 0 46 = 0 → y = (lawV v (q.1.drop i) q.2).getD 0)
  | 0, i, k, σ, hi, hk, hL, hv => by
    obtain ⟨k, rfl⟩ : ∃ k', k = k' + 1 + 1 := ⟨k - 2, by omega⟩
    have e9 : sA σ 9 (nI l) = nI q.1.length := by rw [sA_n _ _ (by omega)]; exact hL.2.1
    have l4 := hL.1
    rw [m_lawOf_b22, if_neg (show ¬ ci_1 = 0 from one_ne), bin_nI (by omega) (by decide), e9, if_pos ((nI_leI (by omega) (by omega)).mpr (by omega)), m_lawOf_b62, m_lawOf_b63, if_pos (show ci_0 = 0 from rfl), m_lawOf_b22, if_pos (show ci_0 = 0 from rfl), bin_nI (by omega) (by decide), e9, if_pos ((nI_leI (by omega) (by omega)).mpr (by omega))]
    have ei : i = q.1.length := by omega
    rw [ei, List.drop_length]
    exact m_99 hn rfl (by rw [ci_3_n, nI_mul]) hl (by omega) hO.2 hL.2.2.2 hv
  | r + 1, i, k, σ, hi, hk, hL, hv => by
    obtain ⟨k, rfl⟩ : ∃ k', k = k' + 1 + 1 := ⟨k - 2, by omega⟩
    have e9 : ∀ σ1, frD σ σ1 → sA σ1 9 (nI l) = nI q.1.length := fun σ1 f => by rw [sA_n _ _ (by omega), f.2.1 9 (by decide)]; exact hL.2.1
    have l4 := hL.1
    obtain ⟨sA1, sB1, sD1⟩ := hL.2.2.1 i (by omega)
    have hm : q.1.getD i d3 ∈ q.1 := by
      rw [List.getD_eq_getElem?_getD, List.getElem?_eq_getElem (show i < q.1.length by omega)]
      exact List.getElem_mem _
    obtain ⟨oA, oB, oD⟩ := hO.1 _ hm
    rw [drop_d3 (show i < q.1.length by omega)]
    generalize q.1.getD i d3 = g at sA1 sB1 sD1 oA oB oD ⊢
    obtain ⟨A, B, D⟩ := g
    rw [m_lawOf_b22, if_neg (show ¬ ci_1 = 0 from one_ne), bin_nI (by omega) (by decide), e9 σ frM.rf, if_neg (nI_ge (by omega) (by omega))]
    obtain ⟨ra, σ1, a1, a2, a3, a4⟩ := m_sum1 (n := n) (x := nI l) (y := ci_3 * nI i) hn rfl (by rw [ci_3_n, nI_mul]) hl (by omega) oA sA1 hv
    rw [a1, ob_def]
    have hv1 : ∀ j, j < 8 → σ1.2.1 31 j = v j := fun j hj => by rw [a2.2.1 31 (by decide)]; exact hv j hj
    obtain ⟨rb, σ2, b1, b2, b3, b4⟩ := m_sum1 (n := n) (x := nI l) (y := ci_3 * nI i + ci_1) hn rfl (by rw [ci_3_n, nI_mul, nI_s]) hl (by omega) oB (frD_seg sB1 a2) hv1
    show ∃ y σ', (ob (m_sumTold n (nI l) (ci_3 * nI i + ci_1) σ1) fun q3 => _) = _ ∧ _
    rw [b1, ob_def]
    have hv2 : ∀ j, j < 8 → σ2.2.1 31 j = v j := fun j hj => by rw [b2.2.1 31 (by decide)]; exact hv1 j hj
    have f2 : frD σ σ2 := a2.trans b2
    -- what must be shown of the value, by what came of A and B
    have key : ∀ (z : Int32) (t : Option Int32), (σ2.1 0 46 = 1 → z = 0) → (σ2.1 0 46 = 0 → (ra < rb → z = (evT v D).getD 0) ∧ (¬ ra < rb → z = t.getD 0)) → (σ.1 0 46 = 1 → z = 0) ∧ (σ.1 0 46 = 0 → t = lawV v (q.1.drop (i + 1)) q.2 → z = (lawV v ((A, B, D) :: q.1.drop (i + 1)) q.2).getD 0) := fun z t h1 h2 => by
      refine ⟨fun u => h1 (b4 (a4 u)), fun u ht => ?_⟩
      rw [lawV]
      cases qA : evT v A with
      | none =>
        rw [qA] at a3
        exact h1 (b4 a3)
      | some a =>
        rw [qA] at a3
        cases qB : evT v B with
        | none =>
          rw [qB] at b3
          exact h1 b3
        | some b =>
          rw [qB] at b3
          have h2 := h2 (b3.2.trans (a3.2.trans u))
          rw [a3.1, b3.1] at h2
          show z = (if a < b then evT v D else lawV v (q.1.drop (i + 1)) q.2).getD 0
          by_cases w : a < b
          · rw [if_pos w]
            exact h2.1 w
          · rw [if_neg w, ← ht]
            exact h2.2 w
    by_cases w : ra < rb
    · show ∃ y σ', (if ra < rb then _ else _) = some (y, σ') ∧ _
      rw [if_pos w, m_lawOf_b62, m_lawOf_b63, if_pos (show ci_0 = 0 from rfl), m_lawOf_b22, if_pos (show ci_0 = 0 from rfl), bin_nI (by omega) (by decide)]
      show ∃ y σ', (if sA σ2 9 (nI l) ≤ nI i then _ else _) = some (y, σ') ∧ _
      rw [e9 σ2 f2, if_neg (nI_ge (by omega) (by omega))]
      obtain ⟨z, σ3, c1, c2, c3, c4⟩ := m_99 (n := n) (x := nI l) (y := ci_3 * nI i + ci_2) hn rfl (by rw [ci_3_n, ci_2_n, nI_mul, nI_add]) hl (by omega) oD (frD_seg sD1 f2) hv2
      obtain ⟨k1, k2⟩ := key z (lawV v (q.1.drop (i + 1)) q.2) c3 (fun u => ⟨fun _ => c4 u, fun h => absurd w h⟩)
      exact ⟨z, σ3, c1, f2.trans c2, k1, fun u => k2 u rfl⟩
    · show ∃ y σ', (if ra < rb then _ else _) = some (y, σ') ∧ _
      rw [if_neg w, m_lawOf_b63, if_neg (show ¬ ci_1 = 0 from one_ne), nI_s]
      obtain ⟨z, σ3, c1, c2, c3, c4⟩ := m_lawv (n := n) (v := v) hn hl hO r (i + 1) (k + 1) σ2 (by omega) (by omega) (hL.fr f2) hv2
      obtain ⟨k1, k2⟩ := key z (lawV v (q.1.drop (i + 1)) q.2) c3 (fun u => ⟨fun h => absurd h w, fun _ => c4 u⟩)
      exact ⟨z, σ3, c1, f2.trans c2, k1, fun u => k2 u rfl⟩
theorem eqH_seg {l j : Nat} {C : codes} {σ σ' : bS} (hl : 14 * l + j < 196) (h : SegT l j C σ) (h7 : eqH 500 (σ'.2.1 7) (σ.2.1 7)) (h8 : eqH 500 (σ'.2.1 8) (σ.2.1 8)) (h10 : eqH 196 (σ'.2.1 10) (σ.2.1 10)) (h11 : eqH 196 (σ'.2.1 11) (σ.2.1 11)) : SegT l j C σ' := by
  obtain ⟨m0, a, b, c, d⟩ := h
  refine ⟨m0, a, (h10 _ hl).trans b, (h11 _ hl).trans c, fun i hi => ?_⟩
  rw [h7 _ (by omega), h8 _ (by omega)]
  exact d i hi
/-- what the reference lays as a LAW means that LAW -/
theorem ML_law {σ : bS} {l : Nat} {q : lwS} (hl : l < 14) (hO : okL q) (hL : LawT l q σ) : ML σ l (some (lawF q)) := by
  have l4 := hL.1
  refine ⟨fun u => nI_m1 (j := q.1.length) (by omega) (hL.2.1.symm.trans u), fun n z σ1 hn h7 h8 h9 h10 h11 => ?_⟩
  have hL1 : LawT l q (uI σ1 0 46 ci_0) := ⟨l4, (h9 l hl).trans hL.2.1, fun i hi => ⟨eqH_seg (σ' := uI σ1 0 46 ci_0) (by omega) (hL.2.2.1 i hi).1 h7 h8 h10 h11, eqH_seg (σ' := uI σ1 0 46 ci_0) (by omega) (hL.2.2.1 i hi).2.1 h7 h8 h10 h11, eqH_seg (σ' := uI σ1 0 46 ci_0) (by omega) (hL.2.2.1 i hi).2.2 h7 h8 h10 h11⟩, eqH_seg (σ' := uI σ1 0 46 ci_0) (by omega) hL.2.2.2 h7 h8 h10 h11⟩
  have e9 : sA σ1 9 (nI l) = nI q.1.length := by rw [sA_n _ _ (by omega)]; exact hL1.2.1
  obtain ⟨y, σ2, a1, a2, -, a4⟩ := m_lawv (n := n) (v := σ1.2.1 31) (by omega) hl hO q.1.length 0 n (uI σ1 0 46 ci_0) (by omega) (by omega) hL1 (fun j _ => rfl)
  refine ⟨σ2, ?_, (frM.uI (PI := fun k => k = 46) (PA := fun a => a = 32) rfl).trans a2⟩
  unfold m_lawOf
  rw [bin_nI (by omega) (by decide), e9, if_neg (fun u => nI_m1 (j := q.1.length) (by omega) (u.trans cim1))]
  show m_lawOf_b22 n n (nI l) (nI 0) ci_1 (uI σ1 0 46 ci_0) = _
  rw [a1, a4 (by rw [uI_1, if_pos ⟨rfl, rfl⟩]; rfl)]
  rfl
