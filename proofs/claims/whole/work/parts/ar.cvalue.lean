/-! the class works out a LAW -/
theorem dec7 {x op : Nat} (h : op < 8) : nI (x * 8 + op) &&& cb_7 = nI op := by
  rw [show cb_7 = nI 7 by decide, nI_and]
  congr 1
  have e : (x * 8 + op) &&& (2 ^ 3 - 1) = (x * 8 + op) % 2 ^ 3 := Nat.and_two_pow_sub_one_eq_mod _ _
  have e : (x * 8 + op) &&& 7 = (x * 8 + op) % 8 := e
  omega
theorem dec3 {x op : Nat} (h : op < 8) (hx : x * 8 + op < 2 ^ 31) : nI (x * 8 + op) >>> (ci_3 &&& 31) = nI x := by
  rw [show ci_3 = nI 3 by decide, nI_shr hx (by omega), Nat.shiftRight_eq_div_pow]
  congr 1
  omega
/-- steps as they lie in the class's text that is told -/
def AtT (a : Nat) (C : codes) (f : Nat → Int32) : Prop := ∀ i, i < C.length → f (a + i) = nI ((C.getD i (0, 0)).2 * 8 + (C.getD i (0, 0)).1)
theorem AtT.app {a : Nat} {X Y : codes} {f : Nat → Int32} (h : AtT a (X ++ Y) f) : AtT a X f ∧ AtT (a + X.length) Y f := by
  refine ⟨fun i hi => ?_, fun i hi => ?_⟩
  · have := h i (by rw [List.length_append]; omega)
    rw [getD_appL hi] at this
    exact this
  · have := h (X.length + i) (by rw [List.length_append]; omega)
    rw [getD_appR (by omega), Nat.add_sub_cancel_left] at this
    rw [Nat.add_assoc]
    exact this
theorem AtT.hd {a : Nat} {q : Nat × Nat} {Y : codes} {f : Nat → Int32} (h : AtT a (q :: Y) f) : f a = nI (q.2 * 8 + q.1) ∧ AtT (a + 1) Y f := ⟨h 0 (by rw [List.length_cons]; omega), fun i hi => by
  have := h (i + 1) (by rw [List.length_cons]; omega)
  rw [show a + 1 + i = a + (i + 1) by omega]
  exact this⟩
theorem nI_m2 {a : Nat} : nI (a + 2) + ci_m2 = nI a := by
  have e : nI (a + 2) = nI a + nI 2 := (nI_add a 2).symm
  rw [e, Int32.add_assoc, show nI 2 + ci_m2 = 0 by decide, Int32.add_zero]
theorem nI_m1' {a : Nat} : nI (a + 1) - ci_1 = nI a := by
  rw [ci1_nI, nI_sub (by omega), Nat.add_sub_cancel]
def evO (n k e p : Nat) (r : Option (List Int32)) (x : Option (Int32 × bS)) (σ : bS) : Prop := match r with
  | none => x = some (0, σ)
  | some st' => st'.length = e ∧ StI st' (σ.2.1 12) ∧ x = cLaws_valueOf_b8 n k (nI e) (nI p) σ
theorem c_ev {n ll : Nat} {v : Nat → Int32} : ∀ (C : codes) (st : List Int32) (p k e : Nat) (σ : bS), okCd C → dpt 16 C st.length = some e → st.length ≤ 16 → StI st (σ.2.1 12) → AtT p C (σ.2.1 11) → σ.1 10 3 = nI ll → p + C.length ≤ ll → ll ≤ 402 → σ.2.1 13 = v → ∃ σ', frC (fun a => a = 12) σ σ' ∧ evO n k e (p + C.length) (evS v C st) (cLaws_valueOf_b8 n (k + C.length) (nI st.length) (nI p) σ) σ'
  | [], st, p, k, e, σ, hc, hd, h16, hS, hA, hl, hp, hl4, hv => by
    have hd := Option.some.inj hd
    exact ⟨σ, frC.rf, hd, hS, by rw [← hd]; rfl⟩
  | (op, x) :: r, st, p, k, e, σ, hc, hd, h16, hS, hA, hl, hp, hl4, hv => by
    have h1 := hc (op, x) (List.mem_cons_self ..)
    have hc2 : okCd r := fun q hq => hc q (List.mem_cons_of_mem _ hq)
    obtain ⟨hA1, hA2⟩ := hA.hd
    have h1a : op ≤ 5 := h1.1
    have h1b : x ≤ 9999 := h1.2.1
    rw [List.length_cons] at hp
    have e11 : sA σ 11 (nI p) = nI (x * 8 + op) := by rw [sA_n _ _ (by omega)]; exact hA1
    have d7 : nI (x * 8 + op) &&& cb_7 = nI op := dec7 (by omega)
    have d3 : nI (x * 8 + op) >>> (ci_3 &&& 31) = nI x := dec3 (by omega) (by omega)
    have no7 : ¬ nI op = cb_7 := fun u => by
      have := nI_inj (by omega) (by decide) (u.trans (show cb_7 = nI 7 by decide))
      omega
    rw [dpt] at hd
    rw [evS, List.length_cons, show k + (r.length + 1) = (k + r.length) + 1 by omega, cLaws_valueOf_b8, show sI σ 10 3 = nI ll from hl, if_neg (nI_ge (by omega) (by omega)), bin_nI (by omega) (by decide), bin_nI (by omega) (by decide), e11, d7, d3, if_neg no7]
    have push : ∀ w, st.length < 16 → dpt 16 r (st.length + 1) = some e → ∃ σ', frC (fun a => a = 12) σ σ' ∧ evO n k e (p + (r.length + 1)) (evS v r (w :: st)) (cLaws_valueOf_b108 n (cLaws_valueOf_b8 n (k + r.length)) (nI st.length) (nI p) (nI st.length) w σ) σ' := fun w hlt hd2 => by
      rw [cLaws_valueOf_b108, bin_nI (by omega) (by decide), cLaws_valueOf_b263, nI_s, nI_s]
      have hS2 : StI (w :: st) ((uA σ 12 (nI st.length) w).2.1 12) := hS.push (by omega)
      obtain ⟨σ', a1, a2⟩ := c_ev (n := n) (v := v) r (w :: st) (p + 1) k e (uA σ 12 (nI st.length) w) hc2 hd2 (by rw [List.length_cons]; omega) hS2 (by rw [uA_o _ _ _ _ (by decide)]; exact hA2) hl (by omega) hl4 (by rw [uA_o _ _ _ _ (by decide)]; exact hv)
      refine ⟨σ', (frC.uA (P := fun a => a = 12) rfl).trans a1, ?_⟩
      rw [show p + (r.length + 1) = p + 1 + r.length by omega]
      exact a2
    by_cases z : op ≤ 1
    · rw [if_pos z] at hd
      by_cases y : st.length < 16
      · rw [if_pos y] at hd
        have lt : nI st.length < cn_32 := by
          rw [cn_32_n]
          exact (nI_ltI (by omega) (by omega)).mpr (by omega)
        by_cases w : op = 0
        · rw [if_pos w, w, if_pos (show nI 0 = 0 from rfl), cLaws_valueOf_b72, if_pos lt, if_pos (show nI 0 = 0 from rfl)]
          exact push (nI x) y hd
        · have w1 : op = 1 := by omega
          have x8 := h1.2.2 w1
          have x8 : x < 8 := x8
          rw [if_neg w, if_pos w1, w1, if_neg (show ¬ nI 1 = 0 by decide), if_pos (show nI 1 = ci_1 from rfl), cLaws_valueOf_b72, if_pos lt, if_neg (show ¬ nI 1 = 0 by decide)]
          have ex : nI x &&& cb_7 = nI x := by
            have := dec7 (x := 0) (op := x) x8
            rw [Nat.zero_mul, Nat.zero_add] at this
            exact this
          rw [ex, bin_nI (by omega) (by decide), sA_n _ _ (by omega), hv]
          exact push (v x) y hd
      · rw [if_neg y] at hd
        cases hd
    · rw [if_neg z] at hd
      by_cases y : 2 ≤ st.length
      · rw [if_pos y] at hd
        rw [if_neg (by omega), if_neg (by omega), if_neg (fun u => by
          have := nI_inj (by omega) (by decide) (u.trans (show (0 : Int32) = nI 0 from rfl))
          omega), if_neg (fun u => by
          have := nI_inj (by omega) (by decide) (u.trans ci1_nI)
          omega), ci_2_n, if_pos ((nI_leI (by omega) (by omega)).mpr y)]
        match st, y, h16, hS, hd with
        | b :: a :: st2, y, h16, hS, hd =>
          obtain ⟨s1, s2, s3⟩ := hS
          have s1 : σ.2.1 12 (st2.length + 1) = b := s1
          have s2 : σ.2.1 12 st2.length = a := s2
          rw [List.length_cons, List.length_cons] at h16
          have hd : dpt 16 r (st2.length + 1) = some e := hd
          rw [List.length_cons, List.length_cons, nI_m2, cLaws_valueOf_b125, bin_nI (by omega) (by decide), nI_s, bin_nI (by omega) (by decide), if_neg (fun u => by
            have := nI_inj (by omega) (by decide) (u.trans (show cb_6 = nI 6 by decide))
            omega), sA_n _ _ (by omega), sA_n _ _ (by omega), s1, s2, opS_2]
          have go : ∀ w, ∃ σ', frC (fun a => a = 12) σ σ' ∧ evO n k e (p + (r.length + 1)) (evS v r (w :: st2)) (cLaws_valueOf_b260 n (cLaws_valueOf_b8 n (k + r.length)) (nI st2.length) (nI p) (uA σ 12 (nI st2.length) w)) σ' := fun w => by
            rw [cLaws_valueOf_b260, cLaws_valueOf_b263, nI_s, nI_s]
            have hS2 : StI (w :: st2) ((uA σ 12 (nI st2.length) w).2.1 12) := s3.push (by omega)
            obtain ⟨σ', a1, a2⟩ := c_ev (n := n) (v := v) r (w :: st2) (p + 1) k e (uA σ 12 (nI st2.length) w) hc2 hd (by rw [List.length_cons]; omega) hS2 (by rw [uA_o _ _ _ _ (by decide)]; exact hA2) hl (by omega) hl4 (by rw [uA_o _ _ _ _ (by decide)]; exact hv)
            refine ⟨σ', (frC.uA (P := fun a => a = 12) rfl).trans a1, ?_⟩
            rw [show p + (r.length + 1) = p + 1 + r.length by omega]
            exact a2
          have ti : (nI op).toInt = (op : Int) := by
            have : op = 2 ∨ op = 3 ∨ op = 4 ∨ op = 5 := by omega
            rcases this with rfl | rfl | rfl | rfl <;> decide
          rw [ti]
          unfold opv
          by_cases o2 : op = 2
          · rw [if_pos (show (op : Int) = 2 by omega), if_pos o2, bin_nI (by omega) (by decide)]
            exact go (a + b)
          · rw [if_neg (show ¬ (op : Int) = 2 by omega), if_neg o2]
            by_cases o3 : op = 3
            · rw [if_pos (show (op : Int) = 3 by omega), if_pos o3, cLaws_valueOf_b224, bin_nI (by omega) (by decide)]
              exact go (a - b)
            · rw [if_neg (show ¬ (op : Int) = 3 by omega), if_neg o3]
              by_cases o4 : op = 4
              · rw [if_pos (show (op : Int) = 4 by omega), if_pos o4, bin_nI (by omega) (by decide)]
                exact go (a * b)
              · rw [if_neg (show ¬ (op : Int) = 4 by omega), if_neg o4]
                by_cases b0 : b = 0
                · rw [if_pos b0, if_pos b0]
                  exact ⟨σ, frC.rf, rfl⟩
                · rw [if_neg b0, if_neg b0, if_neg b0, bin_nI (by omega) (by decide)]
                  exact go (a / b)
      · rw [if_neg y] at hd
        cases hd
theorem fold_cmp {a : Nat} : ∀ (r : List (codes × codes × codes)) (P : codes), r.foldl (cmpF a) P = P ++ r.foldl (cmpF (a + P.length)) []
  | [], P => by rw [List.foldl_nil, List.foldl_nil, List.append_nil]
  | q :: r, P => by
    rw [List.foldl_cons, List.foldl_cons, fold_cmp r (cmpF a P q), fold_cmp r (cmpF (a + P.length) [] q)]
    unfold cmpF
    rw [List.nil_append, List.length_nil, Nat.add_zero, List.length_append, List.append_assoc, Nat.add_assoc]
theorem lawC_cons {a : Nat} {A B D E : codes} {r : List (codes × codes × codes)} : lawC a ((A, B, D) :: r) E = cmpI a A B D ++ lawC (a + (cmpI a A B D).length) r E := by
  unfold lawC cmpP
  rw [List.foldl_cons, fold_cmp]
  unfold cmpF
  rw [List.nil_append, List.length_nil, Nat.add_zero, List.append_assoc]
/-- a LAW's value, or 0 -/
def lawF (q : lwS) (v : Nat → Int32) : Int32 := (lawV v q.1 q.2).getD 0
theorem c_done {n k p ll : Nat} {x : Int32} {st : List Int32} {σ : bS} (hS : StI (x :: st) (σ.2.1 12)) (h16 : st.length ≤ 16) (hA : σ.2.1 11 p = nI (0 * 8 + 7)) (hl : σ.1 10 3 = nI ll) (hp : p < ll) (hl4 : ll ≤ 402) : cLaws_valueOf_b8 n (k + 1) (nI (st.length + 1)) (nI p) σ = some (x, σ) := by
  have d7 : nI (0 * 8 + 7) &&& cb_7 = nI 7 := dec7 (by omega)
  have s1 : σ.2.1 12 st.length = x := hS.1
  rw [cLaws_valueOf_b8, show sI σ 10 3 = nI ll from hl, if_neg (nI_ge (by omega) (by omega)), bin_nI (by omega) (by decide), bin_nI (by omega) (by decide), sA_n _ _ (by omega), hA, d7, if_pos (show nI 7 = cb_7 by decide), if_neg (show ¬ nI (st.length + 1) ≤ 0 from nI_ge (a := 0) (by omega) (by omega)), cLaws_valueOf_b55, nI_m1', bin_nI (by omega) (by decide), sA_n _ _ (by omega), s1]
  rfl
theorem frC12 {σ σ' : bS} (f : frC (fun a => a = 12) σ σ') : σ'.2.1 11 = σ.2.1 11 ∧ σ'.2.1 13 = σ.2.1 13 ∧ σ'.1 10 3 = σ.1 10 3 := ⟨(f 11 (by decide)).2.1, (f 13 (by decide)).2.1, by rw [(f 10 (by decide)).1]⟩
theorem c_last {n p k ll : Nat} {v : Nat → Int32} {E Z : codes} {σ : bS} (hE : okE E) (hA : AtT p (E ++ ((7, 0) :: Z)) (σ.2.1 11)) (hl : σ.1 10 3 = nI ll) (hp : p + E.length + 1 ≤ ll) (hl4 : ll ≤ 402) (hv : σ.2.1 13 = v) : ∃ σ', cLaws_valueOf_b8 n (k + E.length + 1) (nI 0) (nI p) σ = some ((evT v E).getD 0, σ') ∧ frC (fun a => a = 12) σ σ' := by
  obtain ⟨hA1, hA2⟩ := hA.app
  obtain ⟨σ1, a1, a2⟩ := c_ev (n := n) (v := v) E [] p (k + 1) 1 σ hE.1 hE.2.1 (by show 0 ≤ 16; omega) trivial hA1 hl (by omega) hl4 hv
  obtain ⟨f1, f2, f3⟩ := frC12 a1
  rw [show k + E.length + 1 = k + 1 + E.length by omega]
  rw [evT_1 hE] at a2
  cases q : evT v E with
  | none =>
    rw [q] at a2
    exact ⟨σ1, a2, a1⟩
  | some x =>
    rw [q] at a2
    obtain ⟨b1, b2, b3⟩ := a2
    refine ⟨σ1, ?_, a1⟩
    exact b3.trans (c_done (st := []) b2 (by show 0 ≤ 16; omega) (by rw [f1]; exact hA2.hd.1) (f3.trans hl) (by omega) hl4)
theorem max_ge {n a b : Nat} {σ : bS} (h : a ≤ b) (hb : b < 2 ^ 31) : cj_max n (nI a) (nI b) σ = some (nI b, σ) := by
  unfold cj_max
  by_cases z : a < b
  · rw [if_pos ((nI_ltI (by omega) hb).mpr z), cj_max_b10]
  · rw [if_neg (fun u => z ((nI_ltI (by omega) hb).mp u)), cj_max_b10, show a = b by omega]
theorem c_lawv {n ll : Nat} {v : Nat → Int32} : ∀ (ifs : List (codes × codes × codes)) (E : codes) (p k : Nat) (σ : bS), okL (ifs, E) → AtT p (lawC p ifs E) (σ.2.1 11) → σ.1 10 3 = nI ll → p + (lawC p ifs E).length ≤ ll → ll ≤ 402 → σ.2.1 13 = v → (lawC p ifs E).length ≤ k → ∃ σ', cLaws_valueOf_b8 n k (nI 0) (nI p) σ = some (lawF (ifs, E) v, σ') ∧ frC (fun a => a = 12) σ σ'
  | [], E, p, k, σ, hO, hA, hl, hp, hl4, hv, hk => by
    have e : lawC p [] E = E ++ [(7, 0)] := rfl
    rw [e] at hA hp hk
    rw [List.length_append, List.length_singleton] at hp hk
    obtain ⟨k', rfl⟩ : ∃ k', k = k' + E.length + 1 := ⟨k - E.length - 1, by omega⟩
    exact c_last hO.2 hA hl (by omega) hl4 hv
  | (A, B, D) :: r, E, p, k, σ, hO, hA, hl, hp, hl4, hv, hk => by
    obtain ⟨oA, oB, oD⟩ : okE A ∧ okE B ∧ okE D := hO.1 (A, B, D) (List.mem_cons_self ..)
    have oR : okL (r, E) := ⟨fun q hq => hO.1 q (List.mem_cons_of_mem _ hq), hO.2⟩
    rw [lawC_cons] at hA hp hk
    rw [List.length_append, cmpI_len] at hp hk
    obtain ⟨hI, hR⟩ := hA.app
    rw [cmpI_len] at hR
    have hI : AtT p (A ++ (B ++ ((6, p + A.length + B.length + D.length + 2) :: (D ++ [(7, 0)])))) (σ.2.1 11) := hI
    obtain ⟨hIA, hIB⟩ := hI.app
    obtain ⟨hIB, hID⟩ := hIB.app
    obtain ⟨hI6, hID⟩ := hID.hd
    have hI6 : σ.2.1 11 (p + A.length + B.length) = nI ((p + A.length + B.length + D.length + 2) * 8 + 6) := hI6
    obtain ⟨k', rfl⟩ : ∃ k', k = (k' + 1 + B.length) + A.length := ⟨k - A.length - B.length - 1, by omega⟩
    obtain ⟨σ1, a1, a2⟩ := c_ev (n := n) (v := v) A [] p (k' + 1 + B.length) 1 σ oA.1 oA.2.1 (by show 0 ≤ 16; omega) trivial hIA hl (by omega) hl4 hv
    obtain ⟨f1, f2, f3⟩ := frC12 a1
    unfold lawF lawV
    rw [evT_1 oA] at a2
    cases qA : evT v A with
    | none =>
      rw [qA] at a2
      exact ⟨σ1, a2, a1⟩
    | some x =>
      rw [qA] at a2
      obtain ⟨b1, b2, b3⟩ := a2
      obtain ⟨σ2, c1, c2⟩ := c_ev (n := n) (v := v) B [x] (p + A.length) (k' + 1) 2 σ1 oB.1 oB.2.2 (by show 1 ≤ 16; omega) b2 (by rw [f1]; exact hIB) (f3.trans hl) (by omega) hl4 (f2.trans hv)
      obtain ⟨g1, g2, g3⟩ := frC12 c1
      rw [evT_2 oB] at c2
      have b3 : cLaws_valueOf_b8 n (k' + 1 + B.length + A.length) (nI 0) (nI p) σ = cLaws_valueOf_b8 n (k' + 1 + B.length) (nI 1) (nI (p + A.length)) σ1 := b3
      rw [b3]
      cases qB : evT v B with
      | none =>
        rw [qB] at c2
        exact ⟨σ2, c2, a1.trans c1⟩
      | some y =>
        rw [qB] at c2
        obtain ⟨d1, d2, d3⟩ := c2
        have d3 : cLaws_valueOf_b8 n (k' + 1 + B.length) (nI 1) (nI (p + A.length)) σ1 = cLaws_valueOf_b8 n (k' + 1) (nI 2) (nI (p + A.length + B.length)) σ2 := d3
        have s1 : σ2.2.1 12 1 = y := d2.1
        have s0 : σ2.2.1 12 0 = x := d2.2.1
        have hl2 : σ2.1 10 3 = nI ll := g3.trans (f3.trans hl)
        have h11 : σ2.2.1 11 = σ.2.1 11 := g1.trans f1
        have h13 : σ2.2.1 13 = v := g2.trans (f2.trans hv)
        have e11 : sA σ2 11 (nI (p + A.length + B.length)) = nI ((p + A.length + B.length + D.length + 2) * 8 + 6) := by rw [sA_n _ _ (by omega), h11]; exact hI6
        have t7 : nI ((p + A.length + B.length + D.length + 2) * 8 + 6) &&& cb_7 = nI 6 := dec7 (by omega)
        have t3 : nI ((p + A.length + B.length + D.length + 2) * 8 + 6) >>> (ci_3 &&& 31) = nI (p + A.length + B.length + D.length + 2) := dec3 (by omega) (by omega)
        have fr2 := a1.trans c1
        rw [d3, cLaws_valueOf_b8, show sI σ2 10 3 = nI ll from hl2, if_neg (nI_ge (by omega) (by omega)), bin_nI (by omega) (by decide), bin_nI (by omega) (by decide), e11, t7, t3, if_neg (show ¬ nI 6 = cb_7 by decide), if_neg (show ¬ nI 6 = 0 by decide), if_neg (show ¬ nI 6 = ci_1 by decide), if_pos (show ci_2 ≤ nI 2 by decide), show nI 2 + ci_m2 = nI 0 by decide, cLaws_valueOf_b125, bin_nI (by omega) (by decide), nI_s, bin_nI (by omega) (by decide), if_pos (show nI 6 = cb_6 by decide), sA_n _ _ (by omega), sA_n _ _ (by omega), s1, s0]
        show ∃ σ', (if y ≤ x then _ else _) = some ((if x < y then evT v D else lawV v r E).getD 0, σ') ∧ _
        by_cases w : x < y
        · rw [if_neg (Int32.not_le.mpr w), if_pos w, cLaws_valueOf_b169, cLaws_valueOf_b263, nI_s]
          obtain ⟨k2, rfl⟩ : ∃ k2, k' = k2 + D.length + 1 := ⟨k' - D.length - 1, by omega⟩
          obtain ⟨σ3, m1, m2⟩ := c_last (n := n) (k := k2) (Z := []) oD (show AtT (p + A.length + B.length + 1) (D ++ [(7, 0)]) (σ2.2.1 11) by rw [h11]; exact hID) hl2 (by omega) hl4 h13
          exact ⟨σ3, m1, fr2.trans m2⟩
        · rw [if_pos (Int32.not_lt.mp w), if_neg w, cLaws_valueOf_b166, nI_m1', max_ge (by omega) (by omega), ob_def, cLaws_valueOf_b169, cLaws_valueOf_b263, nI_s]
          obtain ⟨σ3, m1, m2⟩ := c_lawv (n := n) (v := v) r E (p + (A.length + B.length + D.length + 2)) k' σ2 oR (by rw [h11]; exact hR) hl2 (by omega) hl4 h13 (by omega)
          rw [show p + A.length + B.length + D.length + 1 + 1 = p + (A.length + B.length + D.length + 2) by omega]
          exact ⟨σ3, m1, fr2.trans m2⟩
/-- what the class reads as a LAW means that LAW -/
theorem CL_law {σ : bS} {p ll : Nat} {q : lwS} (hO : okL q) (hA : AtT p (lawC p q.1 q.2) (σ.2.1 11)) (hl : σ.1 10 3 = nI ll) (hp : p + (lawC p q.1 q.2).length ≤ ll) (hl4 : ll ≤ 402) : CL σ (nI p) (some (lawF q)) := by
  have le0 : (0 : Int32) ≤ nI p := Int32.not_lt.mp (nI_pos (by omega))
  refine ⟨le0, fun n σ1 hn h1 h2 => ?_⟩
  obtain ⟨σ2, a1, a2⟩ := c_lawv (n := n) (v := σ1.2.1 13) q.1 q.2 p n σ1 hO (by rw [h1]; exact hA) (h2.trans hl) hp hl4 rfl (by omega)
  refine ⟨σ2, ?_, a2⟩
  unfold cLaws_valueOf
  have em : cj_max n (nI p) ci_0 σ1 = some (nI p, σ1) := by
    unfold cj_max
    rw [if_neg (Int32.not_lt.mpr (show ci_0 ≤ nI p from le0)), cj_max_b10]
  rw [em, ob_def]
  exact a1
