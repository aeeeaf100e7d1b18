/-! the reference reads an E -/
def gM (x : Nat) : Nat := if x = 11 then 0 else x - 4
def AtM (m : Nat) (C : codes) (σ : bS) : Prop := ∀ i, i < C.length → σ.2.1 7 (500 + m + i) = nI (C.getD i (0, 0)).1 ∧ σ.2.1 8 (500 + m + i) = nI (C.getD i (0, 0)).2
theorem getD_app {C : codes} {x : Nat × Nat} {i : Nat} (h : i < C.length) : (C ++ [x]).getD i (0, 0) = C.getD i (0, 0) := by
  rw [List.getD_eq_getElem?_getD, List.getD_eq_getElem?_getD, List.getElem?_append_left h]
theorem getD_last {C : codes} {x : Nat × Nat} : (C ++ [x]).getD C.length (0, 0) = x := by
  rw [List.getD_eq_getElem?_getD, List.getElem?_append_right (Nat.le_refl _), Nat.sub_self]
  rfl
theorem bin_1 {β : Type} {N : Nat} (x : Option β) (h : 1 < N) (hN : N < 2 ^ 31) : bin_ ci_1 N x = x := by
  rw [ci1_nI]
  exact bin_nI h hN x
theorem sA_1 (σ : bS) (a : Nat) : sA σ a ci_1 = σ.2.1 a 1 := by
  rw [ci1_nI]
  exact sA_n σ a (by decide)
/-- codes told before stay -/
def frB (m : Nat) (σ σ' : bS) : Prop := ∀ i, i < 500 + m → σ'.2.1 7 i = σ.2.1 7 i ∧ σ'.2.1 8 i = σ.2.1 8 i
theorem frB.rf {m : Nat} {σ : bS} : frB m σ σ := fun _ _ => ⟨rfl, rfl⟩
theorem frB.trans {m : Nat} {σ σ1 σ2 : bS} (h : frB m σ σ1) (g : frB m σ1 σ2) : frB m σ σ2 := fun i hi => ⟨(g i hi).1.trans (h i hi).1, (g i hi).2.trans (h i hi).2⟩
def eM (σ : bS) (m : Nat) (a b : Int32) : bS := uA (uA (uA σ 7 (nI (500 + m)) a) 8 (nI (500 + m)) b) 6 ci_1 (nI (m + 1))
theorem m_emit_eq {n m : Nat} {a b : Int32} {σ : bS} (h : σ.2.1 6 1 = nI m) (hm : m < 500) : m_emit n a b σ = some (eM σ m a b) := by
  have e0 : sA σ 6 ci_1 = nI m := (sA_1 σ 6).trans h
  have e1 : ∀ i w, sA (uA σ 7 i w) 6 ci_1 = nI m := fun i w => by rw [sA_1, uA_o _ _ _ _ (by decide)]; exact h
  have e2 : ∀ i w i2 w2, sA (uA (uA σ 7 i w) 8 i2 w2) 6 ci_1 = nI m := fun i w i2 w2 => by rw [sA_1, uA_o _ _ _ _ (by decide), uA_o _ _ _ _ (by decide)]; exact h
  unfold m_emit
  rw [e2, e1, e0, show cs_500 = nI 500 by decide, nI_add, bin_1 _ (by decide) (by decide), bin_nI (by omega) (by decide), bin_1 _ (by decide) (by decide), bin_nI (by omega) (by decide), bin_1 _ (by decide) (by decide), bin_1 _ (by decide) (by decide), nI_s]
  rfl
theorem eM_is {m : Nat} {a b : Int32} {σ : bS} (hm : m < 500) : (eM σ m a b).1 = σ.1 ∧ (eM σ m a b).2.1 6 1 = nI (m + 1) ∧ (eM σ m a b).2.1 28 = σ.2.1 28 ∧ (∀ i, (eM σ m a b).2.1 7 i = if i = 500 + m then a else σ.2.1 7 i) ∧ (∀ i, (eM σ m a b).2.1 8 i = if i = 500 + m then b else σ.2.1 8 i) ∧ frE σ (eM σ m a b) := by
  unfold eM
  refine ⟨rfl, ?_, ?_, fun i => ?_, fun i => ?_, fun _ _ => rfl, fun x hx => ?_, rfl, ?_⟩
  · rw [uA_2, if_pos ⟨rfl, rfl⟩]
  · rw [uA_o _ _ _ _ (by decide), uA_o _ _ _ _ (by decide), uA_o _ _ _ _ (by decide)]
  · rw [uA_o _ _ _ _ (by decide), uA_o _ _ _ _ (by decide), uA_2, nI_clamp (by omega)]
    simp
  · rw [uA_o _ _ _ _ (by decide), uA_2, nI_clamp (by omega), uA_o _ _ _ _ (by decide)]
    simp
  · rw [uA_o _ _ _ _ (fun u => hx (Or.inl u)), uA_o _ _ _ _ (fun u => hx (Or.inr (Or.inr (Or.inl u)))), uA_o _ _ _ _ (fun u => hx (Or.inr (Or.inl u)))]
  · rw [uA_2, if_neg (fun u => absurd u.2 (by decide)), uA_o _ _ _ _ (by decide), uA_o _ _ _ _ (by decide)]
theorem eM_at {m : Nat} {C : codes} {op arg : Nat} {σ : bS} (h : AtM m C σ) (hm : m + C.length < 500) : AtM m (C ++ [(op, arg)]) (eM σ (m + C.length) (nI op) (nI arg)) ∧ frB m σ (eM σ (m + C.length) (nI op) (nI arg)) := by
  obtain ⟨-, -, -, e7, e8, -⟩ := eM_is (σ := σ) (a := nI op) (b := nI arg) hm
  refine ⟨fun i hi => ?_, fun i hi => ?_⟩
  · rw [List.length_append, List.length_singleton] at hi
    rw [e7, e8]
    by_cases z : i = C.length
    · subst z
      rw [if_pos (by omega), if_pos (by omega), getD_last]
      exact ⟨rfl, rfl⟩
    · rw [if_neg (by omega), if_neg (by omega), getD_app (by omega)]
      exact h i (by omega)
  · rw [e7, e8, if_neg (by omega), if_neg (by omega)]
    exact ⟨rfl, rfl⟩
def KMx (m : Nat) (C : codes) (S : List Nat) (σ : bS) : Prop := σ.2.1 6 1 = nI (m + C.length) ∧ AtM m C σ ∧ σ.1 0 36 = nI S.length ∧ Sgk gM S (σ.2.1 28)
theorem AtM.of {m : Nat} {C : codes} {σ σ' : bS} (h : AtM m C σ) (h7 : σ'.2.1 7 = σ.2.1 7) (h8 : σ'.2.1 8 = σ.2.1 8) : AtM m C σ' := fun i hi => by
  rw [h7, h8]
  exact h i hi
theorem rank_all : ∀ x : Fin 12, (x.val = 11 ∨ (6 ≤ x.val ∧ x.val ≤ 9)) → (if nI (gM x.val) ≤ ci_3 then (if nI (gM x.val) ≤ ci_1 then ci_0 else ci_1) else ci_2) = nI (wgt x.val) := by decide +kernel
theorem m_rank_eq {n x : Nat} {σ : bS} (h : x = 11 ∨ (6 ≤ x ∧ x ≤ 9)) : m_rank n (nI (gM x)) σ = some (nI (wgt x), σ) := by
  have e := rank_all ⟨x, by omega⟩ h
  have e : (if nI (gM x) ≤ ci_3 then (if nI (gM x) ≤ ci_1 then ci_0 else ci_1) else ci_2) = nI (wgt x) := e
  rw [← e]
  unfold m_rank
  by_cases h1 : nI (gM x) ≤ ci_3
  · rw [if_pos h1, if_pos h1]
    by_cases h2 : nI (gM x) ≤ ci_1
    · rw [if_pos h2, if_pos h2]
      rfl
    · rw [if_neg h2, if_neg h2]
      rfl
  · rw [if_neg h1, if_neg h1]
    rfl
theorem okK.hd {x : Nat} {S : List Nat} {o : Nat} (h : okK (x :: S) o) : x = 11 ∨ (6 ≤ x ∧ x ≤ 9) := by
  rcases h with ⟨e, -⟩ | ⟨a, b, -⟩
  · exact Or.inl e
  · exact Or.inr ⟨a, b⟩
theorem m_red_l {n w m : Nat} (hw1 : 1 ≤ w) (hw : w ≤ 2) : ∀ (S : List Nat) (C : codes) (σ : bS) (k o : Nat), okK S o → KMx m C S σ → m + C.length + pnd S < 500 → S.length < 500 → S.length < k → ∃ σ', m_reduce_b0 n k (nI w) σ = some σ' ∧ KMx m (setl w C S).1 (setl w C S).2 σ' ∧ frE σ σ' ∧ frB m σ σ' ∧ (∀ j, ¬ j = 36 → σ'.1 0 j = σ.1 0 j)
  | [], C, σ, 0, o, hO, hK, h1, h2, h3 => by omega
  | [], C, σ, k + 1, o, hO, hK, h1, h2, h3 => by
    have e : sI σ 0 36 = nI 0 := hK.2.2.1
    rw [m_reduce_b0, e, if_pos (show (nI 0 : Int32) ≤ 0 from Int32.le_refl _), m_reduce_b52]
    exact ⟨σ, rfl, hK, frE.rf, frB.rf, fun _ _ => rfl⟩
  | x :: S, C, σ, 0, o, hO, hK, h1, h2, h3 => by omega
  | x :: S, C, σ, k + 1, o, hO, hK, h1, h2, h3 => by
    obtain ⟨k1, k2, k3, k4, k5⟩ := hK
    rw [List.length_cons] at h2 h3 k3
    have e36 : sI σ 0 36 = nI (S.length + 1) := k3
    have hd := hO.hd
    have wl := wgt_le x
    rw [m_reduce_b0, e36, if_neg (show ¬ nI (S.length + 1) ≤ 0 from nI_ge (a := 0) (by omega) (by omega)), ci1_nI, nI_sub (by omega), Nat.add_sub_cancel, m_reduce_b17, bin_nI (by omega) (by decide), sA_n _ _ (by omega), k4, m_rank_eq hd, ob_def, setl]
    by_cases z : wgt x < w
    · rw [if_pos ((nI_ltI (by omega) (by omega)).mpr z), if_pos z, m_reduce_b52]
      exact ⟨σ, rfl, ⟨k1, k2, by rw [List.length_cons]; exact k3, k4, k5⟩, frE.rf, frB.rf, fun _ _ => rfl⟩
    · have nx : ¬ x = 11 := fun u => by
        rw [u] at z
        exact z (by rw [show wgt 11 = 0 by decide]; omega)
      have hO' : okK S o := by
        rcases hO with ⟨e, -⟩ | ⟨-, -, -, h⟩
        · exact absurd e nx
        · exact h
      have pn : pnd (x :: S) = pnd S + 1 := by rw [pnd, if_neg nx]
      rw [if_neg (fun u => z ((nI_ltI (by omega) (by omega)).mp u)), if_neg z, m_reduce_b32]
      have e36' : sI (uI σ 0 36 (sI σ 0 36 - ci_1)) 0 36 = nI S.length := by
        show (uI σ 0 36 (sI σ 0 36 - ci_1)).1 0 36 = _
        rw [uI_1, if_pos ⟨rfl, rfl⟩, e36, ci1_nI, nI_sub (by omega), Nat.add_sub_cancel]
      have e28 : sA (uI σ 0 36 (sI σ 0 36 - ci_1)) 28 (nI S.length) = nI (x - 4) := by
        rw [sA_n _ _ (by omega)]
        refine k4.trans ?_
        unfold gM
        rw [if_neg nx]
      have e6 : (uI σ 0 36 (sI σ 0 36 - ci_1)).2.1 6 1 = nI (m + C.length) := k1
      have hm : m + C.length < 500 := by omega
      show ∃ σ', bin_ (sI (uI σ 0 36 (sI σ 0 36 - ci_1)) 0 36) 500 (ob (m_emit n (sA (uI σ 0 36 (sI σ 0 36 - ci_1)) 28 (sI (uI σ 0 36 (sI σ 0 36 - ci_1)) 0 36)) ci_0 (uI σ 0 36 (sI σ 0 36 - ci_1))) fun q1 => m_reduce_b0 n k (nI w) q1) = _ ∧ _
      rw [e36', bin_nI (by omega) (by decide), e28, m_emit_eq e6 hm, ob_def]
      obtain ⟨q1, q2, q3, q4, q5, q6⟩ := eM_is (σ := uI σ 0 36 (sI σ 0 36 - ci_1)) (a := nI (x - 4)) (b := ci_0) hm
      obtain ⟨a1, a2⟩ := eM_at (σ := uI σ 0 36 (sI σ 0 36 - ci_1)) (op := x - 4) (arg := 0) (k2.of rfl rfl) hm
      obtain ⟨σ', d1, d2, d3, d4, d5⟩ := m_red_l (n := n) (m := m) hw1 hw S (C ++ [(x - 4, 0)]) (eM (uI σ 0 36 (sI σ 0 36 - ci_1)) (m + C.length) (nI (x - 4)) ci_0) k o hO' ⟨by rw [q2, List.length_append, List.length_singleton, Nat.add_assoc], a1, by rw [q1]; exact e36', by rw [q3]; exact k5⟩ (by rw [List.length_append, List.length_singleton]; omega) (by omega) (by omega)
      refine ⟨σ', d1, d2, ((frE.uI (by decide)).trans q6).trans d3, (show frB m σ (eM (uI σ 0 36 (sI σ 0 36 - ci_1)) (m + C.length) (nI (x - 4)) ci_0) from a2).trans d4, fun j hj => ?_⟩
      rw [d5 j hj, q1, uI_1, if_neg (fun u => hj u.2)]
theorem m_red {n w m o : Nat} {S : List Nat} {C : codes} {σ : bS} {x : Int32} (hn : 100 ≤ n) (hx : x = nI w) (hw1 : 1 ≤ w) (hw : w ≤ 2) (hO : okK S o) (ho : o ≤ 6) (hK : KMx m C S σ) (hm : m + C.length + pnd S ≤ 400) : ∃ σ', m_reduce n x σ = some σ' ∧ KMx m (setl w C S).1 (setl w C S).2 σ' ∧ frE σ σ' ∧ frB m σ σ' ∧ (∀ j, ¬ j = 36 → σ'.1 0 j = σ.1 0 j) := by
  have l := hO.len
  have w2 := wgt_le (S.headD 11)
  rw [hx]
  exact m_red_l hw1 hw S C σ n o hO hK (by omega) (by omega) (by omega)
theorem m_aw {n m x : Nat} {S : List Nat} {C : codes} {σ : bS} {y : Int32} (hy : y = nI (gM x)) (hK : KMx m C S σ) (hl : S.length < 500) : ∃ σ', m_await n y σ = some σ' ∧ KMx m C (x :: S) σ' ∧ frE σ σ' ∧ frB m σ σ' ∧ (∀ j, ¬ j = 36 → σ'.1 0 j = σ.1 0 j) := by
  obtain ⟨k1, k2, k3, k4⟩ := hK
  have e36 : sI σ 0 36 = nI S.length := k3
  have e2 : ∀ i w, sI (uA σ 28 i w) 0 36 = nI S.length := fun _ _ => k3
  unfold m_await
  rw [e2, e36, bin_nI hl (by decide), nI_s]
  have rd : ∀ j, (uI (uA σ 28 (nI S.length) y) 0 36 (nI (S.length + 1))).2.1 28 j = if j = S.length then y else σ.2.1 28 j := fun j => by
    rw [uI_2, uA_2, nI_clamp (by omega)]
    simp
  refine ⟨_, rfl, ⟨?_, k2.of ?_ ?_, ?_, ?_, ?_⟩, ⟨fun j hj => ?_, fun a ha => ?_, rfl, ?_⟩, fun i hi => ⟨?_, ?_⟩, fun j hj => ?_⟩
  · rw [uI_2, uA_o _ _ _ _ (by decide)]
    exact k1
  · rw [uI_2, uA_o _ _ _ _ (by decide)]
  · rw [uI_2, uA_o _ _ _ _ (by decide)]
  · rw [uI_1, if_pos ⟨rfl, rfl⟩, List.length_cons]
  · rw [rd, if_pos rfl, hy]
  · exact k4.of (fun j hj => by rw [rd, if_neg (by omega)])
  · rw [uI_1, if_neg (fun u => hj (by rw [u.2]; decide))]
    rfl
  · rw [uI_2, uA_o _ _ _ _ (fun u => ha (by rw [u]; decide))]
  · rw [uI_2, uA_o _ _ _ _ (by decide)]
  · rw [uI_2, uA_o _ _ _ _ (by decide)]
  · rw [uI_2, uA_o _ _ _ _ (by decide)]
  · rw [uI_1, if_neg (fun u => hj u.2)]
    rfl
