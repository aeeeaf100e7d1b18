/-! the reference's fewest hired wishers -/
theorem ones_pc : ∀ p : Fin 128, sm (fun i => if p.val.testBit i = true then 1 else 0) 7 = pc p.val := by decide +kernel
theorem m_ones_l {n p : Nat} {σ : bS} (hp : p < 128) : ∀ (k j : Nat), j ≤ 7 → 7 < j + k → m_ones_b4 n k (nI p) (nI (sm (fun i => if p.testBit i = true then 1 else 0) j)) (nI j) σ = some (nI (pc p), σ)
  | 0, j, h1, h2 => by omega
  | k + 1, j, h1, h2 => by
    rw [m_ones_b4, cb7_nI]
    by_cases hj : j < 7
    · have ih := m_ones_l (n := n) (σ := σ) hp k (j + 1) hj (by omega)
      rw [sm] at ih
      rw [if_neg (nI_ge hj (by omega)), bit_eq (by omega) (by omega), show (nI j + ci_1 : Int32) = nI (j + 1) from nI_add j 1]
      by_cases z : p.testBit j = true
      · rw [if_pos z, show (1 : Int32) = nI 1 from rfl, nI_add]
        rw [if_pos z] at ih
        exact ih
      · rw [if_neg z, show (0 : Int32) = nI 0 from rfl, nI_add]
        rw [if_neg z] at ih
        exact ih
    · have e : j = 7 := by omega
      subst e
      rw [if_pos (Int32.le_refl _), ones_pc ⟨p, hp⟩]
theorem m_ones_eq {n p : Nat} {σ : bS} (hn : 20 ≤ n) (hp : p < 128) : m_ones n (nI p) σ = some (nI (pc p), σ) := m_ones_l hp n 0 (by omega) (by omega)
/-- ahead of whom a pattern hires: the first place is the highest bit -/
abbrev hdP (c p : Nat) : Nat → Bool := fun q => p.testBit (c - 1 - q)
theorem m_by_l {T : aT} {L : aL} {G : aG} {n s p : Nat} {l : List Nat} {x1 : Int32} (hp : p < 2 ^ 31) : ∀ (k j : Nat) (σ : bS), MO T L G s l σ → (∀ q, q < j → σ.2.1 35 q = if hdP (cS s) p q = true then 1 else 0) → j ≤ cS s → cS s < j + k → ∃ σ', m_goodBy_b2 n k x1 (nI p) (nI j) σ = (ob (m_rowGoes n x1 σ') fun q1 => ob (m_areHome n q1) fun q2 => bz q2.1 q2.2) ∧ (∀ q, q < cS s → σ'.2.1 35 q = if hdP (cS s) p q = true then 1 else 0) ∧ frM (fun _ => False) (fun a => a = 35) σ σ'
  | 0, j, σ, H, a, h1, h2 => by omega
  | k + 1, j, σ, H, a, h1, h2 => by
    have c7 := cS_7 (s := s)
    have e49 : sI σ 0 49 = nI (cS s) := H.2.2.1.1
    rw [m_goodBy_b2, e49]
    by_cases hj : j < cS s
    · have ec : nI (cS s) - ci_1 = nI (cS s - 1) := by rw [ci1_nI, nI_sub (by omega)]
      rw [if_neg (nI_ge hj (by omega)), m_goodBy_b22, m_goodBy_b24, ec, nI_sub (by omega)]
      have go : ∀ v, v = (if hdP (cS s) p j = true then 1 else 0) → ∃ σ', m_goodBy_b36 n (m_goodBy_b2 n k) x1 (nI p) (nI j) (nI j) v σ = (ob (m_rowGoes n x1 σ') fun q1 => ob (m_areHome n q1) fun q2 => bz q2.1 q2.2) ∧ (∀ q, q < cS s → σ'.2.1 35 q = if hdP (cS s) p q = true then 1 else 0) ∧ frM (fun _ => False) (fun a => a = 35) σ σ' := fun v hv => by
        have hnar : vp_nar .boolean v = v := by
          rw [hv]
          split <;> decide
        unfold m_goodBy_b36
        rw [bin_nI (by omega) (by decide), hnar, ci1_nI, nI_add]
        obtain ⟨σ2, c1, c2, c3⟩ := m_by_l (T := T) (L := L) (G := G) (n := n) (x1 := x1) hp k (j + 1) (uA σ 35 (nI j) v) ⟨H.1.of (fun a x y => uA_o _ _ _ _ (by omega)), H.2.1, ⟨H.2.2.1.1, fun q hq => by rw [uA_o _ _ _ _ (by decide)]; exact H.2.2.1.2 q hq⟩, H.2.2.2⟩ (fun q hq => by
          rw [uA_2, nI_clamp (by omega)]
          by_cases z : q = j
          · subst z
            rw [if_pos ⟨rfl, rfl⟩, hv]
          · rw [if_neg (fun u => z u.2)]
            exact a q (by omega)) hj (by omega)
        exact ⟨σ2, c1, c2, frM.trans (frM.uA (PI := fun _ => False) (PA := fun a => a = 35) rfl) c3⟩
      by_cases z : p.testBit (cS s - 1 - j) = true
      · rw [if_pos ((bit_is hp (show cS s - 1 - j < 7 by omega)).mpr z)]
        exact go _ (by rw [if_pos (show hdP (cS s) p j = true from z)]; rfl)
      · rw [if_neg (fun u => z ((bit_is hp (show cS s - 1 - j < 7 by omega)).mp u))]
        exact go _ (by rw [if_neg (show ¬ hdP (cS s) p j = true from z)]; rfl)
    · have e : j = cS s := by omega
      rw [if_pos (by rw [e]; exact Int32.le_refl _)]
      exact ⟨σ, rfl, fun q hq => a q (by omega), frM.rf⟩
/-- with this pattern of N hires all come home -/
noncomputable def gp (T : aT) (L : aL) (G : aG) (h s l0 N : Nat) (l : List Nat) (p : Nat) : Bool := decide (pc p = N) && gdR T L G h s l0 (hdP (cS s) p) l
theorem m_goodBy_eq {T : aT} {L : aL} {n b h s l0 p : Nat} {G : aG} {l : List Nat} {σ : bS} (hn : 1000 ≤ n) (hI : InvT T L) (hi : InvG T 5000 G) (hh : G 0 0 = nI h) (hx : h + 20 ≤ 170000) (hb : b < tG T) (hs0 : 0 < s) (hs : s < 2 ^ tM T) (hf : ∀ m, s.testBit m = true → m < tM T ∧ G 5 m = nI (tFoot T b)) (hl0 : l0 ≤ tB T) (hG3 : G 3 b = lI l0) (hl : l ∈ pL (cS s) (List.range (cS s))) (H : MO T L G s l σ) (hp : p < 2 ^ 31) : ∃ σ', m_goodBy n (nI b) (nI p) σ = some (if gdR T L G h s l0 (hdP (cS s) p) l = true then 1 else 0, σ') ∧ MO T L G s l σ' ∧ frQ σ σ' := by
  have c7 := cS_7 (s := s)
  obtain ⟨σ1, a1, a2, a3⟩ := m_by_l (n := n) (x1 := nI b) hp n 0 σ H (fun q hq => by omega) (by omega) (by omega)
  have f1 : frQ σ σ1 := frQ.ofM a3 (fun k z => z.elim) (fun a z => by unfold scrA; omega)
  have H1 : MO T L G s l σ1 := H.fr hI f1 (a3.1 53 (fun z => z)) ⟨(a3.1 49 (fun z => z)).trans H.2.2.1.1, fun q hq => by rw [a3.2.1 34 (by decide)]; exact H.2.2.1.2 q hq⟩
  obtain ⟨σ2, b1, b2, b3, b4, b5⟩ := m_one (n := n) (hd := hdP (cS s) p) hn hI hi hh hx hb hs0 hs hf hl0 hG3 hl H1 a2
  refine ⟨σ2, ?_, b3, f1.trans b5⟩
  unfold m_goodBy
  rw [show m_goodBy_b2 n n (nI b) (nI p) ci_0 σ = _ from a1, b1, ob_def, b2, ob_def]
  show bz (if gdR T L G h s l0 (hdP (cS s) p) l = true then 1 else 0) σ2 = _
  split <;> rfl
/-- the first order of these, and the first pattern, with N hires -/
def FstP (T : aT) (L : aL) (G : aG) (h s l0 N : Nat) (ls : List (List Nat)) (y : List Nat) (p : Nat) : Prop := ∃ pre post, ls = pre ++ y :: post ∧ (∀ x, x ∈ pre → ∀ p', p' < 2 ^ cS s → gp T L G h s l0 N x p' = false) ∧ p < 2 ^ cS s ∧ gp T L G h s l0 N y p = true ∧ ∀ p', p' < p → gp T L G h s l0 N y p' = false
theorem FstP.cons {T : aT} {L : aL} {G : aG} {h s l0 N : Nat} {l y : List Nat} {ls : List (List Nat)} {p : Nat} (hl : ∀ p', p' < 2 ^ cS s → gp T L G h s l0 N l p' = false) (H : FstP T L G h s l0 N ls y p) : FstP T L G h s l0 N (l :: ls) y p := by
  obtain ⟨pre, post, e, a, b⟩ := H
  refine ⟨l :: pre, post, by rw [e]; rfl, fun x hx => ?_, b⟩
  rcases List.mem_cons.mp hx with rfl | hx
  · exact hl
  · exact a x hx
theorem m_pats_l {T : aT} {L : aL} {n b h s l0 N : Nat} {G : aG} {l : List Nat} {r9 : Int32 → Int32 → Int32 → bS → Option (Int32 × bS)} (hn : 1000 ≤ n) (hI : InvT T L) (hi : InvG T 5000 G) (hh : G 0 0 = nI h) (hx : h + 20 ≤ 170000) (hb : b < tG T) (hs0 : 0 < s) (hs : s < 2 ^ tM T) (hf : ∀ m, s.testBit m = true → m < tM T ∧ G 5 m = nI (tFoot T b)) (hl0 : l0 ≤ tB T) (hG3 : G 3 b = lI l0) (hN : N ≤ 100) (hl : l ∈ pL (cS s) (List.range (cS s))) : ∀ (k p : Nat) (σ : bS), MO T L G s l σ → (∀ p', p' < p → gp T L G h s l0 N l p' = false) → p ≤ 2 ^ cS s → 2 ^ cS s < p + k → (∃ p0 σ', p0 < 2 ^ cS s ∧ gp T L G h s l0 N l p0 = true ∧ (∀ p', p' < p0 → gp T L G h s l0 N l p' = false) ∧ m_rowWith_b17 n r9 k (nI b) (nI N) (nI p) σ = some (1, σ') ∧ MO T L G s l σ' ∧ σ'.1 0 55 = nI p0 ∧ frQ σ σ') ∨ ((∀ p', p' < 2 ^ cS s → gp T L G h s l0 N l p' = false) ∧ ∃ σ', m_rowWith_b17 n r9 k (nI b) (nI N) (nI p) σ = (ob (m_turns n σ') fun q1 => r9 (nI b) (nI N) q1.1 q1.2) ∧ MO T L G s l σ' ∧ frQ σ σ')
  | 0, p, σ, H, a, h1, h2 => by omega
  | k + 1, p, σ, H, a, h1, h2 => by
    have c7 := cS_7 (s := s)
    have h128 : (2 : Nat) ^ cS s ≤ 2 ^ 7 := Nat.pow_le_pow_right (by decide) c7
    have e49 : sI σ 0 49 = nI (cS s) := H.2.2.1.1
    rw [m_rowWith_b17, e49, ci1_1, one_shl c7]
    by_cases hp : p < 2 ^ cS s
    · have pcl := pc_le (s := p)
      rw [if_neg (nI_ge hp (by omega)), m_ones_eq (by omega) (by omega), ob_def]
      have next : ∀ σ1, gp T L G h s l0 N l p = false → MO T L G s l σ1 → frQ σ σ1 → _ := fun σ1 g H1 f1 => m_pats_l (r9 := r9) hn hI hi hh hx hb hs0 hs hf hl0 hG3 hN hl k (p + 1) σ1 H1 (fun p' hp' => by
        by_cases z : p' = p
        · subst z
          exact g
        · exact a p' (by omega)) (by omega) (by omega)
      have wrap : ∀ σ1, gp T L G h s l0 N l p = false → MO T L G s l σ1 → frQ σ σ1 → (∃ p0 σ', p0 < 2 ^ cS s ∧ gp T L G h s l0 N l p0 = true ∧ (∀ p', p' < p0 → gp T L G h s l0 N l p' = false) ∧ m_rowWith_b55 n r9 (m_rowWith_b17 n r9 k) (nI b) (nI N) (nI p) σ1 = some (1, σ') ∧ MO T L G s l σ' ∧ σ'.1 0 55 = nI p0 ∧ frQ σ σ') ∨ ((∀ p', p' < 2 ^ cS s → gp T L G h s l0 N l p' = false) ∧ ∃ σ', m_rowWith_b55 n r9 (m_rowWith_b17 n r9 k) (nI b) (nI N) (nI p) σ1 = (ob (m_turns n σ') fun q1 => r9 (nI b) (nI N) q1.1 q1.2) ∧ MO T L G s l σ' ∧ frQ σ σ') := fun σ1 g H1 f1 => by
        rw [m_rowWith_b55, ci1_nI, nI_add]
        rcases next σ1 g H1 f1 with ⟨p0, σ', q1, q2, q3, q4, q5, q6, q7⟩ | ⟨q1, σ', q2, q3, q4⟩
        · exact Or.inl ⟨p0, σ', q1, q2, q3, q4, q5, q6, f1.trans q7⟩
        · exact Or.inr ⟨q1, σ', q2, q3, f1.trans q4⟩
      by_cases e : pc p = N
      · obtain ⟨σ1, c1, c2, c3⟩ := m_goodBy_eq (n := n) (p := p) hn hI hi hh hx hb hs0 hs hf hl0 hG3 hl H (by omega)
        rw [if_pos (by rw [e]), c1, ob_def]
        by_cases g : gdR T L G h s l0 (hdP (cS s) p) l = true
        · left
          rw [if_pos g]
          simp only [if_neg one_ne]
          refine ⟨p, uI σ1 0 55 (nI p), hp, ?_, a, by rfl, ⟨c2.1.of (fun _ _ _ => rfl), c2.2.1, ⟨c2.2.2.1.1, c2.2.2.1.2⟩, c2.2.2.2⟩, rfl, c3.trans (frQ.uI ⟨by decide, by decide, by decide, by decide, by decide⟩)⟩
          unfold gp
          rw [decide_eq_true e, g]
          rfl
        · rw [if_neg g]
          simp only [if_true]
          refine wrap σ1 ?_ c2 c3
          unfold gp
          cases q : gdR T L G h s l0 (hdP (cS s) p) l
          · exact Bool.and_false _
          · exact absurd q g
      · rw [if_neg (fun u => e (nI_inj (by omega) (by omega) u))]
        refine wrap σ ?_ H frQ.rf
        unfold gp
        rw [decide_eq_false e]
        rfl
    · have e : p = 2 ^ cS s := by omega
      right
      rw [if_pos (by rw [e]; exact Int32.le_refl _)]
      exact ⟨fun p' hp' => a p' (by omega), σ, rfl, H, frQ.rf⟩
theorem m_with_l {T : aT} {L : aL} {n b h s l0 N : Nat} {G : aG} (hn : 1000 ≤ n) (hI : InvT T L) (hi : InvG T 5000 G) (hh : G 0 0 = nI h) (hx : h + 20 ≤ 170000) (hb : b < tG T) (hs0 : 0 < s) (hs : s < 2 ^ tM T) (hf : ∀ m, s.testBit m = true → m < tM T ∧ G 5 m = nI (tFoot T b)) (hl0 : l0 ≤ tB T) (hG3 : G 3 b = lI l0) (hN : N ≤ 100) : ∀ (t : List (List Nat)) (l : List Nat) (k : Nat) (σ : bS), chk (cS s) (l :: t) = true → (∀ x, x ∈ l :: t → x ∈ pL (cS s) (List.range (cS s))) → MO T L G s l σ → t.length + 1 < k → (∃ y p σ', FstP T L G h s l0 N (l :: t) y p ∧ m_rowWith_b9 n k (nI b) (nI N) ci_1 σ = some (1, σ') ∧ MO T L G s y σ' ∧ σ'.1 0 55 = nI p ∧ frQ σ σ') ∨ ((∀ x, x ∈ l :: t → ∀ p', p' < 2 ^ cS s → gp T L G h s l0 N x p' = false) ∧ ∃ σ', m_rowWith_b9 n k (nI b) (nI N) ci_1 σ = some (0, σ') ∧ frQ σ σ')
  | t, l, 0, σ, hck, hmem, H, hk => by omega
  | t, l, k + 1, σ, hck, hmem, H, hk => by
    have hM := hI.2.2.2.1
    have h7 : (2 : Nat) ^ tM T ≤ 2 ^ 7 := Nat.pow_le_pow_right (by decide) hM
    have c7 := cS_7 (s := s)
    have h128 : (2 : Nat) ^ cS s ≤ 2 ^ 7 := Nat.pow_le_pow_right (by decide) c7
    have hl := hmem l (List.mem_cons_self ..)
    rw [m_rowWith_b9, if_neg (show ¬ ci_1 = 0 by decide)]
    rcases m_pats_l (r9 := m_rowWith_b9 n k) hn hI hi hh hx hb hs0 hs hf hl0 hG3 hN hl n 0 σ H (fun p' hp' => by omega) (Nat.zero_le _) (by omega) with ⟨p0, σ1, q1, q2, q3, q4, q5, q6, q7⟩ | ⟨q1, σ1, q2, q3, q4⟩
    · exact Or.inl ⟨l, p0, σ1, ⟨[], t, rfl, (fun x hx => by cases hx), q1, q2, q3⟩, q4, q5, q6, q7⟩
    · rw [show m_rowWith_b17 n (m_rowWith_b9 n k) n (nI b) (nI N) ci_0 σ = _ from q2]
      rcases m_nextO (n := n) (by omega) hI hs0 (by omega) hck hl q3 with ⟨rfl, e2⟩ | ⟨l', t', σ3, rfl, e2, e3, e4, e5⟩
      · right
        refine ⟨fun x hx => by rw [List.mem_singleton.mp hx]; exact q1, σ1, ?_, q4⟩
        rw [e2, ob_def]
        show m_rowWith_b9 n k (nI b) (nI N) 0 σ1 = _
        rw [show k = (k - 1) + 1 by simp at hk; omega, m_rowWith_b9, if_pos rfl]
        rfl
      · have f3 : frQ σ σ3 := q4.trans (frQ.ofM e5 (fun k z => z.elim) (fun a z => by unfold scrA; omega))
        rw [e2, ob_def]
        rcases m_with_l hn hI hi hh hx hb hs0 hs hf hl0 hG3 hN t' l' k σ3 e3 (fun x hx => hmem x (List.mem_cons_of_mem _ hx)) e4 (by rw [List.length_cons] at hk; omega) with ⟨y, p, σ4, r1, r2, r3, r4, r5⟩ | ⟨r1, σ4, r2, r3⟩
        · exact Or.inl ⟨y, p, σ4, r1.cons q1, r2, r3, r4, f3.trans r5⟩
        · refine Or.inr ⟨fun x hx => ?_, σ4, r2, f3.trans r3⟩
          rcases List.mem_cons.mp hx with rfl | hx
          · exact q1
          · exact r1 x hx
theorem m_withR {T : aT} {L : aL} {n b h s l0 N : Nat} {G : aG} {σ : bS} (hn : 6000 ≤ n) (hI : InvT T L) (hi : InvG T 5000 G) (hh : G 0 0 = nI h) (hx : h + 20 ≤ 170000) (hb : b < tG T) (hs0 : 0 < s) (hs : s < 2 ^ tM T) (hf : ∀ m, s.testBit m = true → m < tM T ∧ G 5 m = nI (tFoot T b)) (hl0 : l0 ≤ tB T) (hG3 : G 3 b = lI l0) (hN : N ≤ 100) (hT : MTx T L σ) (hG : MG T 0 G σ) : (∃ y p σ', FstP T L G h s l0 N (pL (cS s) (List.range (cS s))) y p ∧ m_rowWith n (nI b) (nI s) (nI N) σ = some (1, σ') ∧ MO T L G s y σ' ∧ σ'.1 0 55 = nI p ∧ frQ σ σ') ∨ ((∀ x, x ∈ pL (cS s) (List.range (cS s)) → ∀ p', p' < 2 ^ cS s → gp T L G h s l0 N x p' = false) ∧ ∃ σ', m_rowWith n (nI b) (nI s) (nI N) σ = some (0, σ') ∧ frQ σ σ') := by
  have hM := hI.2.2.2.1
  have h7 : (2 : Nat) ^ tM T ≤ 2 ^ 7 := Nat.pow_le_pow_right (by decide) hM
  have c7 := cS_7 (s := s)
  have c0 := rowL_pos (z := 0) hs0 (show s < 128 by omega)
  obtain ⟨σ1, r1, r2, r3, r4⟩ := m_lays_row (n := n) (z := 0) (by omega) hM (show s < 2 ^ 31 by omega) (by decide) hT.1.2.2.2
  rw [← rowL_top hs hM] at r2
  have f1 : frQ σ σ1 := frQ.ofM r4 (fun k z => by unfold scrI; omega) (fun a z => by unfold scrA; omega)
  obtain ⟨ck, t, et⟩ := chk_all c0 c7
  have pc5 : (pL (cS s) (List.range (cS s))).length ≤ 5040 := pL_count ⟨cS s, by omega⟩
  rw [et] at ck pc5
  have len : t.length + 1 ≤ 5040 := pc5
  have H1 : MO T L G s (List.range (cS s)) σ1 := ⟨hT.of (fun a x y => f1.2.1 a (by unfold scrA; omega)), hG.of ⟨hI.2.2.1, hM⟩ (fun j x y => f1.2.2 j (by omega)), ⟨r2.1, fun q hq => by
    rw [(r2.2 q hq).1]
    show nI (eS s q) = nI (eS s ((List.range (cS s)).getD q 0))
    rw [getD_get (by rw [List.length_range]; exact hq), List.getElem_range]⟩, r3⟩
  have top : ∀ x, m_rowWith n (nI b) (nI s) (nI N) σ = x ↔ m_rowWith_b9 n n (nI b) (nI N) ci_1 σ1 = x := fun x => by
    unfold m_rowWith
    rw [show m_laysRow n (nI s) ci_0 σ = some σ1 from r1, ob_def]
  rcases m_with_l (n := n) (by omega) hI hi hh hx hb hs0 hs hf hl0 hG3 hN t (List.range (cS s)) n σ1 ck (fun x hx => by rw [et]; exact hx) H1 (by omega) with ⟨y, p, σ4, q1, q2, q3, q4, q5⟩ | ⟨q1, σ4, q2, q3⟩
  · left
    rw [et]
    exact ⟨y, p, σ4, q1, (top _).mpr q2, q3, q4, f1.trans q5⟩
  · right
    rw [et]
    exact ⟨q1, σ4, (top _).mpr q2, f1.trans q3⟩
/-- whether some order with N hires brings all home -/
def exN (T : aT) (L : aL) (G : aG) (h s l0 N : Nat) : Prop := ∃ x, x ∈ pL (cS s) (List.range (cS s)) ∧ ∃ p, p < 2 ^ cS s ∧ gp T L G h s l0 N x p = true
theorem m_few_l {T : aT} {L : aL} {n b h s l0 K : Nat} {G : aG} (hn : 6000 ≤ n) (hI : InvT T L) (hi : InvG T 5000 G) (hh : G 0 0 = nI h) (hx : h + 20 ≤ 170000) (hb : b < tG T) (hs0 : 0 < s) (hs : s < 2 ^ tM T) (hf : ∀ m, s.testBit m = true → m < tM T ∧ G 5 m = nI (tFoot T b)) (hl0 : l0 ≤ tB T) (hG3 : G 3 b = lI l0) (hK : exN T L G h s l0 K) (hK7 : K ≤ 7) : ∀ (k N : Nat) (σ : bS), MTx T L σ → MG T 0 G σ → (∀ N', N' < N → ¬ exN T L G h s l0 N') → N ≤ K → K < N + k → ∃ N0 y p σ', (∀ N', N' < N0 → ¬ exN T L G h s l0 N') ∧ N0 ≤ 7 ∧ FstP T L G h s l0 N0 (pL (cS s) (List.range (cS s))) y p ∧ m_fewestHired_b2 n k (nI b) (nI s) (nI N) σ = some (nI N0, σ') ∧ MO T L G s y σ' ∧ σ'.1 0 55 = nI p ∧ frQ σ σ'
  | 0, N, σ, hT, hG, a, h1, h2 => by omega
  | k + 1, N, σ, hT, hG, a, h1, h2 => by
    rw [m_fewestHired_b2]
    rcases m_withR (N := N) hn hI hi hh hx hb hs0 hs hf hl0 hG3 (by omega) hT hG with ⟨y, p, σ4, q1, q2, q3, q4, q5⟩ | ⟨q1, σ4, q2, q3⟩
    · refine ⟨N, y, p, σ4, a, by omega, q1, ?_, q3, q4, q5⟩
      rw [q2, ob_def, if_neg one_ne]
    · have no : ¬ exN T L G h s l0 N := fun ⟨x, hx, p, hp, g⟩ => by
        rw [q1 x hx p hp] at g
        cases g
      have ne : ¬ N = K := fun u => no (by rw [u]; exact hK)
      rw [q2, ob_def, if_pos rfl, ci1_nI, nI_add]
      obtain ⟨N0, y, p, σ5, r1, r2, r3, r4, r5, r6, r7⟩ := m_few_l hn hI hi hh hx hb hs0 hs hf hl0 hG3 hK hK7 k (N + 1) σ4 (hT.of (fun a x y => q3.2.1 a (by unfold scrA; omega))) (hG.of ⟨hI.2.2.1, hI.2.2.2.1⟩ (fun j x y => q3.2.2 j (by omega))) (fun N' hN' => by
        by_cases z : N' = N
        · subst z
          exact no
        · exact a N' (by omega)) (by omega) (by omega)
      exact ⟨N0, y, p, σ5, r1, r2, r3, r4, r5, r6, q3.trans r7⟩
/-- with a wisher ahead of each all come home -/
theorem rP_hired {ho : Nat → Nat} {W : Nat → Nat → Nat → Nat} {R : Nat → Nat} {hd : Nat → Bool} {l0 : Nat} : ∀ p, (∀ q, q < p → hd q = true) → ∃ la, rP ho W R hd l0 p = some (la, false)
  | 0, _ => ⟨l0, rfl⟩
  | p + 1, h => by
    obtain ⟨la, e⟩ := rP_hired (ho := ho) (W := W) (R := R) (l0 := l0) p (fun q hq => h q (by omega))
    rw [rP, e]
    have z := h p (by omega)
    show ∃ la', (if ¬ (if hd p = true then ho (R p) + 1 else la) = 0 ∧ (¬ ho (R p) + 1 = (if hd p = true then ho (R p) + 1 else la) ∨ (false = true ∧ ∃ q, q < p ∧ ¬ ho (R q) + 1 = (if hd p = true then ho (R p) + 1 else la))) then none else some (_, decide ((if hd p = true then ho (R p) + 1 else la) = 0))) = some (la', false)
    rw [if_pos z]
    rw [if_neg (fun u => u.2.elim (fun v => v rfl) (fun v => by cases v.1)), decide_eq_false (by omega)]
    exact ⟨_, rfl⟩
theorem all_bits : ∀ c : Fin 8, (pc (2 ^ c.val - 1) = c.val) ∧ ∀ q : Fin 8, q.val < c.val → (2 ^ c.val - 1).testBit (c.val - 1 - q.val) = true := by decide +kernel
theorem exN_all {T : aT} {L : aL} {G : aG} {h s l0 : Nat} (h0 : 0 < s) (hs : s < 128) : exN T L G h s l0 (cS s) := by
  have c7 := cS_7 (s := s)
  obtain ⟨-, t, et⟩ := chk_all (rowL_pos (z := 0) h0 hs) c7
  obtain ⟨b1, b2⟩ := all_bits ⟨cS s, by omega⟩
  have b1 : pc (2 ^ cS s - 1) = cS s := b1
  have pos : 0 < 2 ^ cS s := Nat.two_pow_pos _
  refine ⟨List.range (cS s), by rw [et]; exact List.mem_cons_self .., 2 ^ cS s - 1, by omega, ?_⟩
  obtain ⟨la, e⟩ := rP_hired (ho := tHome T) (W := wN T L G h) (R := fun q => eS s ((List.range (cS s)).getD q 0)) (hd := hdP (cS s) (2 ^ cS s - 1)) (l0 := l0) (cS s) (fun q hq => b2 ⟨q, by omega⟩ hq)
  unfold gp gdR
  rw [decide_eq_true b1, e]
  rfl
theorem m_few {T : aT} {L : aL} {n b h s l0 : Nat} {G : aG} {σ : bS} (hn : 6000 ≤ n) (hI : InvT T L) (hi : InvG T 5000 G) (hh : G 0 0 = nI h) (hx : h + 20 ≤ 170000) (hb : b < tG T) (hs0 : 0 < s) (hs : s < 2 ^ tM T) (hf : ∀ m, s.testBit m = true → m < tM T ∧ G 5 m = nI (tFoot T b)) (hl0 : l0 ≤ tB T) (hG3 : G 3 b = lI l0) (hT : MTx T L σ) (hG : MG T 0 G σ) : ∃ N0 y p σ', (∀ N', N' < N0 → ¬ exN T L G h s l0 N') ∧ N0 ≤ 7 ∧ FstP T L G h s l0 N0 (pL (cS s) (List.range (cS s))) y p ∧ m_fewestHired n (nI b) (nI s) σ = some (nI N0, σ') ∧ MO T L G s y σ' ∧ σ'.1 0 55 = nI p ∧ frQ σ σ' := by
  have hM := hI.2.2.2.1
  have h7 : (2 : Nat) ^ tM T ≤ 2 ^ 7 := Nat.pow_le_pow_right (by decide) hM
  have c7 := cS_7 (s := s)
  exact m_few_l hn hI hi hh hx hb hs0 hs hf hl0 hG3 (exN_all hs0 (by omega)) c7 n 0 σ hT hG (fun N' hN' => by omega) (by omega) (by omega)
