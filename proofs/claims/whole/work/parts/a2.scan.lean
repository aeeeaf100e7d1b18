/-! the reference scans the TOKENS -/
def mkK (k : Nat) : Nat := if k = 0 then 4 else if k = 1 then 5 else if k = 2 then 0 else if k = 3 then 1 else if k ≤ 12 then 2 else 3
theorem sB_sgK : ∀ x : Fin 256, ¬ sgK x.val = 1 → sB (sgK x.val) = x.val := by decide +kernel
def TkA (by_ : Nat → Nat) (t q c : Nat) (σ : bS) : Prop := σ.2.1 2 c = nI (mkK (kdA by_ t q)) ∧ σ.2.1 3 c = nI q ∧ (kdA by_ t q = 2 → σ.2.2 5 c = Int64.ofNat (kR 27 (wdA by_ t q))) ∧ (kdA by_ t q = 3 → σ.2.1 4 c = nI (vlA by_ t q)) ∧ (4 ≤ kdA by_ t q → kdA by_ t q ≤ 12 → σ.2.1 4 c = nI (sB (kdA by_ t q))) ∧ (13 ≤ kdA by_ t q → σ.2.1 4 c = nI (kdA by_ t q - 13))
def frT (σ σ' : bS) : Prop := (∀ k, ¬ k = 2 → σ'.1 0 k = σ.1 0 k) ∧ (∀ a, ¬ (a = 2 ∨ a = 3 ∨ a = 4) → σ'.2.1 a = σ.2.1 a) ∧ ∀ a, ¬ a = 5 → σ'.2.2 a = σ.2.2 a
theorem frT.rf {σ : bS} : frT σ σ := ⟨fun _ _ => rfl, fun _ _ => rfl, fun _ _ => rfl⟩
theorem frT.trans {σ σ1 σ2 : bS} (h : frT σ σ1) (g : frT σ1 σ2) : frT σ σ2 := ⟨fun k hk => (g.1 k hk).trans (h.1 k hk), fun a ha => (g.2.1 a ha).trans (h.2.1 a ha), fun a ha => (g.2.2 a ha).trans (h.2.2 a ha)⟩
def kpT (c : Nat) (σ σ' : bS) : Prop := ∀ j, ¬ j = c → σ'.2.1 2 j = σ.2.1 2 j ∧ σ'.2.1 3 j = σ.2.1 3 j ∧ σ'.2.1 4 j = σ.2.1 4 j ∧ σ'.2.2 5 j = σ.2.2 5 j
def pMt (σ : bS) (c : Nat) (kd pl v : Int32) : bS := uI (uA (uA (uA σ 2 (nI c) kd) 3 (nI c) pl) 4 (nI c) v) 0 2 (nI (c + 1))
theorem m_tok {n c : Nat} {kd pl v : Int32} {σ : bS} (h : σ.1 0 2 = nI c) (hc : c ≤ 2000) : m_token n kd pl v σ = some (pMt σ c kd pl v) := by
  have e1 : ∀ i w, sI (uA σ 2 i w) 0 2 = nI c := fun _ _ => h
  have e2 : ∀ i w i2 w2, sI (uA (uA σ 2 i w) 3 i2 w2) 0 2 = nI c := fun _ _ _ _ => h
  have e3 : ∀ i w i2 w2 i3 w3, sI (uA (uA (uA σ 2 i w) 3 i2 w2) 4 i3 w3) 0 2 = nI c := fun _ _ _ _ _ _ => h
  unfold m_token
  rw [e3, e2, e1, show sI σ 0 2 = nI c from h, bin_nI (by omega) (by decide), bin_nI (by omega) (by decide), bin_nI (by omega) (by decide), nI_s]
  rfl
theorem pMt_is {σ : bS} {c : Nat} {kd pl v : Int32} (hc : c < 2 ^ 31) : (pMt σ c kd pl v).2.1 2 c = kd ∧ (pMt σ c kd pl v).2.1 3 c = pl ∧ (pMt σ c kd pl v).2.1 4 c = v ∧ (pMt σ c kd pl v).2.2 = σ.2.2 ∧ (pMt σ c kd pl v).1 0 2 = nI (c + 1) ∧ kpT c σ (pMt σ c kd pl v) ∧ frT σ (pMt σ c kd pl v) := by
  unfold pMt
  refine ⟨?_, ?_, ?_, rfl, ?_, fun j hj => ⟨?_, ?_, ?_, rfl⟩, fun k hk => ?_, fun a ha => ?_, fun a ha => rfl⟩
  · rw [uI_2, uA_o _ _ _ _ (by decide), uA_o _ _ _ _ (by decide), uA_2, nI_clamp hc, if_pos ⟨rfl, rfl⟩]
  · rw [uI_2, uA_o _ _ _ _ (by decide), uA_2, nI_clamp hc, if_pos ⟨rfl, rfl⟩]
  · rw [uI_2, uA_2, nI_clamp hc, if_pos ⟨rfl, rfl⟩]
  · rw [uI_1, if_pos ⟨rfl, rfl⟩]
  · rw [uI_2, uA_o _ _ _ _ (by decide), uA_o _ _ _ _ (by decide), uA_2, nI_clamp hc, if_neg (fun u => hj u.2)]
  · rw [uI_2, uA_o _ _ _ _ (by decide), uA_2, nI_clamp hc, if_neg (fun u => hj u.2)]
    rfl
  · rw [uI_2, uA_2, nI_clamp hc, if_neg (fun u => hj u.2)]
    rfl
  · rw [uI_1, if_neg (fun u => hk u.2)]
    rfl
  · rw [uI_2, uA_o _ _ _ _ (fun u => ha (Or.inr (Or.inr u))), uA_o _ _ _ _ (fun u => ha (Or.inr (Or.inl u))), uA_o _ _ _ _ (fun u => ha (Or.inl u))]
theorem m_word_l {by_ : Nat → Nat} {t n p : Nat} {σ : bS} (hB : BM by_ t σ) : ∀ (k j : Nat), p + j ≤ t → t < p + j + k → m_scan_b12 n k (nI p) (nI (p + j)) (Int64.ofNat (kR 27 (wR by_ p (min j 8)))) σ = m_scan_b54 n (nI p) (nI (eL by_ t (p + j))) (Int64.ofNat (kR 27 (wR by_ p (min (eL by_ t (p + j) - p) 8)))) (nI (eL by_ t (p + j) - p)) σ
  | 0, j, h1, h2 => by omega
  | k + 1, j, h1, h2 => by
    have ht := hB.1
    rw [m_scan_b12, m_isLt hB (by omega), ob_def]
    by_cases z : aLt by_ t (p + j) = true
    · have hp := (aLt_b.mp z).1
      have e : eL by_ t (p + j) = eL by_ t (p + (j + 1)) := eR_s hp z
      have ih := m_word_l (n := n) (p := p) hB k (j + 1) (by omega) (by omega)
      rw [if_pos z]
      simp only [if_neg one_ne]
      rw [m_scan_b23, nI_sub (by omega), Nat.add_sub_cancel_left, cb_8_n, e, ← ih]
      by_cases y : j < 8
      · rw [if_neg (nI_ge y (by omega)), m_byte hB (by omega), ob_def, m_scan_b45, nI_s, Nat.min_eq_left (by omega), Nat.min_eq_left (by omega), wR, kR, ← key_s, show btA by_ t (p + j) = by_ (p + j) from if_pos hp, ← mb_l64 ⟨_, hB.2.1 (p + j)⟩ (aLt_b.mp z).2, Int64.sub_eq_add_neg, Int64.add_assoc, ← Int64.sub_eq_add_neg]
        rfl
      · rw [if_pos ((nI_leI (by omega) (by omega)).mpr (by omega)), m_scan_b45, nI_s, Nat.min_eq_right (by omega), Nat.min_eq_right (by omega)]
        rfl
    · have e : eL by_ t (p + j) = p + j := eR_n z
      rw [if_neg z]
      simp only [if_true]
      rw [e, Nat.add_sub_cancel_left, nI_sub (by omega), Nat.add_sub_cancel_left]
theorem m_int_l {by_ : Nat → Nat} {t n p : Nat} {σ : bS} (hB : BM by_ t σ) : ∀ (k j : Nat), p + j ≤ t → t < p + j + k → m_scan_b120 n k (nI p) (nI (p + j)) (nI (iV by_ p (min j 4))) σ = m_scan_b159 n (nI p) (nI (eD by_ t (p + j))) (nI (iV by_ p (min (eD by_ t (p + j) - p) 4))) (nI (eD by_ t (p + j) - p)) σ
  | 0, j, h1, h2 => by omega
  | k + 1, j, h1, h2 => by
    have ht := hB.1
    rw [m_scan_b120, m_isDg hB (by omega), ob_def]
    by_cases z : aDg by_ t (p + j) = true
    · have hp := (aDg_b.mp z).1
      have hd := isDg_b (aDg_b.mp z).2
      have e : eD by_ t (p + j) = eD by_ t (p + (j + 1)) := eR_s hp z
      have ih := m_int_l (n := n) (p := p) hB k (j + 1) (by omega) (by omega)
      rw [if_pos z]
      simp only [if_neg one_ne]
      rw [m_scan_b131, nI_sub (by omega), Nat.add_sub_cancel_left, ci_4_n, e, ← ih]
      by_cases y : j < 4
      · rw [if_neg (nI_ge y (by omega)), m_byte hB (by omega), ob_def, m_scan_b148, m_scan_b149, nI_s, Nat.min_eq_left (by omega), Nat.min_eq_left (by omega), show btA by_ t (p + j) = by_ (p + j) from if_pos hp, cb_10_n, nI_mul, nI_add, show cb_48 = nI 48 by decide, nI_sub (by omega), iV, show 10 * iV by_ p j + by_ (p + j) - 48 = iV by_ p j * 10 + (by_ (p + j) - 48) by omega]
        rfl
      · rw [if_pos ((nI_leI (by omega) (by omega)).mpr (by omega)), m_scan_b149, nI_s, Nat.min_eq_right (by omega), Nat.min_eq_right (by omega)]
        rfl
    · have e : eD by_ t (p + j) = p + j := eR_n z
      rw [if_neg z]
      simp only [if_true]
      rw [e, Nat.add_sub_cancel_left, nI_sub (by omega), Nat.add_sub_cancel_left]
theorem uJ_5 {σ : bS} {c : Nat} {v : Int64} (hc : c < 2 ^ 31) : (uJ σ 5 (nI c) v).2.2 5 c = v ∧ (uJ σ 5 (nI c) v).1 0 2 = σ.1 0 2 ∧ kpT c σ (uJ σ 5 (nI c) v) ∧ frT σ (uJ σ 5 (nI c) v) := by
  refine ⟨?_, rfl, fun j hj => ⟨rfl, rfl, rfl, ?_⟩, fun _ _ => rfl, fun _ _ => rfl, fun a ha => ?_⟩
  · rw [uJ_3, nI_clamp hc, if_pos ⟨rfl, rfl⟩]
  · rw [uJ_3, nI_clamp hc, if_neg (fun u => hj u.2)]
  · funext j
    rw [uJ_3, if_neg (fun u => ha u.1)]
theorem m_tkone {by_ : Nat → Nat} {t n q c : Nat} {σ : bS} (hn : 2100 ≤ n) (hB : BM by_ t σ) (hq : q < t) (hc : c ≤ 2000) (h : σ.1 0 2 = nI c) : ∃ σ', m_scan n (nI q) σ = some (nI (ndA by_ t q), σ') ∧ TkA by_ t q c σ' ∧ σ'.1 0 2 = nI (c + 1) ∧ kpT c σ σ' ∧ frT σ σ' := by
  have ht := hB.1
  unfold m_scan
  rw [m_isLt hB (by omega), ob_def]
  by_cases z : isLt (by_ q) = true
  · obtain ⟨l1, l2, l3⟩ := eL_in (by_ := by_) (Nat.le_of_lt hq)
    rw [if_pos (aLt_b.mpr ⟨hq, z⟩)]
    simp only [if_neg one_ne]
    have e := m_word_l (n := n) (p := q) hB n 0 (by omega) (by omega)
    simp only [Nat.add_zero] at e
    rw [show m_scan_b12 n n (nI q) (nI q) (0 : Int64) σ = _ from e, m_scan_b54, cb_8_n]
    have ek : kdA by_ t q = if eL by_ t q - q ≤ 8 then wK (wR by_ q (eL by_ t q - q)) else 1 := by
      unfold kdA
      rw [if_pos hq, if_pos z]
    have en : ndA by_ t q = eL by_ t q := by
      unfold ndA
      rw [if_pos hq, if_pos z]
    rw [en]
    by_cases y : eL by_ t q - q ≤ 8
    · rw [if_pos y] at ek
      rw [if_pos ((nI_leI (by omega) (by omega)).mpr y), Nat.min_eq_left y, m_word (wR_ok _ l3) (by rw [wR_len]; exact y), ob_def, m_scan_b67, show sI σ 0 2 = nI c from h, bin_nI (by omega) (by decide), m_scan_b83, nI_sub l1, cb_8_n, if_pos ((nI_leI (by omega) (by omega)).mpr y)]
      obtain ⟨u1, u2, u3, u4⟩ := uJ_5 (σ := σ) (c := c) (v := Int64.ofNat (kR 27 (wR by_ q (eL by_ t q - q)))) (by omega)
      unfold wM
      by_cases w : wF (wR by_ q (eL by_ t q - q)) 24 0 < 24
      · have ek2 : kdA by_ t q = 13 + wF (wR by_ q (eL by_ t q - q)) 24 0 := by
          rw [ek]
          unfold wK
          rw [if_pos w]
        obtain ⟨p1, p2, p3, p4, p5, p6, p7⟩ := pMt_is (σ := uJ σ 5 (nI c) (Int64.ofNat (kR 27 (wR by_ q (eL by_ t q - q))))) (c := c) (kd := ci_3) (pl := nI q) (v := nI (wF (wR by_ q (eL by_ t q - q)) 24 0)) (by omega)
        rw [if_pos w, if_neg (nI_pos (by omega)), m_scan_b102, m_tok (u2.trans h) hc, ob_def]
        refine ⟨_, rfl, ⟨?_, p2, fun v => by omega, fun v => by omega, fun _ v => by omega, fun _ => ?_⟩, p5, fun j hj => ?_, u4.trans p7⟩
        · rw [p1, ek2]
          unfold mkK
          rw [if_neg (by omega), if_neg (by omega), if_neg (by omega), if_neg (by omega), if_neg (by omega)]
          decide
        · rw [p3, ek2, Nat.add_sub_cancel_left]
        · obtain ⟨a1, a2, a3, a4⟩ := p6 j hj
          obtain ⟨c1, c2, c3, c4⟩ := u3 j hj
          exact ⟨a1.trans c1, a2.trans c2, a3.trans c3, a4.trans c4⟩
      · have ek2 : kdA by_ t q = 2 := by
          rw [ek]
          unfold wK
          rw [if_neg w]
        obtain ⟨p1, p2, p3, p4, p5, p6, p7⟩ := pMt_is (σ := uJ σ 5 (nI c) (Int64.ofNat (kR 27 (wR by_ q (eL by_ t q - q))))) (c := c) (kd := ci_0) (pl := nI q) (v := -1) (by omega)
        rw [if_neg w, if_pos (show (-1 : Int32) < 0 by decide), m_scan_b102, m_tok (u2.trans h) hc, ob_def]
        refine ⟨_, rfl, ⟨?_, p2, fun v => ?_, fun v => by omega, fun v _ => by omega, fun v => by omega⟩, p5, fun j hj => ?_, u4.trans p7⟩
        · rw [p1, ek2]
          rfl
        · rw [p4]
          exact u1
        · obtain ⟨a1, a2, a3, a4⟩ := p6 j hj
          obtain ⟨c1, c2, c3, c4⟩ := u3 j hj
          exact ⟨a1.trans c1, a2.trans c2, a3.trans c3, a4.trans c4⟩
    · rw [if_neg y] at ek
      obtain ⟨u1, u2, u3, u4⟩ := uJ_5 (σ := σ) (c := c) (v := Int64.ofNat (kR 27 (wR by_ q (min (eL by_ t q - q) 8)))) (by omega)
      obtain ⟨p1, p2, p3, p4, p5, p6, p7⟩ := pMt_is (σ := uJ σ 5 (nI c) (Int64.ofNat (kR 27 (wR by_ q (min (eL by_ t q - q) 8))))) (c := c) (kd := ci_5) (pl := nI q) (v := ci_m1) (by omega)
      rw [if_neg (fun u => y ((nI_leI (by omega) (by omega)).mp u)), m_scan_b67, show sI σ 0 2 = nI c from h, bin_nI (by omega) (by decide), m_scan_b83, nI_sub l1, cb_8_n, if_neg (fun u => y ((nI_leI (by omega) (by omega)).mp u)), m_scan_b102, m_tok (u2.trans h) hc, ob_def]
      refine ⟨_, rfl, ⟨?_, p2, fun v => by omega, fun v => by omega, fun v _ => by omega, fun v => by omega⟩, p5, fun j hj => ?_, u4.trans p7⟩
      · rw [p1, ek]
        decide
      · obtain ⟨a1, a2, a3, a4⟩ := p6 j hj
        obtain ⟨c1, c2, c3, c4⟩ := u3 j hj
        exact ⟨a1.trans c1, a2.trans c2, a3.trans c3, a4.trans c4⟩
  · rw [if_neg (fun u => z (aLt_b.mp u).2)]
    simp only [if_true]
    rw [m_isDg hB (by omega), ob_def]
    by_cases w : isDg (by_ q) = true
    · obtain ⟨l1, l2, l3⟩ := eD_in (by_ := by_) (Nat.le_of_lt hq)
      rw [if_pos (aDg_b.mpr ⟨hq, w⟩)]
      simp only [if_neg one_ne]
      have e := m_int_l (n := n) (p := q) hB n 0 (by omega) (by omega)
      simp only [Nat.add_zero] at e
      rw [show m_scan_b120 n n (nI q) (nI q) ci_0 σ = _ from e, m_scan_b159, ci_4_n]
      have ek : kdA by_ t q = if eD by_ t q - q ≤ 4 then 3 else 1 := by
        unfold kdA
        rw [if_pos hq, if_neg z, if_pos w]
      have en : ndA by_ t q = eD by_ t q := by
        unfold ndA
        rw [if_pos hq, if_neg z, if_pos w]
      rw [en]
      by_cases y : eD by_ t q - q ≤ 4
      · rw [if_pos y] at ek
        obtain ⟨p1, p2, p3, p4, p5, p6, p7⟩ := pMt_is (σ := σ) (c := c) (kd := ci_1) (pl := nI q) (v := nI (iV by_ q (min (eD by_ t q - q) 4))) (by omega)
        rw [if_pos ((nI_leI (by omega) (by omega)).mpr y), m_scan_b168, m_tok h hc, ob_def]
        refine ⟨_, rfl, ⟨?_, p2, fun v => by omega, fun _ => ?_, fun v _ => by omega, fun v => by omega⟩, p5, p6, p7⟩
        · rw [p1, ek]
          rfl
        · rw [p3, Nat.min_eq_left y]
          rfl
      · rw [if_neg y] at ek
        obtain ⟨p1, p2, p3, p4, p5, p6, p7⟩ := pMt_is (σ := σ) (c := c) (kd := ci_5) (pl := nI q) (v := nI (iV by_ q (min (eD by_ t q - q) 4))) (by omega)
        rw [if_neg (fun u => y ((nI_leI (by omega) (by omega)).mp u)), m_scan_b168, m_tok h hc, ob_def]
        refine ⟨_, rfl, ⟨?_, p2, fun v => by omega, fun v => by omega, fun v _ => by omega, fun v => by omega⟩, p5, p6, p7⟩
        rw [p1, ek]
        decide
    · have ek : kdA by_ t q = sgK (by_ q) := by
        unfold kdA
        rw [if_pos hq, if_neg z, if_neg w]
      have en : ndA by_ t q = q + 1 := by
        unfold ndA
        rw [if_pos hq, if_neg z, if_neg w]
      have b256 := hB.2.1 q
      rw [if_neg (fun u => w (aDg_b.mp u).2)]
      simp only [if_true]
      rw [m_sign hB hq, ob_def, en]
      by_cases y : sgK (by_ q) = 1
      · obtain ⟨p1, p2, p3, p4, p5, p6, p7⟩ := pMt_is (σ := σ) (c := c) (kd := ci_5) (pl := nI q) (v := nI 0) (by omega)
        rw [if_pos y, if_pos (show (nI 0 : Int32) = 0 from rfl), m_scan_b191, m_tok h hc, ob_def, nI_s]
        refine ⟨_, rfl, ⟨?_, p2, fun v => by omega, fun v => by omega, fun v _ => by omega, fun v => by omega⟩, p5, p6, p7⟩
        rw [p1, ek, y]
        decide
      · have sb := sB_sgK ⟨by_ q, b256⟩ y
        have sb : sB (sgK (by_ q)) = by_ q := sb
        have nz : ¬ by_ q = 0 := fun u => y (by rw [u]; decide)
        obtain ⟨p1, p2, p3, p4, p5, p6, p7⟩ := pMt_is (σ := σ) (c := c) (kd := ci_2) (pl := nI q) (v := nI (by_ q)) (by omega)
        have si := sgK_in (by_ q)
        rw [if_neg y, if_neg (fun u => nz (nI_inj (by omega) (by decide) (u.trans (show (0 : Int32) = nI 0 from rfl)))), m_scan_b191, m_tok h hc, ob_def, nI_s]
        refine ⟨_, rfl, ⟨?_, p2, fun v => by omega, fun v => by omega, fun _ _ => ?_, fun v => by omega⟩, p5, p6, p7⟩
        · rw [p1, ek]
          unfold mkK
          rw [if_neg (by omega), if_neg (by omega), if_neg (by omega), if_neg (by omega), if_pos (by omega)]
          rfl
        · rw [p3, ek, sb]
theorem BM.fr {by_ : Nat → Nat} {t : Nat} {σ σ' : bS} (h : BM by_ t σ) (f : frT σ σ') : BM by_ t σ' := ⟨h.1, h.2.1, (f.1 0 (by decide)).trans h.2.2.1, fun j hj => by rw [f.2.1 1 (by decide)]; exact h.2.2.2 j hj⟩
def TkM (by_ : Nat → Nat) (t c : Nat) (σ : bS) : Prop := TkA by_ t (plN by_ t c) c σ
theorem TkA.kp {by_ : Nat → Nat} {t q c j : Nat} {σ σ' : bS} (h : TkA by_ t q j σ) (k : kpT c σ σ') (hj : ¬ j = c) : TkA by_ t q j σ' := by
  obtain ⟨a1, a2, a3, a4⟩ := k j hj
  unfold TkA
  rw [a1, a2, a3, a4]
  exact h
def AllM (by_ : Nat → Nat) (t cE : Nat) (σ : bS) : Prop := cE ≤ 2000 ∧ (∀ i, i < cE → 1 < kdN by_ t i) ∧ kdN by_ t cE ≤ 1 ∧ ∀ j, j ≤ cE → TkM by_ t j σ
theorem m_scan_l {by_ : Nat → Nat} {t n : Nat} (hn : 2100 ≤ n) : ∀ (k q c : Nat) (σ : bS), BM by_ t σ → σ.1 0 2 = nI c → (∀ j, j < c → TkM by_ t j σ ∧ 1 < kdN by_ t j) → q ≤ t → skB by_ t q = plN by_ t c → c ≤ q → t + 2 < q + k → ∃ cE σ', m_scanAll_b9 n k (nI q) ci_1 σ = some σ' ∧ AllM by_ t cE σ' ∧ frT σ σ'
  | 0, q, c, σ, hB, h2, hk, h3, h4, h5, h6 => by omega
  | k + 1, q, c, σ, hB, h2, hk, h3, h4, h5, h6 => by
    have ht := hB.1
    rw [m_scanAll_b9, show sI σ 0 0 = nI t from hB.2.2.1]
    by_cases hq : q < t
    · have e1 : (ci_1 : Int32) = 0 ↔ False := by decide
      rw [if_neg (nI_ge hq (by omega)), if_neg (show ¬ (ci_1 : Int32) = 0 by decide), m_byte hB (by omega), ob_def, show btA by_ t q = by_ q from if_pos hq]
      have hb := mb_bl ⟨by_ q, hB.2.1 q⟩
      have hb : (if nI (by_ q) = cb_32 then true else if nI (by_ q) = cb_9 then true else if nI (by_ q) = cb_10 then true else if nI (by_ q) = cb_13 then true else false) = isBl (by_ q) := hb
      have skip : isBl (by_ q) = true → ∃ cE σ', m_scanAll_b51 n (m_scanAll_b9 n k) (nI q) ci_1 σ = some σ' ∧ AllM by_ t cE σ' ∧ frT σ σ' := fun z => by
        rw [m_scanAll_b51, nI_s]
        exact m_scan_l hn k (q + 1) c σ hB h2 hk (by omega) ((eR_s hq (aBl_b.mpr ⟨hq, z⟩)).symm.trans h4) (by omega) (by omega)
      by_cases b1 : nI (by_ q) = cb_32
      · rw [if_pos b1] at hb
        rw [if_pos b1]
        exact skip hb.symm
      rw [if_neg b1] at hb
      rw [if_neg b1]
      by_cases b2 : nI (by_ q) = cb_9
      · rw [if_pos b2] at hb
        rw [if_pos b2]
        exact skip hb.symm
      rw [if_neg b2] at hb
      rw [if_neg b2]
      by_cases b3 : nI (by_ q) = cb_10
      · rw [if_pos b3] at hb
        rw [if_pos b3]
        exact skip hb.symm
      rw [if_neg b3] at hb
      rw [if_neg b3]
      by_cases b4 : nI (by_ q) = cb_13
      · rw [if_pos b4] at hb
        rw [if_pos b4]
        exact skip hb.symm
      rw [if_neg b4] at hb
      rw [if_neg b4]
      have eq : plN by_ t c = q := by
        rw [← h4]
        exact eR_n (fun u => by rw [(aBl_b.mp u).2] at hb; cases hb)
      obtain ⟨σ1, d1, d2, d3, d4, d5⟩ := m_tkone (n := n) (c := c) hn hB hq (by omega) h2
      rw [d1, ob_def, show sI σ1 0 2 = nI (c + 1) from d3, ci1_nI, nI_sub (by omega), Nat.add_sub_cancel, m_scanAll_b73, bin_nI (by omega) (by decide), sA_n _ _ (by omega), d2.1]
      have ek : kdN by_ t c = kdA by_ t q := by
        unfold kdN
        rw [eq]
      have tk : ∀ j, j < c + 1 → TkM by_ t j σ1 := fun j hj => by
        by_cases y : j = c
        · subst y
          unfold TkM
          rw [eq]
          exact d2
        · exact (hk j (by omega)).1.kp d4 y
      have nz : ¬ kdA by_ t q = 0 := by
        unfold kdA
        rw [if_pos hq]
        have := sgK_in (by_ q)
        have := wK_in (wR by_ q (eL by_ t q - q))
        split
        · split <;> omega
        · split
          · split <;> omega
          · omega
      by_cases y : kdA by_ t q = 1
      · rw [y, if_pos (show (nI (mkK 1) : Int32) = ci_5 by decide), m_scanAll_b83]
        obtain ⟨k', rfl⟩ : ∃ k', k = k' + 1 := ⟨k - 1, by omega⟩
        have fin : m_scanAll_b9 n (k' + 1) (nI (ndA by_ t q)) ci_0 σ1 = some σ1 := by
          rw [m_scanAll_b9]
          have e : m_scanAll_b87 n ci_0 σ1 = some σ1 := by
            rw [m_scanAll_b87, if_pos (show (ci_0 : Int32) = 0 by decide), m_scanAll_b101]
          rw [e, if_pos (show (ci_0 : Int32) = 0 by decide)]
          split <;> rfl
        rw [fin]
        refine ⟨c, σ1, rfl, ⟨by omega, fun i hi => (hk i hi).2, by omega, fun j hj => tk j (by omega)⟩, d5⟩
      · have nm : ¬ (nI (mkK (kdA by_ t q)) : Int32) = ci_5 := fun u => by
          have : mkK (kdA by_ t q) ≤ 5 ∧ ¬ mkK (kdA by_ t q) = 5 := by
            unfold mkK
            rw [if_neg nz, if_neg y]
            split
            · omega
            · split
              · omega
              · split <;> omega
          exact this.2 (nI_inj (by omega) (by decide) (u.trans (show ci_5 = nI 5 by decide)))
        have nd := (ndA_in (by_ := by_) (Nat.le_of_lt hq))
        rw [if_neg nm, m_scanAll_b83]
        obtain ⟨cE, σ2, g1, g2, g3⟩ := m_scan_l hn k (ndA by_ t q) (c + 1) σ1 (hB.fr d5) d3 (fun j hj => ⟨tk j hj, by
          by_cases x : j = c
          · subst x
            omega
          · exact (hk j (by omega)).2⟩) nd.1 (by
          show _ = skB by_ t (ndA by_ t (skB by_ t (atN by_ t c)))
          rw [show skB by_ t (atN by_ t c) = q from eq]) (by have := nd.2 hq; omega) (by have := nd.2 hq; omega)
        exact ⟨cE, σ2, g1, g2, d5.trans g3⟩
    · have e : q = t := by omega
      subst e
      have eq : plN by_ q c = q := by
        rw [← h4]
        exact eR_n (fun u => by have := (aBl_b.mp u).1; omega)
      have ek : kdA by_ q q = 0 := by
        unfold kdA
        rw [if_neg hq]
      obtain ⟨p1, p2, p3, p4, p5, p6, p7⟩ := pMt_is (σ := σ) (c := c) (kd := ci_4) (pl := nI q) (v := ci_0) (by omega)
      rw [if_pos (Int32.le_refl _), m_scanAll_b87, if_neg (show ¬ (ci_1 : Int32) = 0 by decide), show sI σ 0 0 = nI q from hB.2.2.1, m_tok h2 (by omega), ob_def, m_scanAll_b101]
      refine ⟨c, _, rfl, ⟨by omega, fun i hi => (hk i hi).2, ?_, fun j hj => ?_⟩, p7⟩
      · unfold kdN
        rw [eq, ek]
        omega
      · by_cases y : j = c
        · subst y
          unfold TkM
          rw [eq]
          refine ⟨?_, p2, fun v => by omega, fun v => by omega, fun v _ => by omega, fun v => by omega⟩
          rw [p1, ek]
          rfl
        · exact (hk j (by omega)).1.kp p6 y
