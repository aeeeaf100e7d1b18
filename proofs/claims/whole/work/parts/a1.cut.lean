/-! the class cuts the TOKENS -/
def iV (by_ : Nat → Nat) (p : Nat) : Nat → Nat
  | 0 => 0
  | j + 1 => iV by_ p j * 10 + (by_ (p + j) - 48)
theorem cb_l64 : ∀ x : Fin 256, isLt x.val = true → (cB x.val - cb_97 + ci_1).toInt64 = Int64.ofNat (x.val - 96) := by decide +kernel
theorem mb_l64 : ∀ x : Fin 256, isLt x.val = true → (nI x.val).toInt64 - 96 = Int64.ofNat (x.val - 96) := by decide +kernel
theorem cb_d : ∀ x : Fin 256, isDg x.val = true → cB x.val - cb_48 = nI (x.val - 48) := by decide +kernel
theorem key_s {a x B : Nat} : Int64.ofNat a * Int64.ofNat B + Int64.ofNat x = Int64.ofNat (a * B + x) := by
  rw [Int64.ofNat_add, Int64.ofNat_mul]
theorem isLt_b {x : Nat} (h : isLt x = true) : 97 ≤ x ∧ x ≤ 122 := by
  unfold isLt at h
  obtain ⟨a, b⟩ := Bool.and_eq_true_iff.mp h
  exact ⟨of_decide_eq_true a, of_decide_eq_true b⟩
theorem isDg_b {x : Nat} (h : isDg x = true) : 48 ≤ x ∧ x ≤ 57 := by
  unfold isDg at h
  obtain ⟨a, b⟩ := Bool.and_eq_true_iff.mp h
  exact ⟨of_decide_eq_true a, of_decide_eq_true b⟩
theorem aLt_b {by_ : Nat → Nat} {t p : Nat} : aLt by_ t p = true ↔ p < t ∧ isLt (by_ p) = true := by
  unfold aLt
  rw [Bool.and_eq_true, decide_eq_true_iff]
theorem aDg_b {by_ : Nat → Nat} {t p : Nat} : aDg by_ t p = true ↔ p < t ∧ isDg (by_ p) = true := by
  unfold aDg
  rw [Bool.and_eq_true, decide_eq_true_iff]
theorem aBl_b {by_ : Nat → Nat} {t p : Nat} : aBl by_ t p = true ↔ p < t ∧ isBl (by_ p) = true := by
  unfold aBl
  rw [Bool.and_eq_true, decide_eq_true_iff]
theorem wR_len (by_ : Nat → Nat) (p : Nat) : ∀ j, (wR by_ p j).length = j
  | 0 => rfl
  | j + 1 => by rw [wR, List.length_cons, wR_len by_ p j]
theorem wR_ok {by_ : Nat → Nat} {p : Nat} : ∀ j, (∀ i, i < j → isLt (by_ (p + i)) = true) → okW 27 (wR by_ p j)
  | 0, _ => fun x hx => by cases hx
  | j + 1, h => fun x hx => by
    rcases List.mem_cons.mp hx with rfl | hx
    · have := isLt_b (h j (by omega))
      omega
    · exact wR_ok j (fun i hi => h i (by omega)) x hx
theorem iV_lt {by_ : Nat → Nat} {p : Nat} : ∀ j, (∀ i, i < j → isDg (by_ (p + i)) = true) → iV by_ p j < 10 ^ j
  | 0, _ => by rw [iV]; decide
  | j + 1, h => by
    have ih := iV_lt j (fun i hi => h i (by omega))
    have := isDg_b (h j (by omega))
    rw [iV, Nat.pow_succ]
    omega
/-! one TOKEN from q on, by its kind, end, letters, number -/
def skB (by_ : Nat → Nat) (t q : Nat) : Nat := eR (aBl by_ t) (t - q) q
def eL (by_ : Nat → Nat) (t q : Nat) : Nat := eR (aLt by_ t) (t - q) q
def eD (by_ : Nat → Nat) (t q : Nat) : Nat := eR (aDg by_ t) (t - q) q
def kdA (by_ : Nat → Nat) (t q : Nat) : Nat := if q < t then (if isLt (by_ q) = true then (if eL by_ t q - q ≤ 8 then wK (wR by_ q (eL by_ t q - q)) else 1) else if isDg (by_ q) = true then (if eD by_ t q - q ≤ 4 then 3 else 1) else sgK (by_ q)) else 0
def ndA (by_ : Nat → Nat) (t q : Nat) : Nat := if q < t then (if isLt (by_ q) = true then eL by_ t q else if isDg (by_ q) = true then eD by_ t q else q + 1) else t
def wdA (by_ : Nat → Nat) (t q : Nat) : List Nat := wR by_ q (eL by_ t q - q)
def vlA (by_ : Nat → Nat) (t q : Nat) : Nat := iV by_ q (eD by_ t q - q)
theorem sgK_in (x : Nat) : sgK x = 1 ∨ (4 ≤ sgK x ∧ sgK x ≤ 12) := by
  unfold sgK
  split
  · omega
  split
  · omega
  split
  · omega
  split
  · omega
  split
  · omega
  split
  · omega
  split
  · omega
  split
  · omega
  split
  · omega
  · omega
theorem wK_in (l : List Nat) : wK l = 2 ∨ (13 ≤ wK l ∧ wK l ≤ 36) := by
  unfold wK
  split
  · omega
  · omega
theorem eL_in {by_ : Nat → Nat} {t q : Nat} (hq : q ≤ t) : q ≤ eL by_ t q ∧ eL by_ t q ≤ t ∧ ∀ i, i < eL by_ t q - q → isLt (by_ (q + i)) = true := by
  have h1 := eR_ge (aLt by_ t) (t - q) q
  have h2 := eR_le (aLt by_ t) (t - q) q
  unfold eL
  exact ⟨h1, by omega, fun i hi => (aLt_b.mp (eR_all (aLt by_ t) (t - q) q (q + i) (by omega) (by omega))).2⟩
theorem eD_in {by_ : Nat → Nat} {t q : Nat} (hq : q ≤ t) : q ≤ eD by_ t q ∧ eD by_ t q ≤ t ∧ ∀ i, i < eD by_ t q - q → isDg (by_ (q + i)) = true := by
  have h1 := eR_ge (aDg by_ t) (t - q) q
  have h2 := eR_le (aDg by_ t) (t - q) q
  unfold eD
  exact ⟨h1, by omega, fun i hi => (aDg_b.mp (eR_all (aDg by_ t) (t - q) q (q + i) (by omega) (by omega))).2⟩
theorem skB_in {by_ : Nat → Nat} {t q : Nat} (hq : q ≤ t) : q ≤ skB by_ t q ∧ skB by_ t q ≤ t := by
  have h1 := eR_ge (aBl by_ t) (t - q) q
  have h2 := eR_le (aBl by_ t) (t - q) q
  unfold skB
  omega
theorem ndA_in {by_ : Nat → Nat} {t q : Nat} (hq : q ≤ t) : ndA by_ t q ≤ t ∧ (q < t → q < ndA by_ t q) := by
  unfold ndA
  obtain ⟨a1, a2, -⟩ := eL_in (by_ := by_) hq
  obtain ⟨b1, b2, -⟩ := eD_in (by_ := by_) hq
  by_cases h : q < t
  · rw [if_pos h]
    by_cases z : isLt (by_ q) = true
    · rw [if_pos z]
      refine ⟨a2, fun _ => ?_⟩
      have e : eL by_ t q = eR (aLt by_ t) (t - (q + 1)) (q + 1) := eR_s h (aLt_b.mpr ⟨h, z⟩)
      have := eR_ge (aLt by_ t) (t - (q + 1)) (q + 1)
      omega
    · rw [if_neg z]
      by_cases y : isDg (by_ q) = true
      · rw [if_pos y]
        refine ⟨b2, fun _ => ?_⟩
        have e : eD by_ t q = eR (aDg by_ t) (t - (q + 1)) (q + 1) := eR_s h (aDg_b.mpr ⟨h, y⟩)
        have := eR_ge (aDg by_ t) (t - (q + 1)) (q + 1)
        omega
      · rw [if_neg y]
        omega
  · rw [if_neg h]
    omega
theorem kdA_in {by_ : Nat → Nat} {t q : Nat} : kdA by_ t q ≤ 36 := by
  unfold kdA
  have a := sgK_in (by_ q)
  have b := wK_in (wR by_ q (eL by_ t q - q))
  split
  · split
    · split <;> omega
    · split
      · split <;> omega
      · omega
  · omega
/-- what a TOKEN of kind NAME or INT says -/
theorem kdA_2 {by_ : Nat → Nat} {t q : Nat} (h : kdA by_ t q = 2) : q < t ∧ isLt (by_ q) = true ∧ eL by_ t q - q ≤ 8 := by
  unfold kdA at h
  have a := sgK_in (by_ q)
  by_cases h1 : q < t
  · rw [if_pos h1] at h
    by_cases h2 : isLt (by_ q) = true
    · rw [if_pos h2] at h
      by_cases h3 : eL by_ t q - q ≤ 8
      · exact ⟨h1, h2, h3⟩
      · rw [if_neg h3] at h
        cases h
    · rw [if_neg h2] at h
      split at h
      · split at h <;> omega
      · omega
  · rw [if_neg h1] at h
    omega
theorem kdA_3 {by_ : Nat → Nat} {t q : Nat} (h : kdA by_ t q = 3) : q < t ∧ ¬ isLt (by_ q) = true ∧ isDg (by_ q) = true ∧ eD by_ t q - q ≤ 4 := by
  unfold kdA at h
  have a := sgK_in (by_ q)
  have b := wK_in (wR by_ q (eL by_ t q - q))
  by_cases h1 : q < t
  · rw [if_pos h1] at h
    by_cases h2 : isLt (by_ q) = true
    · rw [if_pos h2] at h
      split at h <;> omega
    · rw [if_neg h2] at h
      by_cases h3 : isDg (by_ q) = true
      · rw [if_pos h3] at h
        by_cases h4 : eD by_ t q - q ≤ 4
        · exact ⟨h1, h2, h3, h4⟩
        · rw [if_neg h4] at h
          omega
      · rw [if_neg h3] at h
        omega
  · rw [if_neg h1] at h
    omega
/-! the class -/
theorem c_word_l {by_ : Nat → Nat} {t n p : Nat} {σ : bS} (hB : BC by_ t σ) : ∀ (k j : Nat), p + j ≤ t → t < p + j + k → cTokens_cutWord_43_b5 n k (nI p) (Int64.ofNat (kR 32 (wR by_ p j))) (nI (p + j)) σ = cTokens_cutWord_43_b39 n (nI p) (Int64.ofNat (kR 32 (wR by_ p (eL by_ t (p + j) - p)))) (nI (eL by_ t (p + j))) σ
  | 0, j, h1, h2 => by omega
  | k + 1, j, h1, h2 => by
    obtain ⟨b1, b2, b3, b4, b5⟩ := hB
    rw [cTokens_cutWord_43_b5, show sI σ 49 5 = nI t from b3]
    by_cases hp : p + j < t
    · rw [if_neg (nI_ge hp (by omega)), bin_nI (by omega) (by decide), sA_n _ _ (by omega), b4 _ hp, c_isLt (b2 _), ob_def]
      by_cases z : isLt (by_ (p + j)) = true
      · rw [if_pos z]
        simp only [if_neg one_ne]
        rw [bin_nI (by omega) (by decide), sA_n _ _ (by omega), b4 _ hp, cTokens_withLetter, cTokens_withLetter_b9, ob_def]
        have ih := c_word_l (n := n) (p := p) ⟨b1, b2, b3, b4, b5⟩ k (j + 1) (by omega) (by omega)
        have e : eL by_ t (p + j) = eL by_ t (p + (j + 1)) := eR_s hp (aLt_b.mpr ⟨hp, z⟩)
        rw [e, ← ih, nI_s, wR, kR, ← key_s, ← cb_l64 ⟨_, b2 (p + j)⟩ z]
        rfl
      · rw [if_neg z]
        simp only [if_true]
        have e : eL by_ t (p + j) = p + j := eR_n (fun u => z (aLt_b.mp u).2)
        rw [e, Nat.add_sub_cancel_left]
    · have e : eL by_ t (p + j) = p + j := eR_n (fun u => hp (aLt_b.mp u).1)
      rw [if_pos ((nI_leI (by omega) (by omega)).mpr (by omega)), e, Nat.add_sub_cancel_left]
theorem c_int_l {by_ : Nat → Nat} {t n p : Nat} {σ : bS} (hB : BC by_ t σ) : ∀ (k j : Nat), p + j ≤ t → t < p + j + k → cTokens_cutInt_43_b5 n k (nI p) (nI (iV by_ p j)) (nI (p + j)) σ = cTokens_cutInt_43_b43 n (nI p) (nI (iV by_ p (eD by_ t (p + j) - p))) (nI (eD by_ t (p + j))) σ
  | 0, j, h1, h2 => by omega
  | k + 1, j, h1, h2 => by
    obtain ⟨b1, b2, b3, b4, b5⟩ := hB
    rw [cTokens_cutInt_43_b5, show sI σ 49 5 = nI t from b3]
    by_cases hp : p + j < t
    · rw [if_neg (nI_ge hp (by omega)), bin_nI (by omega) (by decide), sA_n _ _ (by omega), b4 _ hp, c_isDg (b2 _), ob_def]
      by_cases z : isDg (by_ (p + j)) = true
      · rw [if_pos z]
        simp only [if_neg one_ne]
        rw [bin_nI (by omega) (by decide), sA_n _ _ (by omega), b4 _ hp, cTokens_cutInt_43_b35]
        have ih := c_int_l (n := n) (p := p) ⟨b1, b2, b3, b4, b5⟩ k (j + 1) (by omega) (by omega)
        have e : eD by_ t (p + j) = eD by_ t (p + (j + 1)) := eR_s hp (aDg_b.mpr ⟨hp, z⟩)
        have e2 := cb_d ⟨_, b2 (p + j)⟩ z
        have e2 : cB (by_ (p + j)) - cb_48 = nI (by_ (p + j) - 48) := e2
        rw [e, ← ih, nI_s, e2, cb_10_n, nI_mul, nI_add, iV]
        rfl
      · rw [if_neg z]
        simp only [if_true]
        have e : eD by_ t (p + j) = p + j := eR_n (fun u => z (aDg_b.mp u).2)
        rw [e, Nat.add_sub_cancel_left]
    · have e : eD by_ t (p + j) = p + j := eR_n (fun u => hp (aDg_b.mp u).1)
      rw [if_pos ((nI_leI (by omega) (by omega)).mpr (by omega)), e, Nat.add_sub_cancel_left]
theorem c_past_l {by_ : Nat → Nat} {t n : Nat} {σ : bS} (hB : BC by_ t σ) : ∀ (k q : Nat), q ≤ t → t < q + k → cTokens_pastBlanks_43_b2 n k (nI q) σ = some (nI (skB by_ t q), σ)
  | 0, q, h1, h2 => by omega
  | k + 1, q, h1, h2 => by
    obtain ⟨b1, b2, b3, b4, b5⟩ := hB
    rw [cTokens_pastBlanks_43_b2, show sI σ 49 5 = nI t from b3]
    by_cases hp : q < t
    · rw [if_neg (nI_ge hp (by omega)), bin_nI (by omega) (by decide), sA_n _ _ (by omega), b4 _ hp, c_isBl (b2 _), ob_def]
      by_cases z : isBl (by_ q) = true
      · rw [if_pos z]
        simp only [if_neg one_ne]
        have e : skB by_ t q = skB by_ t (q + 1) := eR_s hp (aBl_b.mpr ⟨hp, z⟩)
        rw [e, nI_s]
        exact c_past_l ⟨b1, b2, b3, b4, b5⟩ k (q + 1) (by omega) (by omega)
      · rw [if_neg z]
        simp only [if_true]
        have e : skB by_ t q = q := eR_n (fun u => z (aBl_b.mp u).2)
        rw [e, cTokens_pastBlanks_43_b25]
    · have e : skB by_ t q = q := eR_n (fun u => hp (aBl_b.mp u).1)
      rw [if_pos ((nI_leI (by omega) (by omega)).mpr (by omega)), e, cTokens_pastBlanks_43_b25]
/-- a TOKEN put -/
def pT (σ : bS) (c : Nat) (kd : Int32) (v : Int64) (pl : Int32) : bS := uI (uA (uJ (uA σ 51 (nI c) kd) 52 (nI c) v) 53 (nI c) pl) 49 4 (nI (c + 1))
theorem c_put {n c : Nat} {kd pl : Int32} {v : Int64} {σ : bS} (h : σ.1 49 4 = nI c) (hc : c ≤ 400) : cTokens_put n kd v pl σ = some (pT σ c kd v pl) := by
  have e1 : ∀ i w, sI (uA σ 51 i w) 49 4 = nI c := fun _ _ => h
  have e2 : ∀ i w i2 w2, sI (uJ (uA σ 51 i w) 52 i2 w2) 49 4 = nI c := fun _ _ _ _ => h
  have e3 : ∀ i w i2 w2 i3 w3, sI (uA (uJ (uA σ 51 i w) 52 i2 w2) 53 i3 w3) 49 4 = nI c := fun _ _ _ _ _ _ => h
  unfold cTokens_put cTokens_put_b51
  rw [e3, e2, e1, show sI σ 49 4 = nI c from h, cs_400_n, if_neg (Int32.not_lt.mpr ((nI_leI (by omega) (by omega)).mpr hc)), bin_nI (by omega) (by decide), bin_nI (by omega) (by decide), bin_nI (by omega) (by decide), nI_s]
  rfl
abbrev fr51 (σ σ' : bS) : Prop := frC (fun a => a = 49 ∨ a = 51 ∨ a = 52 ∨ a = 53) σ σ'
theorem frC.uJ {P : Nat → Prop} {σ : bS} {o : Nat} {i : Int32} {v : Int64} (h : P o) : frC P σ (uJ σ o i v) := fun a ha => ⟨rfl, rfl, by
  funext j
  rw [uJ_3, if_neg]
  rintro ⟨rfl, -⟩
  exact ha h⟩
theorem pT_fr {σ : bS} {c : Nat} {kd pl : Int32} {v : Int64} : fr51 σ (pT σ c kd v pl) := by
  unfold pT
  exact ((frC.uA (Or.inr (Or.inl rfl))).trans ((frC.uJ (Or.inr (Or.inr (Or.inl rfl)))).trans (frC.uA (Or.inr (Or.inr (Or.inr rfl)))))).trans (frC.uI (Or.inl rfl))
theorem pT_5 {σ : bS} {c : Nat} {kd pl : Int32} {v : Int64} (hc : c < 2 ^ 31) (j : Nat) : (pT σ c kd v pl).2.1 51 j = (if j = c then kd else σ.2.1 51 j) ∧ (pT σ c kd v pl).2.1 53 j = (if j = c then pl else σ.2.1 53 j) ∧ (pT σ c kd v pl).2.2 52 j = (if j = c then v else σ.2.2 52 j) := by
  unfold pT
  refine ⟨?_, ?_, ?_⟩
  · rw [uI_2, uA_o _ _ _ _ (by decide)]
    show (uA σ 51 (nI c) kd).2.1 51 j = _
    rw [uA_2, nI_clamp hc]
    simp
  · rw [uI_2, uA_2, nI_clamp hc]
    simp only [true_and]
    rfl
  · show (uJ (uA σ 51 (nI c) kd) 52 (nI c) v).2.2 52 j = _
    rw [uJ_3, nI_clamp hc]
    simp only [true_and]
    rfl
theorem pT_1 {σ : bS} {c : Nat} {kd pl : Int32} {v : Int64} (k : Nat) : (pT σ c kd v pl).1 49 k = if k = 4 then nI (c + 1) else σ.1 49 k := by
  unfold pT
  rw [uI_1]
  simp only [true_and]
  rfl
theorem BC.put {by_ : Nat → Nat} {t : Nat} {σ σ' : bS} (h : BC by_ t σ) (f : fr51 σ σ') (h5 : σ'.1 49 5 = σ.1 49 5) : BC by_ t σ' := ⟨h.1, h.2.1, h5.trans h.2.2.1, fun j hj => by rw [(f 43 (by decide)).2.1]; exact h.2.2.2.1 j hj, by rw [(f 50 (by decide)).2.2]; exact h.2.2.2.2⟩
theorem c_one {by_ : Nat → Nat} {t n q c : Nat} {σ : bS} (hn : 2100 ≤ n) (hB : BC by_ t σ) (hq : q ≤ t) (hc : c ≤ 400) (h : σ.1 49 4 = nI c) : ∃ v, cTokens_cutOne_43 n (nI q) σ = some (nI (ndA by_ t q), pT σ c (nI (kdA by_ t q)) v (nI q)) ∧ (kdA by_ t q = 2 → v = Int64.ofNat (kR 32 (wdA by_ t q))) ∧ (kdA by_ t q = 3 → v = (nI (vlA by_ t q)).toInt64) := by
  have hB0 := hB
  obtain ⟨b1, b2, b3, b4, b5⟩ := hB
  unfold cTokens_cutOne_43
  rw [show sI σ 49 5 = nI t from b3]
  by_cases hp : q < t
  · rw [if_pos ((nI_ltI (by omega) (by omega)).mpr hp), bin_nI (by omega) (by decide), sA_n _ _ (by omega), b4 _ hp, c_isLt (b2 _), ob_def]
    by_cases z : isLt (by_ q) = true
    · obtain ⟨l1, l2, l3⟩ := eL_in (by_ := by_) hq
      rw [if_pos z]
      simp only [if_neg one_ne]
      have e := c_word_l (n := n) (p := q) hB0 n 0 (by omega) (by omega)
      simp only [Nat.add_zero] at e
      rw [show cTokens_cutWord_43 n (nI q) σ = _ from e, cTokens_cutWord_43_b39, cTokens_cutWord_43_b44, nI_sub l1, cb_8_n]
      have ek : kdA by_ t q = if eL by_ t q - q ≤ 8 then wK (wR by_ q (eL by_ t q - q)) else 1 := by
        unfold kdA
        rw [if_pos hp, if_pos z]
      have en : ndA by_ t q = eL by_ t q := by
        unfold ndA
        rw [if_pos hp, if_pos z]
      rw [ek, en]
      have k3 : ¬ (if eL by_ t q - q ≤ 8 then wK (wR by_ q (eL by_ t q - q)) else 1) = 3 := by
        have := wK_in (wR by_ q (eL by_ t q - q))
        split <;> omega
      by_cases y : eL by_ t q - q ≤ 8
      · rw [if_pos ((nI_leI (by omega) (by omega)).mpr y), c_kind (by omega) (wR_ok _ l3) (by rw [wR_len]; exact y) b5, ob_def, cTokens_cutWord_43_b58, c_put h hc, ob_def, ob_def, if_pos y]
        exact ⟨_, rfl, fun _ => rfl, fun u => absurd (by rw [if_pos y]; exact u) k3⟩
      · rw [if_neg (fun u => y ((nI_leI (by omega) (by omega)).mp u)), cTokens_cutWord_43_b58, c_put h hc, ob_def, ob_def, if_neg y]
        exact ⟨_, rfl, fun u => by omega, fun u => by omega⟩
    · rw [if_neg z]
      simp only [if_true]
      rw [c_isDg (b2 _), ob_def]
      by_cases w : isDg (by_ q) = true
      · obtain ⟨l1, l2, l3⟩ := eD_in (by_ := by_) hq
        rw [if_pos w]
        simp only [if_neg one_ne]
        have e := c_int_l (n := n) (p := q) hB0 n 0 (by omega) (by omega)
        simp only [Nat.add_zero] at e
        rw [show cTokens_cutInt_43 n (nI q) σ = _ from e, cTokens_cutInt_43_b43, cTokens_cutInt_43_b48, nI_sub l1, ci_4_n]
        have ek : kdA by_ t q = if eD by_ t q - q ≤ 4 then 3 else 1 := by
          unfold kdA
          rw [if_pos hp, if_neg z, if_pos w]
        have en : ndA by_ t q = eD by_ t q := by
          unfold ndA
          rw [if_pos hp, if_neg z, if_pos w]
        rw [ek, en]
        by_cases y : eD by_ t q - q ≤ 4
        · rw [if_pos ((nI_leI (by omega) (by omega)).mpr y), cTokens_cutInt_43_b57, c_put h hc, ob_def, ob_def, if_pos y]
          exact ⟨_, rfl, fun u => by omega, fun _ => rfl⟩
        · rw [if_neg (fun u => y ((nI_leI (by omega) (by omega)).mp u)), cTokens_cutInt_43_b57, c_put h hc, ob_def, ob_def, if_neg y]
          exact ⟨_, rfl, fun u => by omega, fun u => by omega⟩
      · have ek : kdA by_ t q = sgK (by_ q) := by
          unfold kdA
          rw [if_pos hp, if_neg z, if_neg w]
        have en : ndA by_ t q = q + 1 := by
          unfold ndA
          rw [if_pos hp, if_neg z, if_neg w]
        have := sgK_in (by_ q)
        rw [if_neg w]
        simp only [if_true]
        rw [c_sign (b2 _), ob_def, c_put h hc, ob_def, nI_s, ek, en]
        exact ⟨_, rfl, fun u => by omega, fun u => by omega⟩
  · have e : q = t := by omega
    subst e
    have ek : kdA by_ q q = 0 := by
      unfold kdA
      rw [if_neg hp]
    have en : ndA by_ q q = q := by
      unfold ndA
      rw [if_neg hp]
    have e5 : ∀ v, sI (pT σ c ci_0 v (nI q)) 49 5 = nI q := fun v => by
      show (pT σ c ci_0 v (nI q)).1 49 5 = nI q
      rw [pT_1, if_neg (by decide)]
      exact b3
    rw [if_neg (fun u => hp ((nI_ltI (by omega) (by omega)).mp u)), c_put h hc, ob_def, e5, ek, en]
    exact ⟨_, rfl, fun u => by omega, fun u => by omega⟩
/-! all of them -/
def atN (by_ : Nat → Nat) (t : Nat) : Nat → Nat
  | 0 => 0
  | c + 1 => ndA by_ t (skB by_ t (atN by_ t c))
def plN (by_ : Nat → Nat) (t c : Nat) : Nat := skB by_ t (atN by_ t c)
def kdN (by_ : Nat → Nat) (t c : Nat) : Nat := kdA by_ t (plN by_ t c)
theorem atN_in {by_ : Nat → Nat} {t : Nat} : ∀ c, atN by_ t c ≤ t
  | 0 => Nat.zero_le _
  | c + 1 => (ndA_in (skB_in (atN_in c)).2).1
def TkC (by_ : Nat → Nat) (t c : Nat) (σ : bS) : Prop := σ.2.1 51 c = nI (kdN by_ t c) ∧ σ.2.1 53 c = nI (plN by_ t c) ∧ (kdN by_ t c = 2 → σ.2.2 52 c = Int64.ofNat (kR 32 (wdA by_ t (plN by_ t c)))) ∧ (kdN by_ t c = 3 → σ.2.2 52 c = (nI (vlA by_ t (plN by_ t c))).toInt64)
theorem c_cut_l {by_ : Nat → Nat} {t n : Nat} (hn : 2100 ≤ n) : ∀ (k c : Nat) (σ : bS), BC by_ t σ → σ.1 49 4 = nI c → (∀ j, j < c → TkC by_ t j σ) → c ≤ 401 → 401 < c + k → ∃ σ', cTokens_cut_43_b20 n k (nI (atN by_ t c)) (nI c) σ = some σ' ∧ BC by_ t σ' ∧ (∀ j, j ≤ 400 → (∀ i, i < j → 1 < kdN by_ t i) → TkC by_ t j σ') ∧ fr51 σ σ'
  | 0, c, σ, hB, h4, hk, h1, h2 => by omega
  | k + 1, c, σ, hB, h4, hk, h1, h2 => by
    have ht := hB.1
    rw [cTokens_cut_43_b20, cs_400_n, show sI σ 49 4 = nI c from h4]
    by_cases hc : c ≤ 400
    · have go : ∃ σ', cTokens_cut_43_b50 n (cTokens_cut_43_b20 n k) (nI (atN by_ t c)) (nI c) σ = some σ' ∧ BC by_ t σ' ∧ (∀ j, j ≤ 400 → (∀ i, i < j → 1 < kdN by_ t i) → TkC by_ t j σ') ∧ fr51 σ σ' := by
        have ha := atN_in (by_ := by_) (t := t) c
        rw [cTokens_cut_43_b50, show cTokens_pastBlanks_43 n (nI (atN by_ t c)) σ = _ from c_past_l hB n (atN by_ t c) ha (by omega), ob_def]
        obtain ⟨v, v1, v2, v3⟩ := c_one (n := n) (q := skB by_ t (atN by_ t c)) hn hB (skB_in ha).2 hc h4
        rw [v1, ob_def, nI_s]
        obtain ⟨σ', d1, d2, d3, d4⟩ := c_cut_l hn k (c + 1) (pT σ c (nI (kdA by_ t (skB by_ t (atN by_ t c)))) v (nI (skB by_ t (atN by_ t c)))) (hB.put pT_fr (by rw [pT_1, if_neg (by decide)])) (by rw [pT_1, if_pos rfl]) (fun j hj => by
          obtain ⟨e1, e2, e3⟩ := pT_5 (σ := σ) (c := c) (kd := nI (kdA by_ t (skB by_ t (atN by_ t c)))) (v := v) (pl := nI (skB by_ t (atN by_ t c))) (by omega) j
          unfold TkC
          rw [e1, e2, e3]
          by_cases y : j = c
          · subst y
            rw [if_pos rfl, if_pos rfl, if_pos rfl]
            exact ⟨rfl, rfl, v2, v3⟩
          · rw [if_neg y, if_neg y, if_neg y]
            exact hk j (by omega)) (by omega) (by omega)
        exact ⟨σ', d1, d2, d3, pT_fr.trans d4⟩
      rw [if_neg (Int32.not_lt.mpr ((nI_leI (by omega) (by omega)).mpr hc))]
      by_cases z : c = 0
      · rw [if_pos (by rw [z]; rfl)]
        exact go
      · rw [if_neg (fun u => z (nI_inj (by omega) (by decide) (u.trans (show (0 : Int32) = nI 0 from rfl)))), cTokens_cut_43_b45, ci1_nI, nI_sub (by omega), bin_nI (by omega) (by decide), sA_n _ _ (by omega), (hk (c - 1) (by omega)).1]
        have kb : kdN by_ t (c - 1) ≤ 36 := kdA_in
        by_cases y : kdN by_ t (c - 1) ≤ 1
        · rw [if_pos ((nI_leI (by omega) (by omega)).mpr y), cTokens_cut_43_b68]
          refine ⟨σ, rfl, hB, fun j hj hi => ?_, frC.rf⟩
          by_cases x : j < c
          · exact hk j x
          · have := hi (c - 1) (by omega)
            omega
        · rw [if_neg (fun u => y ((nI_leI (by omega) (by omega)).mp u))]
          exact go
    · rw [if_pos ((nI_ltI (by omega) (by omega)).mpr (by omega)), cTokens_cut_43_b68]
      exact ⟨σ, rfl, hB, fun j hj _ => hk j (by omega), frC.rf⟩
