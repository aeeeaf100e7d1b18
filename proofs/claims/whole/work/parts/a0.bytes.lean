/-! READ: the bytes, and the TOKENS that they make -/
abbrev cB (x : Nat) : Int32 := (nI x).toInt8.toInt32
def isLt (x : Nat) : Bool := decide (97 ≤ x) && decide (x ≤ 122)
def isDg (x : Nat) : Bool := decide (48 ≤ x) && decide (x ≤ 57)
def isBl (x : Nat) : Bool := decide (x = 9) || (decide (x = 10) || (decide (x = 13) || decide (x = 32)))
def sgK (x : Nat) : Nat := if x = 40 then 11 else if x = 41 then 12 else if x = 42 then 8 else if x = 43 then 6 else if x = 45 then 7 else if x = 47 then 9 else if x = 59 then 4 else if x = 60 then 10 else if x = 61 then 5 else 1
def sB (k : Nat) : Nat := if k = 11 then 40 else if k = 12 then 41 else if k = 8 then 42 else if k = 6 then 43 else if k = 7 then 45 else if k = 9 then 47 else if k = 4 then 59 else if k = 10 then 60 else 61
theorem cb_lt : ∀ x : Fin 256, (if cB x.val < cb_97 then false else if cb_122 < cB x.val then false else true) = isLt x.val := by decide +kernel
theorem cb_dg : ∀ x : Fin 256, (if cB x.val < cb_48 then false else if cb_57 < cB x.val then false else true) = isDg x.val := by decide +kernel
theorem cb_bl : ∀ x : Fin 256, (if cB x.val = cb_9 then true else if cB x.val = cb_10 then true else if cB x.val = cb_13 then true else if cB x.val = cb_32 then true else false) = isBl x.val := by decide +kernel
theorem mb_lt : ∀ x : Fin 256, (if nI x.val < cb_97 then false else if cb_122 < nI x.val then false else true) = isLt x.val := by decide +kernel
theorem mb_dg : ∀ x : Fin 256, (if nI x.val < cb_48 then false else if cb_57 < nI x.val then false else true) = isDg x.val := by decide +kernel
theorem mb_bl : ∀ x : Fin 256, (if nI x.val = cb_32 then true else if nI x.val = cb_9 then true else if nI x.val = cb_10 then true else if nI x.val = cb_13 then true else false) = isBl x.val := by decide +kernel
theorem c_isLt {n x : Nat} {σ : bS} (hx : x < 256) : cTokens_isLetter n (cB x) σ = some (if isLt x = true then 1 else 0, σ) := by
  have h := cb_lt ⟨x, hx⟩
  have h : (if cB x < cb_97 then false else if cb_122 < cB x then false else true) = isLt x := h
  unfold cTokens_isLetter
  by_cases h1 : cB x < cb_97
  · rw [if_pos h1] at h
    rw [if_pos h1, ← h]
    rfl
  · rw [if_neg h1] at h
    rw [if_neg h1]
    by_cases h2 : cb_122 < cB x
    · rw [if_pos h2] at h
      rw [if_pos h2, ← h]
      rfl
    · rw [if_neg h2] at h
      rw [if_neg h2, ← h]
      rfl
theorem c_isDg {n x : Nat} {σ : bS} (hx : x < 256) : cTokens_isDigit n (cB x) σ = some (if isDg x = true then 1 else 0, σ) := by
  have h := cb_dg ⟨x, hx⟩
  have h : (if cB x < cb_48 then false else if cb_57 < cB x then false else true) = isDg x := h
  unfold cTokens_isDigit
  by_cases h1 : cB x < cb_48
  · rw [if_pos h1] at h
    rw [if_pos h1, ← h]
    rfl
  · rw [if_neg h1] at h
    rw [if_neg h1]
    by_cases h2 : cb_57 < cB x
    · rw [if_pos h2] at h
      rw [if_pos h2, ← h]
      rfl
    · rw [if_neg h2] at h
      rw [if_neg h2, ← h]
      rfl
theorem c_isBl {n x : Nat} {σ : bS} (hx : x < 256) : cTokens_isBlank n (cB x) σ = some (if isBl x = true then 1 else 0, σ) := by
  have h := cb_bl ⟨x, hx⟩
  have h : (if cB x = cb_9 then true else if cB x = cb_10 then true else if cB x = cb_13 then true else if cB x = cb_32 then true else false) = isBl x := h
  rw [← h]
  unfold cTokens_isBlank
  by_cases h1 : cB x = cb_9
  · rw [if_pos h1, if_pos h1]
    rfl
  · rw [if_neg h1, if_neg h1]
    by_cases h2 : cB x = cb_10
    · rw [if_pos h2, if_pos h2]
      rfl
    · rw [if_neg h2, if_neg h2]
      by_cases h3 : cB x = cb_13
      · rw [if_pos h3, if_pos h3]
        rfl
      · rw [if_neg h3, if_neg h3]
        by_cases h4 : cB x = cb_32
        · rw [if_pos h4, if_pos h4]
          rfl
        · rw [if_neg h4, if_neg h4]
          rfl
def sgC (y : Int32) : Int32 := if y.toInt = 40 then cb_11 else if y.toInt = 41 then cb_12 else if y.toInt = 42 then cb_8 else if y.toInt = 43 then cb_6 else if y.toInt = 44 then ci_1 else if y.toInt = 45 then cb_7 else if y.toInt = 46 then ci_1 else if y.toInt = 47 then cb_9 else if y.toInt = 48 then ci_1 else if y.toInt = 49 then ci_1 else if y.toInt = 50 then ci_1 else if y.toInt = 51 then ci_1 else if y.toInt = 52 then ci_1 else if y.toInt = 53 then ci_1 else if y.toInt = 54 then ci_1 else if y.toInt = 55 then ci_1 else if y.toInt = 56 then ci_1 else if y.toInt = 57 then ci_1 else if y.toInt = 58 then ci_1 else if y.toInt = 59 then ci_4 else if y.toInt = 60 then cb_10 else if y.toInt = 61 then ci_5 else ci_1
theorem sgC_all : ∀ x : Fin 256, sgC (cB x.val) = nI (sgK x.val) := by decide +kernel
theorem sgC_eq (n : Nat) (y : Int32) (σ : bS) : cTokens_signOf n y σ = some (sgC y, σ) := by
  unfold cTokens_signOf sgC
  by_cases h40 : y.toInt = 40
  · rw [if_pos h40, if_pos h40]
  rw [if_neg h40, if_neg h40]
  by_cases h41 : y.toInt = 41
  · rw [if_pos h41, if_pos h41]
  rw [if_neg h41, if_neg h41]
  by_cases h42 : y.toInt = 42
  · rw [if_pos h42, if_pos h42]
  rw [if_neg h42, if_neg h42]
  by_cases h43 : y.toInt = 43
  · rw [if_pos h43, if_pos h43]
  rw [if_neg h43, if_neg h43]
  by_cases h44 : y.toInt = 44
  · rw [if_pos h44, if_pos h44]
    rfl
  rw [if_neg h44, if_neg h44]
  by_cases h45 : y.toInt = 45
  · rw [if_pos h45, if_pos h45]
  rw [if_neg h45, if_neg h45]
  by_cases h46 : y.toInt = 46
  · rw [if_pos h46, if_pos h46]
    rfl
  rw [if_neg h46, if_neg h46]
  by_cases h47 : y.toInt = 47
  · rw [if_pos h47, if_pos h47]
  rw [if_neg h47, if_neg h47]
  by_cases h48 : y.toInt = 48
  · rw [if_pos h48, if_pos h48]
    rfl
  rw [if_neg h48, if_neg h48]
  by_cases h49 : y.toInt = 49
  · rw [if_pos h49, if_pos h49]
    rfl
  rw [if_neg h49, if_neg h49]
  by_cases h50 : y.toInt = 50
  · rw [if_pos h50, if_pos h50]
    rfl
  rw [if_neg h50, if_neg h50]
  by_cases h51 : y.toInt = 51
  · rw [if_pos h51, if_pos h51]
    rfl
  rw [if_neg h51, if_neg h51]
  by_cases h52 : y.toInt = 52
  · rw [if_pos h52, if_pos h52]
    rfl
  rw [if_neg h52, if_neg h52]
  by_cases h53 : y.toInt = 53
  · rw [if_pos h53, if_pos h53]
    rfl
  rw [if_neg h53, if_neg h53]
  by_cases h54 : y.toInt = 54
  · rw [if_pos h54, if_pos h54]
    rfl
  rw [if_neg h54, if_neg h54]
  by_cases h55 : y.toInt = 55
  · rw [if_pos h55, if_pos h55]
    rfl
  rw [if_neg h55, if_neg h55]
  by_cases h56 : y.toInt = 56
  · rw [if_pos h56, if_pos h56]
    rfl
  rw [if_neg h56, if_neg h56]
  by_cases h57 : y.toInt = 57
  · rw [if_pos h57, if_pos h57]
    rfl
  rw [if_neg h57, if_neg h57]
  by_cases h58 : y.toInt = 58
  · rw [if_pos h58, if_pos h58]
    rfl
  rw [if_neg h58, if_neg h58]
  by_cases h59 : y.toInt = 59
  · rw [if_pos h59, if_pos h59]
  rw [if_neg h59, if_neg h59]
  by_cases h60 : y.toInt = 60
  · rw [if_pos h60, if_pos h60]
  rw [if_neg h60, if_neg h60]
  by_cases h61 : y.toInt = 61
  · rw [if_pos h61, if_pos h61]
  rw [if_neg h61, if_neg h61]
  rfl
theorem c_sign {n x : Nat} {σ : bS} (hx : x < 256) : cTokens_signOf n (cB x) σ = some (nI (sgK x), σ) := by rw [sgC_eq, sgC_all ⟨x, hx⟩]
/-- the bytes of the tape, on both sides -/
def BC (by_ : Nat → Nat) (t : Nat) (σ : bS) : Prop := t ≤ 2000 ∧ (∀ j, by_ j < 256) ∧ σ.1 49 5 = nI t ∧ (∀ j, j < t → σ.2.1 43 j = cB (by_ j)) ∧ σ.2.2 50 = tkW
def BM (by_ : Nat → Nat) (t : Nat) (σ : bS) : Prop := t ≤ 2000 ∧ (∀ j, by_ j < 256) ∧ σ.1 0 0 = nI t ∧ ∀ j, j < t → σ.2.1 1 j = nI (by_ j)
def btA (by_ : Nat → Nat) (t p : Nat) : Nat := if p < t then by_ p else 0
theorem m_byte {by_ : Nat → Nat} {t n p : Nat} {σ : bS} (hB : BM by_ t σ) (hp : p ≤ 2000) : m_byteAt n (nI p) σ = some (nI (btA by_ t p), σ) := by
  obtain ⟨h1, h2, h3, h4⟩ := hB
  unfold m_byteAt btA
  rw [show sI σ 0 0 = nI t from h3]
  by_cases z : p < t
  · rw [if_neg (nI_ge z (by omega)), bin_nI (by omega) (by decide), sA_n _ _ (by omega), h4 p z, if_pos z, m_byteAt_b18]
  · rw [if_pos ((nI_leI (by omega) (by omega)).mpr (by omega)), if_neg z, m_byteAt_b18]
    rfl
theorem btA_lt {by_ : Nat → Nat} {t p : Nat} (h : ∀ j, by_ j < 256) : btA by_ t p < 256 := by
  unfold btA
  have := h p
  split <;> omega
def aLt (by_ : Nat → Nat) (t p : Nat) : Bool := decide (p < t) && isLt (by_ p)
def aDg (by_ : Nat → Nat) (t p : Nat) : Bool := decide (p < t) && isDg (by_ p)
def aBl (by_ : Nat → Nat) (t p : Nat) : Bool := decide (p < t) && isBl (by_ p)
theorem aLt_is {by_ : Nat → Nat} {t p : Nat} : isLt (btA by_ t p) = aLt by_ t p := by
  unfold aLt btA
  by_cases z : p < t
  · rw [if_pos z, decide_eq_true z, Bool.true_and]
  · rw [if_neg z, decide_eq_false z, Bool.false_and]
    decide
theorem aDg_is {by_ : Nat → Nat} {t p : Nat} : isDg (btA by_ t p) = aDg by_ t p := by
  unfold aDg btA
  by_cases z : p < t
  · rw [if_pos z, decide_eq_true z, Bool.true_and]
  · rw [if_neg z, decide_eq_false z, Bool.false_and]
    decide
theorem m_isLt {by_ : Nat → Nat} {t n p : Nat} {σ : bS} (hB : BM by_ t σ) (hp : p ≤ 2000) : m_isLetter n (nI p) σ = some (if aLt by_ t p = true then 1 else 0, σ) := by
  have h := mb_lt ⟨btA by_ t p, btA_lt hB.2.1⟩
  have h : (if nI (btA by_ t p) < cb_97 then false else if cb_122 < nI (btA by_ t p) then false else true) = isLt (btA by_ t p) := h
  rw [aLt_is] at h
  unfold m_isLetter
  rw [m_byte hB hp, ob_def]
  by_cases h1 : nI (btA by_ t p) < cb_97
  · rw [if_pos h1] at h
    rw [if_pos h1, ← h]
    rfl
  · rw [if_neg h1] at h
    rw [if_neg h1, m_byte hB hp, ob_def]
    by_cases h2 : cb_122 < nI (btA by_ t p)
    · rw [if_pos h2] at h
      rw [if_pos h2, ← h]
      rfl
    · rw [if_neg h2] at h
      rw [if_neg h2, ← h]
      rfl
theorem m_isDg {by_ : Nat → Nat} {t n p : Nat} {σ : bS} (hB : BM by_ t σ) (hp : p ≤ 2000) : m_isDigit n (nI p) σ = some (if aDg by_ t p = true then 1 else 0, σ) := by
  have h := mb_dg ⟨btA by_ t p, btA_lt hB.2.1⟩
  have h : (if nI (btA by_ t p) < cb_48 then false else if cb_57 < nI (btA by_ t p) then false else true) = isDg (btA by_ t p) := h
  rw [aDg_is] at h
  unfold m_isDigit
  rw [m_byte hB hp, ob_def]
  by_cases h1 : nI (btA by_ t p) < cb_48
  · rw [if_pos h1] at h
    rw [if_pos h1, ← h]
    rfl
  · rw [if_neg h1] at h
    rw [if_neg h1, m_byte hB hp, ob_def]
    by_cases h2 : cb_57 < nI (btA by_ t p)
    · rw [if_pos h2] at h
      rw [if_pos h2, ← h]
      rfl
    · rw [if_neg h2] at h
      rw [if_neg h2, ← h]
      rfl
def sgM (y : Int32) : Int32 := if y = cb_59 then y else if y = cb_61 then y else if y = cb_43 then y else if y = cb_45 then y else if y = cb_42 then y else if y = cb_47 then y else if y = cb_60 then y else if y = cb_40 then y else if y = cb_41 then y else 0
theorem sgM_all : ∀ x : Fin 256, sgM (nI x.val) = nI (if sgK x.val = 1 then 0 else x.val) := by decide +kernel
theorem m_sign {by_ : Nat → Nat} {t n p : Nat} {σ : bS} (hB : BM by_ t σ) (hp : p < t) : m_signAt n (nI p) σ = some (nI (if sgK (by_ p) = 1 then 0 else by_ p), σ) := by
  have e := sgM_all ⟨by_ p, hB.2.1 p⟩
  have e : sgM (nI (by_ p)) = nI (if sgK (by_ p) = 1 then 0 else by_ p) := e
  have b : btA by_ t p = by_ p := if_pos hp
  rw [← e]
  unfold m_signAt sgM
  rw [m_byte hB (by have := hB.1; omega), ob_def, b]
  by_cases h59 : nI (by_ p) = cb_59
  · rw [if_pos h59, if_pos h59]
    rfl
  rw [if_neg h59, if_neg h59]
  by_cases h61 : nI (by_ p) = cb_61
  · rw [if_pos h61, if_pos h61]
    rfl
  rw [if_neg h61, if_neg h61]
  by_cases h43 : nI (by_ p) = cb_43
  · rw [if_pos h43, if_pos h43]
    rfl
  rw [if_neg h43, if_neg h43]
  by_cases h45 : nI (by_ p) = cb_45
  · rw [if_pos h45, if_pos h45]
    rfl
  rw [if_neg h45, if_neg h45]
  by_cases h42 : nI (by_ p) = cb_42
  · rw [if_pos h42, if_pos h42]
    rfl
  rw [if_neg h42, if_neg h42]
  by_cases h47 : nI (by_ p) = cb_47
  · rw [if_pos h47, if_pos h47]
    rfl
  rw [if_neg h47, if_neg h47]
  by_cases h60 : nI (by_ p) = cb_60
  · rw [if_pos h60, if_pos h60]
    rfl
  rw [if_neg h60, if_neg h60]
  by_cases h40 : nI (by_ p) = cb_40
  · rw [if_pos h40, if_pos h40]
    rfl
  rw [if_neg h40, if_neg h40]
  by_cases h41 : nI (by_ p) = cb_41
  · rw [if_pos h41, if_pos h41]
    rfl
  rw [if_neg h41, if_neg h41]
  rfl
/-- as far as they are of one kind -/
def eR (P : Nat → Bool) : Nat → Nat → Nat
  | 0, p => p
  | k + 1, p => if P p = true then eR P k (p + 1) else p
theorem eR_ge (P : Nat → Bool) : ∀ k p, p ≤ eR P k p
  | 0, p => Nat.le_refl _
  | k + 1, p => by
    rw [eR]
    split
    · have := eR_ge P k (p + 1)
      omega
    · exact Nat.le_refl _
theorem eR_le (P : Nat → Bool) : ∀ k p, eR P k p ≤ p + k
  | 0, p => Nat.le_refl _
  | k + 1, p => by
    rw [eR]
    split
    · have := eR_le P k (p + 1)
      omega
    · omega
theorem eR_all (P : Nat → Bool) : ∀ k p j, p ≤ j → j < eR P k p → P j = true
  | 0, p, j, h1, h2 => by
    rw [eR] at h2
    omega
  | k + 1, p, j, h1, h2 => by
    rw [eR] at h2
    by_cases z : P p = true
    · rw [if_pos z] at h2
      by_cases y : j = p
      · rw [y]
        exact z
      · exact eR_all P k (p + 1) j (by omega) h2
    · rw [if_neg z] at h2
      omega
theorem eR_s {P : Nat → Bool} {t p : Nat} (h : p < t) (z : P p = true) : eR P (t - p) p = eR P (t - (p + 1)) (p + 1) := by
  rw [show t - p = t - (p + 1) + 1 by omega, eR, if_pos z]
theorem eR_n {P : Nat → Bool} {t p : Nat} (z : ¬ P p = true) : eR P (t - p) p = p := by
  cases t - p with
  | zero => rfl
  | succ k => rw [eR, if_neg z]
/-! words: their letters, the last one first, and their numbers -/
def wR (by_ : Nat → Nat) (p : Nat) : Nat → List Nat
  | 0 => []
  | j + 1 => (by_ (p + j) - 96) :: wR by_ p j
def kR (B : Nat) : List Nat → Nat
  | [] => 0
  | x :: r => kR B r * B + x
def okW (B : Nat) (l : List Nat) : Prop := ∀ x, x ∈ l → 1 ≤ x ∧ x < B
theorem kR_lt {B : Nat} : ∀ l : List Nat, okW B l → kR B l < B ^ l.length
  | [], _ => by rw [kR, List.length_nil, Nat.pow_zero]; omega
  | x :: r, h => by
    have ih := kR_lt r (fun y hy => h y (List.mem_cons_of_mem _ hy))
    have hx := (h x List.mem_cons_self).2
    rw [kR, List.length_cons, Nat.pow_succ]
    have := Nat.mul_le_mul_right B (show kR B r + 1 ≤ B ^ r.length from ih)
    rw [Nat.add_mul] at this
    omega
theorem kR_inj {B : Nat} : ∀ l l' : List Nat, okW B l → okW B l' → kR B l = kR B l' → l = l'
  | [], [], _, _, _ => rfl
  | [], x :: r, _, h, e => by
    have := (h x List.mem_cons_self).1
    rw [kR, kR] at e
    omega
  | x :: r, [], h, _, e => by
    have := (h x List.mem_cons_self).1
    rw [kR, kR] at e
    omega
  | x :: r, y :: q, h, h', e => by
    obtain ⟨a1, a2⟩ := h x List.mem_cons_self
    obtain ⟨b1, b2⟩ := h' y List.mem_cons_self
    rw [kR, kR] at e
    have m1 : (kR B r * B + x) % B = x := by rw [Nat.mul_comm, Nat.mul_add_mod, Nat.mod_eq_of_lt a2]
    have m2 : (kR B q * B + y) % B = y := by rw [Nat.mul_comm, Nat.mul_add_mod, Nat.mod_eq_of_lt b2]
    have ex : x = y := by rw [← m1, ← m2, e]
    subst ex
    have e2 : kR B r * B = kR B q * B := by omega
    have e3 := Nat.eq_of_mul_eq_mul_right (show 0 < B by omega) e2
    rw [kR_inj r q (fun z hz => h z (List.mem_cons_of_mem _ hz)) (fun z hz => h' z (List.mem_cons_of_mem _ hz)) e3]
theorem l_inj {a b : Nat} (ha : a < 2 ^ 63) (hb : b < 2 ^ 63) (h : Int64.ofNat a = Int64.ofNat b) : a = b := by
  have e := congrArg Int64.toInt h
  rw [Int64.toInt_ofNat_of_lt ha, Int64.toInt_ofNat_of_lt hb] at e
  omega
theorem pow_le8 {B n : Nat} (hB : 1 ≤ B) (h : n ≤ 8) : B ^ n ≤ B ^ 8 := Nat.pow_le_pow_right hB h
/-- words are alike just when their numbers are -/
theorem key_iff {B : Nat} {l l' : List Nat} (hB : B = 32 ∨ B = 27) (h : okW 27 l) (h' : okW 27 l') (n : l.length ≤ 8) (n' : l'.length ≤ 8) : Int64.ofNat (kR B l) = Int64.ofNat (kR B l') ↔ l = l' := by
  have up : ∀ q : List Nat, okW 27 q → okW B q := fun q hq x hx => ⟨(hq x hx).1, by have := (hq x hx).2; omega⟩
  have b8 : B ^ 8 < 2 ^ 63 := by
    rcases hB with rfl | rfl
    · decide
    · decide
  have k1 := kR_lt l (up l h)
  have k2 := kR_lt l' (up l' h')
  have p1 := pow_le8 (show 1 ≤ B by omega) n
  have p2 := pow_le8 (show 1 ≤ B by omega) n'
  constructor
  · intro e
    exact kR_inj l l' (up l h) (up l' h') (l_inj (by omega) (by omega) e)
  · intro e
    rw [e]
def WD (i : Nat) : List Nat := if i = 0 then [11, 14, 1, 2] else if i = 1 then [8, 20, 1, 16] else if i = 2 then [5, 7, 4, 9, 18, 2] else if i = 3 then [14, 1, 13] else if i = 4 then [19, 5, 8, 19, 9, 23] else if i = 5 then [12, 12, 15, 20] else if i = 6 then [19, 5, 15, 7] else if i = 7 then [14, 9, 1, 7] else if i = 8 then [25, 3, 14, 1, 6] else if i = 9 then [14, 23, 1, 4] else if i = 10 then [19, 13, 9, 18, 7, 12, 9, 16] else if i = 11 then [5, 18, 9, 8] else if i = 12 then [4, 5, 5, 19] else if i = 13 then [6, 9] else if i = 14 then [14, 5, 8, 20] else if i = 15 then [5, 19, 12, 5] else if i = 16 then [18, 21, 15, 8] else if i = 17 then [20, 19, 1, 12] else if i = 18 then [19, 5, 13, 9, 20] else if i = 19 then [5, 19, 18, 21, 16] else if i = 20 then [5, 13, 15, 8] else if i = 21 then [15, 8, 23] else if i = 22 then [5, 18, 5, 8] else [4, 5, 20, 9, 1, 23]
theorem WD_ok0 : ∀ i : Fin 24, (WD i.val).length ≤ 8 ∧ (WD i.val).all (fun x => decide (1 ≤ x) && decide (x < 27)) = true := by decide +kernel
theorem WD_ok {i : Nat} (hi : i < 24) : (WD i).length ≤ 8 ∧ okW 27 (WD i) := by
  obtain ⟨a, b⟩ := WD_ok0 ⟨i, hi⟩
  refine ⟨a, fun x hx => ?_⟩
  have := List.all_eq_true.mp b x hx
  obtain ⟨c, d⟩ := Bool.and_eq_true_iff.mp this
  exact ⟨of_decide_eq_true c, of_decide_eq_true d⟩
set_option maxRecDepth 100000 in
theorem tkW_is : ∀ i : Fin 24, tkW i.val = Int64.ofNat (kR 32 (WD i.val)) := by decide +kernel
def wF (l : List Nat) : Nat → Nat → Nat
  | 0, i => i
  | k + 1, i => if WD i = l then i else wF l k (i + 1)
def wK (l : List Nat) : Nat := if wF l 24 0 < 24 then 13 + wF l 24 0 else 2
theorem c_kind_l {n : Nat} {l : List Nat} {σ : bS} (h : okW 27 l) (hl : l.length ≤ 8) (hW : σ.2.2 50 = tkW) : ∀ (k i : Nat), i ≤ 24 → 24 < i + k → cTokens_kindOfWord_b2 n k (Int64.ofNat (kR 32 l)) (nI i) σ = some (nI (if wF l (24 - i) i < 24 then 13 + wF l (24 - i) i else 2), σ)
  | 0, i, h1, h2 => by omega
  | k + 1, i, h1, h2 => by
    rw [cTokens_kindOfWord_b2, show cb_24 = nI 24 by decide]
    by_cases hi : i < 24
    · obtain ⟨w1, w2⟩ := WD_ok hi
      have ew : sJ σ 50 (nI i) = Int64.ofNat (kR 32 (WD i)) := by
        show σ.2.2 50 (nI i).toNatClampNeg = _
        rw [hW, nI_clamp (by omega)]
        exact tkW_is ⟨i, hi⟩
      rw [if_neg (nI_ge hi (by omega)), bin_nI hi (by decide), ew, show 24 - i = 24 - (i + 1) + 1 by omega, wF]
      by_cases z : WD i = l
      · rw [if_pos ((lg_cmp_eq _ _).mpr (by rw [z])), if_pos z, if_pos hi, show cb_13 = nI 13 by decide, nI_add]
      · rw [if_neg (fun u => z ((key_iff (Or.inl rfl) w2 h w1 hl).mp ((lg_cmp_eq _ _).mp u))), if_neg z, ci1_nI, nI_add]
        exact c_kind_l h hl hW k (i + 1) (by omega) (by omega)
    · have e : i = 24 := by omega
      subst e
      rw [if_pos (Int32.le_refl _)]
      rfl
theorem c_kind {n : Nat} {l : List Nat} {σ : bS} (hn : 30 ≤ n) (h : okW 27 l) (hl : l.length ≤ 8) (hW : σ.2.2 50 = tkW) : cTokens_kindOfWord n (Int64.ofNat (kR 32 l)) σ = some (nI (wK l), σ) := c_kind_l h hl hW n 0 (by omega) (by omega)
def wM (l : List Nat) : Int32 := if wF l 24 0 < 24 then nI (wF l 24 0) else -1
theorem k27_0 : (40484 : Int64) = Int64.ofNat (kR 27 (WD 0)) := by decide +kernel
theorem k27_1 : (316205 : Int64) = Int64.ofNat (kR 27 (WD 1)) := by decide +kernel
theorem k27_2 : (38444009 : Int64) = Int64.ofNat (kR 27 (WD 2)) := by decide +kernel
theorem k27_3 : (9518 : Int64) = Int64.ofNat (kR 27 (WD 3)) := by decide +kernel
theorem k27_4 : (335187793 : Int64) = Int64.ofNat (kR 27 (WD 4)) := by decide +kernel
theorem k27_5 : (404931 : Int64) = Int64.ofNat (kR 27 (WD 5)) := by decide +kernel
theorem k27_6 : (148870 : Int64) = Int64.ofNat (kR 27 (WD 6)) := by decide +kernel
theorem k27_7 : (138767 : Int64) = Int64.ofNat (kR 27 (WD 7)) := by decide +kernel
theorem k27_8 : (3218641 : Int64) = Int64.ofNat (kR 27 (WD 8)) := by decide +kernel
theorem k27_9 : (80096 : Int64) = Int64.ofNat (kR 27 (WD 9)) := by decide +kernel
theorem k27_10 : (171028703845 : Int64) = Int64.ofNat (kR 27 (WD 10)) := by decide +kernel
theorem k27_11 : (164516 : Int64) = Int64.ofNat (kR 27 (WD 11)) := by decide +kernel
theorem k27_12 : (377761 : Int64) = Int64.ofNat (kR 27 (WD 12)) := by decide +kernel
theorem k27_13 : (249 : Int64) = Int64.ofNat (kR 27 (WD 13)) := by decide +kernel
theorem k27_14 : (399641 : Int64) = Int64.ofNat (kR 27 (WD 14)) := by decide +kernel
theorem k27_15 : (107681 : Int64) = Int64.ofNat (kR 27 (WD 15)) := by decide +kernel
theorem k27_16 : (168984 : Int64) = Int64.ofNat (kR 27 (WD 16)) := by decide +kernel
theorem k27_17 : (237458 : Int64) = Int64.ofNat (kR 27 (WD 17)) := by decide +kernel
theorem k27_18 : (10815598 : Int64) = Int64.ofNat (kR 27 (WD 18)) := by decide +kernel
theorem k27_19 : (8930039 : Int64) = Int64.ofNat (kR 27 (WD 19)) := by decide +kernel
theorem k27_20 : (168755 : Int64) = Int64.ofNat (kR 27 (WD 20)) := by decide +kernel
theorem k27_21 : (16998 : Int64) = Int64.ofNat (kR 27 (WD 21)) := by decide +kernel
theorem k27_22 : (161600 : Int64) = Int64.ofNat (kR 27 (WD 22)) := by decide +kernel
theorem k27_23 : (330748168 : Int64) = Int64.ofNat (kR 27 (WD 23)) := by decide +kernel
theorem m_word {n : Nat} {l : List Nat} {σ : bS} (h : okW 27 l) (hl : l.length ≤ 8) : m_wordOf n (Int64.ofNat (kR 27 l)) σ = some (wM l, σ) := by
  have no : ∀ i, i < 24 → ¬ WD i = l → ∀ c : Int64, c = Int64.ofNat (kR 27 (WD i)) → ¬ (lg_cmp (Int64.ofNat (kR 27 l)) c) = 0 := fun i hi z c hc u => by
    rw [hc] at u
    obtain ⟨w1, w2⟩ := WD_ok hi
    exact z (((key_iff (Or.inr rfl) h w2 hl w1).mp ((lg_cmp_eq _ _).mp u)).symm)
  have ya : ∀ i, WD i = l → ∀ c : Int64, c = Int64.ofNat (kR 27 (WD i)) → (lg_cmp (Int64.ofNat (kR 27 l)) c) = 0 := fun i z c hc => by
    rw [hc, z]
    exact (lg_cmp_eq _ _).mpr rfl
  unfold m_wordOf wM
  rw [show wF l 24 0 = if WD 0 = l then 0 else wF l 23 1 from rfl]
  by_cases h0 : WD 0 = l
  · rw [if_pos (ya 0 h0 _ k27_0), if_pos h0]
    rfl
  rw [if_neg (no 0 (by omega) h0 _ k27_0), if_neg h0]
  rw [show wF l 23 1 = if WD 1 = l then 1 else wF l 22 2 from rfl]
  by_cases h1 : WD 1 = l
  · rw [if_pos (ya 1 h1 _ k27_1), if_pos h1]
    rfl
  rw [if_neg (no 1 (by omega) h1 _ k27_1), if_neg h1]
  rw [show wF l 22 2 = if WD 2 = l then 2 else wF l 21 3 from rfl]
  by_cases h2 : WD 2 = l
  · rw [if_pos (ya 2 h2 _ k27_2), if_pos h2]
    rfl
  rw [if_neg (no 2 (by omega) h2 _ k27_2), if_neg h2]
  rw [show wF l 21 3 = if WD 3 = l then 3 else wF l 20 4 from rfl]
  by_cases h3 : WD 3 = l
  · rw [if_pos (ya 3 h3 _ k27_3), if_pos h3]
    rfl
  rw [if_neg (no 3 (by omega) h3 _ k27_3), if_neg h3]
  rw [show wF l 20 4 = if WD 4 = l then 4 else wF l 19 5 from rfl]
  by_cases h4 : WD 4 = l
  · rw [if_pos (ya 4 h4 _ k27_4), if_pos h4]
    rfl
  rw [if_neg (no 4 (by omega) h4 _ k27_4), if_neg h4]
  rw [show wF l 19 5 = if WD 5 = l then 5 else wF l 18 6 from rfl]
  by_cases h5 : WD 5 = l
  · rw [if_pos (ya 5 h5 _ k27_5), if_pos h5]
    rfl
  rw [if_neg (no 5 (by omega) h5 _ k27_5), if_neg h5]
  rw [show wF l 18 6 = if WD 6 = l then 6 else wF l 17 7 from rfl]
  by_cases h6 : WD 6 = l
  · rw [if_pos (ya 6 h6 _ k27_6), if_pos h6]
    rfl
  rw [if_neg (no 6 (by omega) h6 _ k27_6), if_neg h6]
  rw [show wF l 17 7 = if WD 7 = l then 7 else wF l 16 8 from rfl]
  by_cases h7 : WD 7 = l
  · rw [if_pos (ya 7 h7 _ k27_7), if_pos h7]
    rfl
  rw [if_neg (no 7 (by omega) h7 _ k27_7), if_neg h7]
  rw [show wF l 16 8 = if WD 8 = l then 8 else wF l 15 9 from rfl]
  by_cases h8 : WD 8 = l
  · rw [if_pos (ya 8 h8 _ k27_8), if_pos h8]
    rfl
  rw [if_neg (no 8 (by omega) h8 _ k27_8), if_neg h8]
  rw [show wF l 15 9 = if WD 9 = l then 9 else wF l 14 10 from rfl]
  by_cases h9 : WD 9 = l
  · rw [if_pos (ya 9 h9 _ k27_9), if_pos h9]
    rfl
  rw [if_neg (no 9 (by omega) h9 _ k27_9), if_neg h9]
  rw [show wF l 14 10 = if WD 10 = l then 10 else wF l 13 11 from rfl]
  by_cases h10 : WD 10 = l
  · rw [if_pos (ya 10 h10 _ k27_10), if_pos h10]
    rfl
  rw [if_neg (no 10 (by omega) h10 _ k27_10), if_neg h10]
  rw [show wF l 13 11 = if WD 11 = l then 11 else wF l 12 12 from rfl]
  by_cases h11 : WD 11 = l
  · rw [if_pos (ya 11 h11 _ k27_11), if_pos h11]
    rfl
  rw [if_neg (no 11 (by omega) h11 _ k27_11), if_neg h11]
  rw [show wF l 12 12 = if WD 12 = l then 12 else wF l 11 13 from rfl]
  by_cases h12 : WD 12 = l
  · rw [if_pos (ya 12 h12 _ k27_12), if_pos h12]
    rfl
  rw [if_neg (no 12 (by omega) h12 _ k27_12), if_neg h12]
  rw [show wF l 11 13 = if WD 13 = l then 13 else wF l 10 14 from rfl]
  by_cases h13 : WD 13 = l
  · rw [if_pos (ya 13 h13 _ k27_13), if_pos h13]
    rfl
  rw [if_neg (no 13 (by omega) h13 _ k27_13), if_neg h13]
  rw [show wF l 10 14 = if WD 14 = l then 14 else wF l 9 15 from rfl]
  by_cases h14 : WD 14 = l
  · rw [if_pos (ya 14 h14 _ k27_14), if_pos h14]
    rfl
  rw [if_neg (no 14 (by omega) h14 _ k27_14), if_neg h14]
  rw [show wF l 9 15 = if WD 15 = l then 15 else wF l 8 16 from rfl]
  by_cases h15 : WD 15 = l
  · rw [if_pos (ya 15 h15 _ k27_15), if_pos h15]
    rfl
  rw [if_neg (no 15 (by omega) h15 _ k27_15), if_neg h15]
  rw [show wF l 8 16 = if WD 16 = l then 16 else wF l 7 17 from rfl]
  by_cases h16 : WD 16 = l
  · rw [if_pos (ya 16 h16 _ k27_16), if_pos h16]
    rfl
  rw [if_neg (no 16 (by omega) h16 _ k27_16), if_neg h16]
  rw [show wF l 7 17 = if WD 17 = l then 17 else wF l 6 18 from rfl]
  by_cases h17 : WD 17 = l
  · rw [if_pos (ya 17 h17 _ k27_17), if_pos h17]
    rfl
  rw [if_neg (no 17 (by omega) h17 _ k27_17), if_neg h17]
  rw [show wF l 6 18 = if WD 18 = l then 18 else wF l 5 19 from rfl]
  by_cases h18 : WD 18 = l
  · rw [if_pos (ya 18 h18 _ k27_18), if_pos h18]
    rfl
  rw [if_neg (no 18 (by omega) h18 _ k27_18), if_neg h18]
  rw [show wF l 5 19 = if WD 19 = l then 19 else wF l 4 20 from rfl]
  by_cases h19 : WD 19 = l
  · rw [if_pos (ya 19 h19 _ k27_19), if_pos h19]
    rfl
  rw [if_neg (no 19 (by omega) h19 _ k27_19), if_neg h19]
  rw [show wF l 4 20 = if WD 20 = l then 20 else wF l 3 21 from rfl]
  by_cases h20 : WD 20 = l
  · rw [if_pos (ya 20 h20 _ k27_20), if_pos h20]
    rfl
  rw [if_neg (no 20 (by omega) h20 _ k27_20), if_neg h20]
  rw [show wF l 3 21 = if WD 21 = l then 21 else wF l 2 22 from rfl]
  by_cases h21 : WD 21 = l
  · rw [if_pos (ya 21 h21 _ k27_21), if_pos h21]
    rfl
  rw [if_neg (no 21 (by omega) h21 _ k27_21), if_neg h21]
  rw [show wF l 2 22 = if WD 22 = l then 22 else wF l 1 23 from rfl]
  by_cases h22 : WD 22 = l
  · rw [if_pos (ya 22 h22 _ k27_22), if_pos h22]
    rfl
  rw [if_neg (no 22 (by omega) h22 _ k27_22), if_neg h22]
  rw [show wF l 1 23 = if WD 23 = l then 23 else wF l 0 24 from rfl]
  by_cases h23 : WD 23 = l
  · rw [if_pos (ya 23 h23 _ k27_23), if_pos h23]
    rfl
  rw [if_neg (no 23 (by omega) h23 _ k27_23), if_neg h23]
  rfl
