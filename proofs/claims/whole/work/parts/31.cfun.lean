def cb_25 : Int32 := (Int8.ofInt (25)).toInt32
theorem cb_25_eq : cb_25 = 25 := by decide
def cb_27 : Int32 := (Int8.ofInt (27)).toInt32
theorem cb_27_eq : cb_27 = 27 := by decide
def cb_28 : Int32 := (Int8.ofInt (28)).toInt32
theorem cb_28_eq : cb_28 = 28 := by decide
def cb_29 : Int32 := (Int8.ofInt (29)).toInt32
theorem cb_29_eq : cb_29 = 29 := by decide
def cb_63 : Int32 := (Int8.ofInt (63)).toInt32
theorem cb_63_eq : cb_63 = 63 := by decide
def ci_8 : Int32 := Int32.ofInt (8)
theorem ci_8_eq : ci_8 = 8 := by decide
def ci_m2 : Int32 := Int32.ofInt (-2)
theorem ci_m2_eq : ci_m2 = -2 := by decide
def ci_m8 : Int32 := Int32.ofInt (-8)
theorem ci_m8_eq : ci_m8 = -8 := by decide
def cn_1024 : Int32 := Int32.ofNat 1024
theorem cn_1024_eq : cn_1024 = 1024 := by decide
def cn_17 : Int32 := Int32.ofNat 17
theorem cn_17_eq : cn_17 = 17 := by decide
def cn_1792 : Int32 := Int32.ofNat 1792
theorem cn_1792_eq : cn_1792 = 1792 := by decide
def cn_20 : Int32 := Int32.ofNat 20
theorem cn_20_eq : cn_20 = 20 := by decide
def cn_2000 : Int32 := Int32.ofNat 2000
theorem cn_2000_eq : cn_2000 = 2000 := by decide
def cn_32 : Int32 := Int32.ofNat 32
theorem cn_32_eq : cn_32 = 32 := by decide
def cn_36 : Int32 := Int32.ofNat 36
theorem cn_36_eq : cn_36 = 36 := by decide
def cn_4 : Int32 := Int32.ofNat 4
theorem cn_4_eq : cn_4 = 4 := by decide
def cn_402 : Int32 := Int32.ofNat 402
theorem cn_402_eq : cn_402 = 402 := by decide
def cn_6 : Int32 := Int32.ofNat 6
theorem cn_6_eq : cn_6 = 6 := by decide
def cn_7 : Int32 := Int32.ofNat 7
theorem cn_7_eq : cn_7 = 7 := by decide
def cn_96 : Int32 := Int32.ofNat 96
theorem cn_96_eq : cn_96 = 96 := by decide
def cs_1024 : Int32 := (Int16.ofInt (1024)).toInt32
theorem cs_1024_eq : cs_1024 = 1024 := by decide
def cs_1980 : Int32 := (Int16.ofInt (1980)).toInt32
theorem cs_1980_eq : cs_1980 = 1980 := by decide
def cs_5461 : Int32 := (Int16.ofInt (5461)).toInt32
theorem cs_5461_eq : cs_5461 = 5461 := by decide
def cTop_putBytes_b46 (n : Nat) (σ : bS) : Option bS :=
  some σ
def cTop_putBytes_b43 (n : Nat) (r3 : Int32 → Int32 → bS → Option bS) (x1 : Int32) (x2 : Int32) (σ : bS) : Option bS :=
  r3 x1 x2 σ
def cTop_putBytes_b3 (n : Nat) : Nat → Int32 → Int32 → bS → Option bS
  | 0, _, _, _ => none
  | k + 1, x1, x2, σ =>
  if x2 < 0 then
    cTop_putBytes_b46 n σ
  else
  if cs_2000 ≤ (sI σ 0 1) then
    cTop_putBytes_b46 n σ
  else
  bin_ (sI σ 0 1) 2000 (
  cTop_putBytes_b43 n (cTop_putBytes_b3 n k) x1 (x2 + ci_m8) (uI (uA σ 43 (sI σ 0 1) (vp_nar .byte ((bush x1 x2)).toInt8.toInt32)) 0 1 ((sI (uA σ 43 (sI σ 0 1) (vp_nar .byte ((bush x1 x2)).toInt8.toInt32)) 0 1) + ci_1)))
def cTop_putBytes (n : Nat) (x1 : Int32) (σ : bS) : Option bS :=
  cTop_putBytes_b3 n n x1 cb_24 σ
def cTop_feed (n : Nat) (x1 : Int32) (x2 : Int32) (x3 : Int32) (x4 : Int32) (x5 : Int32) (σ : bS) : Option (Int32 × bS) :=
  if (sI σ 0 1) ≤ cs_1980 then
    ob (cTop_putBytes n x1 σ) fun q1 =>
    ob (cTop_putBytes n x2 q1) fun q2 =>
    ob (cTop_putBytes n x3 q2) fun q3 =>
    ob (cTop_putBytes n x4 q3) fun q4 =>
    ob (cTop_putBytes n x5 q4) fun q5 =>
    some ((sI q5 0 1), q5)
  else
  some (ci_m1, σ)
def cTop_back_b21 (n : Nat) (s1 : Int32) (σ : bS) : Option (Int32 × bS) :=
  some ((sI (uI σ 0 1 s1) 0 1), (uI σ 0 1 s1))
def cTop_back_b12 (n : Nat) (σ : bS) : Option (Int32 × bS) :=
  some (ci_m1, σ)
def cTop_back (n : Nat) (x1 : Int32) (σ : bS) : Option (Int32 × bS) :=
  if x1 < 0 then
    cTop_back_b12 n σ
  else
  if x1 ≤ (sI σ 0 1) then
    cTop_back_b21 n ((sI σ 0 1) - x1) σ
  else
  cTop_back_b12 n σ
def cj_min_b10 (n : Nat) (s0 : Int32) (σ : bS) : Option (Int32 × bS) :=
  some (s0, σ)
def cj_min (n : Nat) (x0 : Int32) (x1 : Int32) (σ : bS) : Option (Int32 × bS) :=
  if x1 < x0 then
    cj_min_b10 n x1 σ
  else
  cj_min_b10 n x0 σ
def cTokens_isBlank_b29 (n : Nat) (s0 : Int32) (σ : bS) : Option (Int32 × bS) :=
  bz s0 σ
def cTokens_isBlank_b24 (n : Nat) (σ : bS) : Option (Int32 × bS) :=
  cTokens_isBlank_b29 n ci_1 σ
def cTokens_isBlank (n : Nat) (x0 : Int32) (σ : bS) : Option (Int32 × bS) :=
  if x0 = cb_9 then
    cTokens_isBlank_b24 n σ
  else
  if x0 = cb_10 then
    cTokens_isBlank_b24 n σ
  else
  if x0 = cb_13 then
    cTokens_isBlank_b24 n σ
  else
  if x0 = cb_32 then
    cTokens_isBlank_b24 n σ
  else
  cTokens_isBlank_b29 n ci_0 σ
def cTokens_pastBlanks_43_b25 (n : Nat) (x3 : Int32) (σ : bS) : Option (Int32 × bS) :=
  some (x3, σ)
def cTokens_pastBlanks_43_b2 (n : Nat) : Nat → Int32 → bS → Option (Int32 × bS)
  | 0, _, _ => none
  | k + 1, x3, σ =>
  if (sI σ 49 5) ≤ x3 then
    cTokens_pastBlanks_43_b25 n x3 σ
  else
  bin_ x3 2000 (
  ob (cTokens_isBlank n (sA σ 43 x3) σ) fun q1 =>
  if q1.1 = 0 then
    cTokens_pastBlanks_43_b25 n x3 q1.2
  else
  (cTokens_pastBlanks_43_b2 n k) (x3 + ci_1) q1.2)
def cTokens_pastBlanks_43 (n : Nat) (x2 : Int32) (σ : bS) : Option (Int32 × bS) :=
  cTokens_pastBlanks_43_b2 n n x2 σ
def cTokens_put_b51 (n : Nat) (σ : bS) : Option bS :=
  some σ
def cTokens_put (n : Nat) (x1 : Int32) (x2 : Int64) (x4 : Int32) (σ : bS) : Option bS :=
  if cs_400 < (sI σ 49 4) then
    cTokens_put_b51 n σ
  else
  bin_ (sI σ 49 4) 401 (
  bin_ (sI (uA σ 51 (sI σ 49 4) x1) 49 4) 401 (
  bin_ (sI (uJ (uA σ 51 (sI σ 49 4) x1) 52 (sI (uA σ 51 (sI σ 49 4) x1) 49 4) x2) 49 4) 401 (
  cTokens_put_b51 n (uI (uA (uJ (uA σ 51 (sI σ 49 4) x1) 52 (sI (uA σ 51 (sI σ 49 4) x1) 49 4) x2) 53 (sI (uJ (uA σ 51 (sI σ 49 4) x1) 52 (sI (uA σ 51 (sI σ 49 4) x1) 49 4) x2) 49 4) x4) 49 4 ((sI (uA (uJ (uA σ 51 (sI σ 49 4) x1) 52 (sI (uA σ 51 (sI σ 49 4) x1) 49 4) x2) 53 (sI (uJ (uA σ 51 (sI σ 49 4) x1) 52 (sI (uA σ 51 (sI σ 49 4) x1) 49 4) x2) 49 4) x4) 49 4) + ci_1)))))
def cTokens_isLetter_b17 (n : Nat) (s0 : Int32) (σ : bS) : Option (Int32 × bS) :=
  bz s0 σ
def cTokens_isLetter_b16 (n : Nat) (σ : bS) : Option (Int32 × bS) :=
  cTokens_isLetter_b17 n ci_0 σ
def cTokens_isLetter (n : Nat) (x0 : Int32) (σ : bS) : Option (Int32 × bS) :=
  if x0 < cb_97 then
    cTokens_isLetter_b16 n σ
  else
  if cb_122 < x0 then
    cTokens_isLetter_b16 n σ
  else
  cTokens_isLetter_b17 n ci_1 σ
def cTokens_withLetter_b9 (n : Nat) (s0 : Int64) (s1 : Int32) (σ : bS) : Option (Int64 × bS) :=
  some ((s0 + ((s1 + ci_1)).toInt64), σ)
def cTokens_withLetter (n : Nat) (x0 : Int64) (x2 : Int32) (σ : bS) : Option (Int64 × bS) :=
  cTokens_withLetter_b9 n (x0 * (32 : Int64)) (x2 - cb_97) σ
def cTokens_kindOfWord_b2 (n : Nat) : Nat → Int64 → Int32 → bS → Option (Int32 × bS)
  | 0, _, _, _ => none
  | k + 1, x1, x3, σ =>
  if cb_24 ≤ x3 then
    some (ci_2, σ)
  else
  bin_ x3 24 (
  if (lg_cmp (sJ σ 50 x3) x1) = 0 then
    some ((cb_13 + x3), σ)
  else
  (cTokens_kindOfWord_b2 n k) x1 (x3 + ci_1) σ)
def cTokens_kindOfWord (n : Nat) (x1 : Int64) (σ : bS) : Option (Int32 × bS) :=
  cTokens_kindOfWord_b2 n n x1 ci_0 σ
def cTokens_cutWord_43_b58 (n : Nat) (x2 : Int32) (x3 : Int64) (x5 : Int32) (s1 : Int32) (σ : bS) : Option (Int32 × bS) :=
  ob (cTokens_put n s1 x3 x2 σ) fun q1 =>
  some (x5, q1)
def cTokens_cutWord_43_b44 (n : Nat) (x2 : Int32) (x3 : Int64) (x5 : Int32) (s1 : Int32) (σ : bS) : Option (Int32 × bS) :=
  if s1 ≤ cb_8 then
    ob (cTokens_kindOfWord n x3 σ) fun q2 =>
    cTokens_cutWord_43_b58 n x2 x3 x5 q2.1 q2.2
  else
  cTokens_cutWord_43_b58 n x2 x3 x5 ci_1 σ
def cTokens_cutWord_43_b39 (n : Nat) (x2 : Int32) (x3 : Int64) (x5 : Int32) (σ : bS) : Option (Int32 × bS) :=
  cTokens_cutWord_43_b44 n x2 x3 x5 (x5 - x2) σ
def cTokens_cutWord_43_b5 (n : Nat) : Nat → Int32 → Int64 → Int32 → bS → Option (Int32 × bS)
  | 0, _, _, _, _ => none
  | k + 1, x2, x3, x5, σ =>
  if (sI σ 49 5) ≤ x5 then
    cTokens_cutWord_43_b39 n x2 x3 x5 σ
  else
  bin_ x5 2000 (
  ob (cTokens_isLetter n (sA σ 43 x5) σ) fun q3 =>
  if q3.1 = 0 then
    cTokens_cutWord_43_b39 n x2 x3 x5 q3.2
  else
  bin_ x5 2000 (
  ob (cTokens_withLetter n x3 (sA q3.2 43 x5) q3.2) fun q4 =>
  (cTokens_cutWord_43_b5 n k) x2 q4.1 (x5 + ci_1) q4.2))
def cTokens_cutWord_43 (n : Nat) (x2 : Int32) (σ : bS) : Option (Int32 × bS) :=
  cTokens_cutWord_43_b5 n n x2 (0 : Int64) x2 σ
def cTokens_isDigit_b17 (n : Nat) (s0 : Int32) (σ : bS) : Option (Int32 × bS) :=
  bz s0 σ
def cTokens_isDigit_b16 (n : Nat) (σ : bS) : Option (Int32 × bS) :=
  cTokens_isDigit_b17 n ci_0 σ
def cTokens_isDigit (n : Nat) (x0 : Int32) (σ : bS) : Option (Int32 × bS) :=
  if x0 < cb_48 then
    cTokens_isDigit_b16 n σ
  else
  if cb_57 < x0 then
    cTokens_isDigit_b16 n σ
  else
  cTokens_isDigit_b17 n ci_1 σ
def cTokens_cutInt_43_b57 (n : Nat) (x2 : Int32) (x3 : Int32) (x4 : Int32) (s1 : Int32) (σ : bS) : Option (Int32 × bS) :=
  ob (cTokens_put n s1 (x3).toInt64 x2 σ) fun q1 =>
  some (x4, q1)
def cTokens_cutInt_43_b48 (n : Nat) (x2 : Int32) (x3 : Int32) (x4 : Int32) (s1 : Int32) (σ : bS) : Option (Int32 × bS) :=
  if s1 ≤ ci_4 then
    cTokens_cutInt_43_b57 n x2 x3 x4 ci_3 σ
  else
  cTokens_cutInt_43_b57 n x2 x3 x4 ci_1 σ
def cTokens_cutInt_43_b43 (n : Nat) (x2 : Int32) (x3 : Int32) (x4 : Int32) (σ : bS) : Option (Int32 × bS) :=
  cTokens_cutInt_43_b48 n x2 x3 x4 (x4 - x2) σ
def cTokens_cutInt_43_b35 (n : Nat) (r5 : Int32 → Int32 → Int32 → bS → Option (Int32 × bS)) (x2 : Int32) (x4 : Int32) (s0 : Int32) (s1 : Int32) (σ : bS) : Option (Int32 × bS) :=
  r5 x2 (s0 + s1) (x4 + ci_1) σ
def cTokens_cutInt_43_b5 (n : Nat) : Nat → Int32 → Int32 → Int32 → bS → Option (Int32 × bS)
  | 0, _, _, _, _ => none
  | k + 1, x2, x3, x4, σ =>
  if (sI σ 49 5) ≤ x4 then
    cTokens_cutInt_43_b43 n x2 x3 x4 σ
  else
  bin_ x4 2000 (
  ob (cTokens_isDigit n (sA σ 43 x4) σ) fun q2 =>
  if q2.1 = 0 then
    cTokens_cutInt_43_b43 n x2 x3 x4 q2.2
  else
  bin_ x4 2000 (
  cTokens_cutInt_43_b35 n (cTokens_cutInt_43_b5 n k) x2 x4 (x3 * cb_10) ((sA q2.2 43 x4) - cb_48) q2.2))
def cTokens_cutInt_43 (n : Nat) (x2 : Int32) (σ : bS) : Option (Int32 × bS) :=
  cTokens_cutInt_43_b5 n n x2 ci_0 x2 σ
def cTokens_signOf_b129 (n : Nat) (σ : bS) : Option (Int32 × bS) :=
  some (ci_1, σ)
def cTokens_signOf (n : Nat) (x0 : Int32) (σ : bS) : Option (Int32 × bS) :=
  if (x0).toInt = 40 then
    some (cb_11, σ)
  else
  if (x0).toInt = 41 then
    some (cb_12, σ)
  else
  if (x0).toInt = 42 then
    some (cb_8, σ)
  else
  if (x0).toInt = 43 then
    some (cb_6, σ)
  else
  if (x0).toInt = 44 then
    cTokens_signOf_b129 n σ
  else
  if (x0).toInt = 45 then
    some (cb_7, σ)
  else
  if (x0).toInt = 46 then
    cTokens_signOf_b129 n σ
  else
  if (x0).toInt = 47 then
    some (cb_9, σ)
  else
  if (x0).toInt = 48 then
    cTokens_signOf_b129 n σ
  else
  if (x0).toInt = 49 then
    cTokens_signOf_b129 n σ
  else
  if (x0).toInt = 50 then
    cTokens_signOf_b129 n σ
  else
  if (x0).toInt = 51 then
    cTokens_signOf_b129 n σ
  else
  if (x0).toInt = 52 then
    cTokens_signOf_b129 n σ
  else
  if (x0).toInt = 53 then
    cTokens_signOf_b129 n σ
  else
  if (x0).toInt = 54 then
    cTokens_signOf_b129 n σ
  else
  if (x0).toInt = 55 then
    cTokens_signOf_b129 n σ
  else
  if (x0).toInt = 56 then
    cTokens_signOf_b129 n σ
  else
  if (x0).toInt = 57 then
    cTokens_signOf_b129 n σ
  else
  if (x0).toInt = 58 then
    cTokens_signOf_b129 n σ
  else
  if (x0).toInt = 59 then
    some (ci_4, σ)
  else
  if (x0).toInt = 60 then
    some (cb_10, σ)
  else
  if (x0).toInt = 61 then
    some (ci_5, σ)
  else
  cTokens_signOf_b129 n σ
def cTokens_cutOne_43 (n : Nat) (x2 : Int32) (σ : bS) : Option (Int32 × bS) :=
  if x2 < (sI σ 49 5) then
    bin_ x2 2000 (
    ob (cTokens_isLetter n (sA σ 43 x2) σ) fun q1 =>
    if q1.1 = 0 then
      ob (cTokens_isDigit n (sA σ 43 x2) q1.2) fun q2 =>
      if q2.1 = 0 then
        ob (cTokens_signOf n (sA σ 43 x2) q2.2) fun q3 =>
        ob (cTokens_put n q3.1 (0 : Int64) x2 q3.2) fun q4 =>
        some ((x2 + ci_1), q4)
      else
      ob (cTokens_cutInt_43 n x2 q2.2) fun q5 =>
      some (q5.1, q5.2)
    else
    ob (cTokens_cutWord_43 n x2 q1.2) fun q6 =>
    some (q6.1, q6.2))
  else
  ob (cTokens_put n ci_0 (0 : Int64) (sI σ 49 5) σ) fun q7 =>
  some ((sI q7 49 5), q7)
def cTokens_cut_43_b68 (n : Nat) (σ : bS) : Option bS :=
  some σ
def cTokens_cut_43_b50 (n : Nat) (r20 : Int32 → Int32 → bS → Option bS) (x3 : Int32) (x4 : Int32) (σ : bS) : Option bS :=
  ob (cTokens_pastBlanks_43 n x3 σ) fun q1 =>
  ob (cTokens_cutOne_43 n q1.1 q1.2) fun q2 =>
  r20 q2.1 (x4 + ci_1) q2.2
def cTokens_cut_43_b45 (n : Nat) (r20 : Int32 → Int32 → bS → Option bS) (x3 : Int32) (x4 : Int32) (s1 : Int32) (σ : bS) : Option bS :=
  bin_ s1 401 (
  if (sA σ 51 s1) ≤ ci_1 then
    cTokens_cut_43_b68 n σ
  else
  cTokens_cut_43_b50 n r20 x3 x4 σ)
def cTokens_cut_43_b20 (n : Nat) : Nat → Int32 → Int32 → bS → Option bS
  | 0, _, _, _ => none
  | k + 1, x3, x4, σ =>
  if cs_400 < x4 then
    cTokens_cut_43_b68 n σ
  else
  if (sI σ 49 4) = 0 then
    cTokens_cut_43_b50 n (cTokens_cut_43_b20 n k) x3 x4 σ
  else
  cTokens_cut_43_b45 n (cTokens_cut_43_b20 n k) x3 x4 ((sI σ 49 4) - ci_1) σ
def cTokens_cut_43 (n : Nat) (x2 : Int32) (σ : bS) : Option bS :=
  ob (cj_min n x2 cn_2000 (uI σ 49 4 ci_0)) fun q3 =>
  cTokens_cut_43_b20 n n ci_0 ci_0 (uI q3.2 49 5 q3.1)
def cj_fill_15_b5 (n : Nat) : Nat → Int32 → Int32 → Int32 → bS → Option bS
  | 0, _, _, _, _ => none
  | k + 1, x1, x2, x3, σ =>
  if x3 ≤ x2 then
    some σ
  else
  bin_ x2 36 (
  (cj_fill_15_b5 n k) x1 (x2 + ci_1) x3 (uA σ 15 x2 x1))
def cj_fill_15 (n : Nat) (x1 : Int32) (σ : bS) : Option bS :=
  cj_fill_15_b5 n n x1 ci_0 cn_36 σ
def cj_fill_21_b5 (n : Nat) : Nat → Int32 → Int32 → Int32 → bS → Option bS
  | 0, _, _, _, _ => none
  | k + 1, x1, x2, x3, σ =>
  if x3 ≤ x2 then
    some σ
  else
  bin_ x2 7 (
  (cj_fill_21_b5 n k) x1 (x2 + ci_1) x3 (uA σ 21 x2 x1))
def cj_fill_21 (n : Nat) (x1 : Int32) (σ : bS) : Option bS :=
  cj_fill_21_b5 n n x1 ci_0 cn_7 σ
def cj_fill_22_b5 (n : Nat) : Nat → Int32 → Int32 → Int32 → bS → Option bS
  | 0, _, _, _, _ => none
  | k + 1, x1, x2, x3, σ =>
  if x3 ≤ x2 then
    some σ
  else
  bin_ x2 4 (
  (cj_fill_22_b5 n k) x1 (x2 + ci_1) x3 (uA σ 22 x2 x1))
def cj_fill_22 (n : Nat) (x1 : Int32) (σ : bS) : Option bS :=
  cj_fill_22_b5 n n x1 ci_0 cn_4 σ
def cTold_clear_s (n : Nat) (σ : bS) : Option bS :=
  ob (cj_fill_15 n ci_0 (uI (uI (uI (uI σ 14 0 ci_0) 14 1 ci_0) 14 2 ci_0) 14 3 ci_0)) fun q1 =>
  ob (cj_fill_21 n ci_m1 q1) fun q2 =>
  ob (cj_fill_22 n ci_m1 q2) fun q3 =>
  some (uI (uI (uI (uI (uI (uI (uI (uI q3 14 12 ci_m1) 14 13 ci_m1) 14 14 ci_m1) 14 15 ci_m1) 14 16 ci_0) 14 17 ci_5) 14 18 ci_0) 23 3 ci_0)
def cReader_begin_14_43 (n : Nat) (x3 : Int32) (σ : bS) : Option bS :=
  ob (cTokens_cut_43 n x3 σ) fun q1 =>
  ob (cTold_clear_s n q1) fun q2 =>
  some (uI (uI (uI (uI q2 44 4 ci_0) 44 5 ci_0) 44 6 ci_0) 44 11 ci_0)
def cReader_kind (n : Nat) (σ : bS) : Option (Int32 × bS) :=
  bin_ (sI σ 44 4) 401 (
  some ((sA σ 51 (sI σ 44 4)), σ))
def cReader_fail_b28 (n : Nat) (σ : bS) : Option bS :=
  some σ
def cReader_fail (n : Nat) (x1 : Int32) (σ : bS) : Option bS :=
  if (sI σ 44 5) = 0 then
    bin_ (sI (uI σ 44 5 x1) 44 4) 401 (
    cReader_fail_b28 n (uI (uI σ 44 5 x1) 44 0 (sA (uI σ 44 5 x1) 53 (sI (uI σ 44 5 x1) 44 4))))
  else
  cReader_fail_b28 n σ
def cReader_take_b62 (n : Nat) (σ : bS) : Option bS :=
  some σ
def cReader_take_b59 (n : Nat) (s1 : Int32) (σ : bS) : Option bS :=
  ob (cReader_fail n s1 σ) fun q1 =>
  cReader_take_b62 n q1
def cReader_take_b49 (n : Nat) (x2 : Int32) (σ : bS) : Option bS :=
  if x2 = 0 then
    cReader_take_b59 n ci_1 σ
  else
  cReader_take_b59 n ci_2 σ
def cReader_take_b21 (n : Nat) (s0 : Int32) (σ : bS) : Option bS :=
  if s0 = 0 then
    cReader_take_b49 n s0 σ
  else
  if cs_400 ≤ (sI σ 44 4) then
    cReader_take_b49 n s0 σ
  else
  cReader_take_b62 n (uI σ 44 4 ((sI σ 44 4) + ci_1))
def cReader_take (n : Nat) (x1 : Int32) (σ : bS) : Option bS :=
  if (sI σ 44 5) = 0 then
    ob (cReader_kind n σ) fun q2 =>
    if q2.1 = x1 then
      cReader_take_b21 n ci_1 q2.2
    else
    cReader_take_b21 n ci_0 q2.2
  else
  some σ
def cReader_note_b25 (n : Nat) (σ : bS) : Option bS :=
  some σ
def cReader_note (n : Nat) (x1 : Int32) (x2 : Int32) (σ : bS) : Option bS :=
  if (sI σ 44 6) = 0 then
    bin_ x2 401 (
    cReader_note_b25 n (uI (uI σ 44 6 x1) 44 7 (sA (uI σ 44 6 x1) 53 x2)))
  else
  cReader_note_b25 n σ
def cReader_takeInt_b51 (n : Nat) (x3 : Int32) (σ : bS) : Option (Int32 × bS) :=
  some (x3, σ)
def cReader_takeInt_b44 (n : Nat) (x3 : Int32) (x4 : Int32) (σ : bS) : Option (Int32 × bS) :=
  ob (cReader_note n ci_5 x4 σ) fun q1 =>
  cReader_takeInt_b51 n x3 q1
def cReader_takeInt (n : Nat) (x1 : Int32) (x2 : Int32) (σ : bS) : Option (Int32 × bS) :=
  bin_ (sI σ 44 4) 401 (
  ob (cReader_take n ci_3 σ) fun q2 =>
  if (sI q2 44 5) = 0 then
    if ((sJ σ 52 (sI σ 44 4))).toInt32 < x1 then
      cReader_takeInt_b44 n ((sJ σ 52 (sI σ 44 4))).toInt32 (sI σ 44 4) q2
    else
    if ((sJ σ 52 (sI σ 44 4))).toInt32 ≤ x2 then
      cReader_takeInt_b51 n ((sJ σ 52 (sI σ 44 4))).toInt32 q2
    else
    cReader_takeInt_b44 n ((sJ σ 52 (sI σ 44 4))).toInt32 (sI σ 44 4) q2
  else
  some (x1, q2))
def cReader_takeSetting (n : Nat) (x1 : Int32) (x2 : Int32) (σ : bS) : Option (Int32 × bS) :=
  ob (cReader_take n x1 σ) fun q1 =>
  ob (cReader_takeInt n ci_0 x2 q1) fun q2 =>
  ob (cReader_take n ci_4 q2.2) fun q3 =>
  some (q2.1, q3)
def cReader_weightOf_b21 (n : Nat) (s0 : Int32) (σ : bS) : Option (Int32 × bS) :=
  some (s0, σ)
def cReader_weightOf (n : Nat) (x0 : Int32) (σ : bS) : Option (Int32 × bS) :=
  if x0 = cb_11 then
    cReader_weightOf_b21 n ci_0 σ
  else
  if cb_8 ≤ x0 then
    cReader_weightOf_b21 n ci_2 σ
  else
  cReader_weightOf_b21 n ci_1 σ
def cLaws_add_s_b45 (n : Nat) (s0 : Int32) (σ : bS) : Option (Int32 × bS) :=
  some (s0, σ)
def cLaws_add_s (n : Nat) (x1 : Int32) (x2 : Int32) (σ : bS) : Option (Int32 × bS) :=
  if (sI σ 23 3) < cn_402 then
    bin_ (sI σ 23 3) 402 (
    cLaws_add_s_b45 n ((sI (uI (uA σ 24 (sI σ 23 3) ((x2 * cb_8) + x1)) 23 3 ((sI (uA σ 24 (sI σ 23 3) ((x2 * cb_8) + x1)) 23 3) + ci_1)) 23 3) - ci_1) (uI (uA σ 24 (sI σ 23 3) ((x2 * cb_8) + x1)) 23 3 ((sI (uA σ 24 (sI σ 23 3) ((x2 * cb_8) + x1)) 23 3) + ci_1)))
  else
  some (ci_m1, σ)
def cReader_settleSigns_b63 (n : Nat) (σ : bS) : Option bS :=
  some σ
def cReader_settleSigns_b57 (n : Nat) (r0 : Int32 → bS → Option bS) (x1 : Int32) (s1 : Int32) (σ : bS) : Option bS :=
  r0 x1 (uI σ 44 13 s1)
def cReader_settleSigns_b45 (n : Nat) (r0 : Int32 → bS → Option bS) (x1 : Int32) (s1 : Int32) (σ : bS) : Option bS :=
  ob (cLaws_add_s n s1 ci_0 σ) fun q1 =>
  cReader_settleSigns_b57 n r0 x1 ((sI q1.2 44 13) - ci_1) q1.2
def cReader_settleSigns_b40 (n : Nat) (r0 : Int32 → bS → Option bS) (x1 : Int32) (s1 : Int32) (s3 : Int32) (σ : bS) : Option bS :=
  bin_ s3 20 (
  cReader_settleSigns_b45 n r0 x1 ((s1 + (sA σ 48 s3)) - cb_6) σ)
def cReader_settleSigns_b17 (n : Nat) (r0 : Int32 → bS → Option bS) (x1 : Int32) (s1 : Int32) (σ : bS) : Option bS :=
  bin_ s1 20 (
  ob (cReader_weightOf n (sA σ 48 s1) σ) fun q2 =>
  if q2.1 < x1 then
    cReader_settleSigns_b63 n q2.2
  else
  cReader_settleSigns_b40 n r0 x1 ci_2 ((sI q2.2 44 13) - ci_1) q2.2)
def cReader_settleSigns_b0 (n : Nat) : Nat → Int32 → bS → Option bS
  | 0, _, _ => none
  | k + 1, x1, σ =>
  if (sI σ 44 13) ≤ 0 then
    cReader_settleSigns_b63 n σ
  else
  cReader_settleSigns_b17 n (cReader_settleSigns_b0 n k) x1 ((sI σ 44 13) - ci_1) σ
def cReader_settleSigns (n : Nat) (x1 : Int32) (σ : bS) : Option bS := cReader_settleSigns_b0 n n x1 σ
def cReader_takeUnit_b72 (n : Nat) (σ : bS) : Option bS :=
  some σ
def cReader_takeUnit_b55 (n : Nat) (x1 : Int32) (s1 : Int32) (s2 : Int32) (σ : bS) : Option bS :=
  ob (cLaws_add_s n s1 s2 σ) fun q1 =>
  ob (cReader_take n x1 q1.2) fun q2 =>
  cReader_takeUnit_b72 n q2
def cReader_takeUnit (n : Nat) (σ : bS) : Option bS :=
  ob (cReader_kind n σ) fun q3 =>
  if q3.1 = ci_3 then
    bin_ (sI q3.2 44 4) 401 (
    ob (cLaws_add_s n ci_0 ((sJ q3.2 52 (sI q3.2 44 4))).toInt32 q3.2) fun q4 =>
    ob (cReader_take n q3.1 q4.2) fun q5 =>
    cReader_takeUnit_b72 n q5)
  else
  if q3.1 < cb_29 then
    ob (cReader_fail n ci_1 q3.2) fun q6 =>
    cReader_takeUnit_b72 n q6
  else
  cReader_takeUnit_b55 n q3.1 ci_1 (q3.1 - cb_29) q3.2
def cj_max_b10 (n : Nat) (s0 : Int32) (σ : bS) : Option (Int32 × bS) :=
  some (s0, σ)
def cj_max (n : Nat) (x0 : Int32) (x1 : Int32) (σ : bS) : Option (Int32 × bS) :=
  if x0 < x1 then
    cj_max_b10 n x1 σ
  else
  cj_max_b10 n x0 σ
def cReader_takeCloses_b53 (n : Nat) (x2 : Int32) (σ : bS) : Option (Int32 × bS) :=
  some (x2, σ)
def cReader_takeCloses_b50 (n : Nat) (r2 : Int32 → bS → Option (Int32 × bS)) (x2 : Int32) (σ : bS) : Option (Int32 × bS) :=
  r2 x2 σ
def cReader_takeCloses_b41 (n : Nat) (r2 : Int32 → bS → Option (Int32 × bS)) (x2 : Int32) (s1 : Int32) (s2 : Int32) (σ : bS) : Option (Int32 × bS) :=
  ob (cj_max n s1 s2 σ) fun q1 =>
  cReader_takeCloses_b50 n r2 (x2 + ci_m1) (uI q1.2 44 13 q1.1)
def cReader_takeCloses_b2 (n : Nat) : Nat → Int32 → bS → Option (Int32 × bS)
  | 0, _, _ => none
  | k + 1, x2, σ =>
  if x2 ≤ 0 then
    cReader_takeCloses_b53 n x2 σ
  else
  if (sI σ 44 5) = 0 then
    ob (cReader_kind n σ) fun q2 =>
    if q2.1 = cb_12 then
      ob (cReader_take n cb_12 q2.2) fun q3 =>
      ob (cReader_settleSigns n ci_1 q3) fun q4 =>
      cReader_takeCloses_b41 n (cReader_takeCloses_b2 n k) x2 ci_0 ((sI q4 44 13) - ci_1) q4
    else
    cReader_takeCloses_b53 n x2 q2.2
  else
  cReader_takeCloses_b53 n x2 σ
def cReader_takeCloses (n : Nat) (x1 : Int32) (σ : bS) : Option (Int32 × bS) :=
  cReader_takeCloses_b2 n n x1 σ
def cReader_takeSign_b35 (n : Nat) (σ : bS) : Option bS :=
  ob (cReader_kind n σ) fun q1 =>
  ob (cReader_take n q1.1 q1.2) fun q2 =>
  some q2
def cReader_takeSign (n : Nat) (σ : bS) : Option bS :=
  if cn_20 ≤ (sI σ 44 13) then
    cReader_takeSign_b35 n σ
  else
  ob (cReader_kind n σ) fun q3 =>
  bin_ (sI σ 44 13) 20 (
  cReader_takeSign_b35 n (uI (uA q3.2 48 (sI σ 44 13) q3.1) 44 13 ((sI (uA q3.2 48 (sI σ 44 13) q3.1) 44 13) + ci_1)))
def cReader_takeSum_b115 (n : Nat) (σ : bS) : Option bS :=
  ob (cReader_settleSigns n ci_1 σ) fun q1 =>
  some q1
def cReader_takeSum_b105 (n : Nat) (x1 : Int32) (σ : bS) : Option bS :=
  if x1 ≤ 0 then
    cReader_takeSum_b115 n σ
  else
  ob (cReader_take n cb_12 σ) fun q2 =>
  cReader_takeSum_b115 n q2
def cReader_takeSum_b99 (n : Nat) (r9 : Int32 → Int32 → bS → Option bS) (x1 : Int32) (x2 : Int32) (σ : bS) : Option bS :=
  r9 x1 (x2 + ci_1) σ
def cReader_takeSum_b43 (n : Nat) (r9 : Int32 → Int32 → bS → Option bS) (x1 : Int32) (x2 : Int32) (σ : bS) : Option bS :=
  ob (cReader_takeSign n σ) fun q3 =>
  cReader_takeSum_b99 n r9 (x1 + ci_1) x2 q3
def cReader_takeSum_b9 (n : Nat) : Nat → Int32 → Int32 → bS → Option bS
  | 0, _, _, _ => none
  | k + 1, x1, x2, σ =>
  if cs_400 < x2 then
    cReader_takeSum_b105 n x1 σ
  else
  if (sI σ 44 5) = 0 then
    ob (cReader_kind n σ) fun q4 =>
    if q4.1 = cb_11 then
      if x1 = cb_6 then
        ob (cReader_fail n ci_2 q4.2) fun q5 =>
        cReader_takeSum_b43 n (cReader_takeSum_b9 n k) x1 x2 q5
      else
      cReader_takeSum_b43 n (cReader_takeSum_b9 n k) x1 x2 q4.2
    else
    ob (cReader_takeUnit n q4.2) fun q6 =>
    ob (cReader_takeCloses n x1 q6) fun q7 =>
    ob (cReader_kind n q7.2) fun q8 =>
    if q8.1 < cb_6 then
      cReader_takeSum_b105 n q7.1 q8.2
    else
    ob (cReader_kind n q8.2) fun q9 =>
    if q9.1 ≤ cb_9 then
      ob (cReader_kind n q9.2) fun q10 =>
      ob (cReader_weightOf n q10.1 q10.2) fun q11 =>
      ob (cReader_settleSigns n q11.1 q11.2) fun q12 =>
      ob (cReader_takeSign n q12) fun q13 =>
      cReader_takeSum_b99 n (cReader_takeSum_b9 n k) q7.1 x2 q13
    else
    cReader_takeSum_b105 n q7.1 q9.2
  else
  cReader_takeSum_b105 n x1 σ
def cReader_takeSum (n : Nat) (σ : bS) : Option bS :=
  cReader_takeSum_b9 n n ci_0 ci_0 (uI σ 44 13 ci_0)
def cLaws_aim_s_b28 (n : Nat) (σ : bS) : Option bS :=
  some σ
def cLaws_aim_s (n : Nat) (x1 : Int32) (σ : bS) : Option bS :=
  if x1 < 0 then
    cLaws_aim_s_b28 n σ
  else
  if (sI σ 23 3) ≤ x1 then
    cLaws_aim_s_b28 n σ
  else
  bin_ x1 402 (
  cLaws_aim_s_b28 n (uA σ 24 x1 (((sI σ 23 3) * cb_8) + cb_6)))
def cReader_takeLaw_b118 (n : Nat) (x1 : Int32) (σ : bS) : Option (Int32 × bS) :=
  ob (cReader_takeSum n σ) fun q1 =>
  ob (cLaws_add_s n cb_7 ci_0 q1) fun q2 =>
  ob (cReader_take n ci_4 q2.2) fun q3 =>
  some (x1, q3)
def cReader_takeLaw_b46 (n : Nat) (r15 : Int32 → Int32 → bS → Option (Int32 × bS)) (x1 : Int32) (x2 : Int32) (σ : bS) : Option (Int32 × bS) :=
  ob (cReader_take n cb_26 σ) fun q4 =>
  ob (cReader_takeSum n q4) fun q5 =>
  ob (cReader_take n cb_10 q5) fun q6 =>
  ob (cReader_takeSum n q6) fun q7 =>
  ob (cReader_take n cb_27 q7) fun q8 =>
  ob (cLaws_add_s n cb_6 ci_0 q8) fun q9 =>
  ob (cReader_takeSum n q9.2) fun q10 =>
  ob (cReader_take n cb_28 q10) fun q11 =>
  ob (cLaws_add_s n cb_7 ci_0 q11) fun q12 =>
  ob (cLaws_aim_s n q9.1 q12.2) fun q13 =>
  r15 x1 (x2 + ci_1) q13
def cReader_takeLaw_b15 (n : Nat) : Nat → Int32 → Int32 → bS → Option (Int32 × bS)
  | 0, _, _, _ => none
  | k + 1, x1, x2, σ =>
  if ci_4 < x2 then
    cReader_takeLaw_b118 n x1 σ
  else
  if (sI σ 44 5) = 0 then
    ob (cReader_kind n σ) fun q14 =>
    if q14.1 = cb_26 then
      if x2 = ci_4 then
        ob (cReader_fail n ci_2 q14.2) fun q15 =>
        cReader_takeLaw_b46 n (cReader_takeLaw_b15 n k) x1 x2 q15
      else
      cReader_takeLaw_b46 n (cReader_takeLaw_b15 n k) x1 x2 q14.2
    else
    cReader_takeLaw_b118 n x1 q14.2
  else
  cReader_takeLaw_b118 n x1 σ
def cReader_takeLaw (n : Nat) (σ : bS) : Option (Int32 × bS) :=
  ob (cReader_take n ci_5 σ) fun q16 =>
  cReader_takeLaw_b15 n n (sI σ 23 3) ci_0 q16
def cReader_takePlainLaw (n : Nat) (x1 : Int32) (σ : bS) : Option (Int32 × bS) :=
  ob (cReader_take n x1 σ) fun q1 =>
  ob (cReader_takeLaw n q1) fun q2 =>
  some (q2.1, q2.2)
def cReader_takeName_b76 (n : Nat) (r36 : Int32 → Int64 → Int32 → Int32 → bS → Option (Int32 × bS)) (x1 : Int32) (x2 : Int64) (x4 : Int32) (x5 : Int32) (σ : bS) : Option (Int32 × bS) :=
  r36 x1 x2 x4 (x5 + ci_1) σ
def cReader_takeName_b36 (n : Nat) : Nat → Int32 → Int64 → Int32 → Int32 → bS → Option (Int32 × bS)
  | 0, _, _, _, _, _ => none
  | k + 1, x1, x2, x4, x5, σ =>
  if (sI σ 44 11) ≤ x5 then
    ob (cReader_note n ci_4 x4 σ) fun q1 =>
    some (ci_m1, q1)
  else
  bin_ x5 17 (
  if (lg_cmp (sJ σ 45 x5) x2) = 0 then
    bin_ x5 17 (
    if (sA σ 46 x5) = x1 then
      bin_ x5 17 (
      some ((sA σ 47 x5), σ))
    else
    cReader_takeName_b76 n (cReader_takeName_b36 n k) x1 x2 x4 x5 σ)
  else
  cReader_takeName_b76 n (cReader_takeName_b36 n k) x1 x2 x4 x5 σ)
def cReader_takeName (n : Nat) (x1 : Int32) (σ : bS) : Option (Int32 × bS) :=
  bin_ (sI σ 44 4) 401 (
  ob (cReader_take n ci_2 σ) fun q2 =>
  if (sI q2 44 5) = 0 then
    cReader_takeName_b36 n n x1 (sJ σ 52 (sI σ 44 4)) (sI σ 44 4) ci_0 q2
  else
  some (ci_m1, q2))
def cReader_readNamedLaw_22_b36 (n : Nat) (σ : bS) : Option bS :=
  some σ
def cReader_readNamedLaw_22 (n : Nat) (x1 : Int32) (x2 : Int32) (σ : bS) : Option bS :=
  ob (cReader_take n x1 σ) fun q1 =>
  ob (cReader_takeName n x2 q1) fun q2 =>
  ob (cReader_takeLaw n q2.2) fun q3 =>
  if q2.1 < 0 then
    cReader_readNamedLaw_22_b36 n q3.2
  else
  if cn_4 ≤ q2.1 then
    cReader_readNamedLaw_22_b36 n q3.2
  else
  bin_ q2.1 4 (
  cReader_readNamedLaw_22_b36 n (uA q3.2 22 q2.1 q3.1))
def cReader_readNamedLaw_21_b36 (n : Nat) (σ : bS) : Option bS :=
  some σ
def cReader_readNamedLaw_21 (n : Nat) (x1 : Int32) (x2 : Int32) (σ : bS) : Option bS :=
  ob (cReader_take n x1 σ) fun q1 =>
  ob (cReader_takeName n x2 q1) fun q2 =>
  ob (cReader_takeLaw n q2.2) fun q3 =>
  if q2.1 < 0 then
    cReader_readNamedLaw_21_b36 n q3.2
  else
  if cn_7 ≤ q2.1 then
    cReader_readNamedLaw_21_b36 n q3.2
  else
  bin_ q2.1 7 (
  cReader_readNamedLaw_21_b36 n (uA q3.2 21 q2.1 q3.1))
def cReader_takeFirst_b10 (n : Nat) (x1 : Int32) (σ : bS) : Option bS :=
  ob (cReader_take n x1 σ) fun q1 =>
  some q1
def cReader_takeFirst (n : Nat) (x1 : Int32) (x2 : Int32) (x3 : Int32) (σ : bS) : Option bS :=
  if x2 < x3 then
    cReader_takeFirst_b10 n x1 σ
  else
  ob (cReader_fail n ci_2 σ) fun q2 =>
  cReader_takeFirst_b10 n x1 q2
def cReader_takeNewName_b121 (n : Nat) (σ : bS) : Option bS :=
  some σ
def cReader_takeNewName_b63 (n : Nat) (r35 : Int32 → Int32 → Int64 → Int32 → Int32 → bS → Option bS) (x1 : Int32) (x2 : Int32) (x3 : Int64) (x5 : Int32) (x6 : Int32) (σ : bS) : Option bS :=
  r35 x1 x2 x3 x5 (x6 + ci_1) σ
def cReader_takeNewName_b35 (n : Nat) : Nat → Int32 → Int32 → Int64 → Int32 → Int32 → bS → Option bS
  | 0, _, _, _, _, _, _ => none
  | k + 1, x1, x2, x3, x5, x6, σ =>
  if (sI σ 44 11) ≤ x6 then
    if cn_17 ≤ (sI σ 44 11) then
      cReader_takeNewName_b121 n σ
    else
    bin_ (sI σ 44 11) 17 (
    bin_ (sI (uJ σ 45 (sI σ 44 11) x3) 44 11) 17 (
    bin_ (sI (uA (uJ σ 45 (sI σ 44 11) x3) 46 (sI (uJ σ 45 (sI σ 44 11) x3) 44 11) x1) 44 11) 17 (
    cReader_takeNewName_b121 n (uI (uA (uA (uJ σ 45 (sI σ 44 11) x3) 46 (sI (uJ σ 45 (sI σ 44 11) x3) 44 11) x1) 47 (sI (uA (uJ σ 45 (sI σ 44 11) x3) 46 (sI (uJ σ 45 (sI σ 44 11) x3) 44 11) x1) 44 11) x2) 44 11 ((sI (uA (uA (uJ σ 45 (sI σ 44 11) x3) 46 (sI (uJ σ 45 (sI σ 44 11) x3) 44 11) x1) 47 (sI (uA (uJ σ 45 (sI σ 44 11) x3) 46 (sI (uJ σ 45 (sI σ 44 11) x3) 44 11) x1) 44 11) x2) 44 11) + ci_1)))))
  else
  bin_ x6 17 (
  if (lg_cmp (sJ σ 45 x6) x3) = 0 then
    ob (cReader_note n ci_3 x5 σ) fun q1 =>
    cReader_takeNewName_b63 n (cReader_takeNewName_b35 n k) x1 x2 x3 x5 x6 q1
  else
  cReader_takeNewName_b63 n (cReader_takeNewName_b35 n k) x1 x2 x3 x5 x6 σ)
def cReader_takeNewName (n : Nat) (x1 : Int32) (x2 : Int32) (σ : bS) : Option bS :=
  bin_ (sI σ 44 4) 401 (
  ob (cReader_take n ci_2 σ) fun q2 =>
  if (sI q2 44 5) = 0 then
    cReader_takeNewName_b35 n n x1 x2 (sJ σ 52 (sI σ 44 4)) (sI σ 44 4) ci_0 q2
  else
  some q2)
def cTold_addMan_s_b49 (n : Nat) (σ : bS) : Option bS :=
  some σ
def cTold_addMan_s (n : Nat) (x1 : Int32) (x2 : Int32) (x3 : Int32) (σ : bS) : Option bS :=
  if cb_7 ≤ (sI σ 14 3) then
    cTold_addMan_s_b49 n σ
  else
  bin_ (sI σ 14 3) 7 (
  bin_ (sI (uA σ 18 (sI σ 14 3) x1) 14 3) 7 (
  bin_ (sI (uA (uA σ 18 (sI σ 14 3) x1) 19 (sI (uA σ 18 (sI σ 14 3) x1) 14 3) x2) 14 3) 7 (
  cTold_addMan_s_b49 n (uI (uA (uA (uA σ 18 (sI σ 14 3) x1) 19 (sI (uA σ 18 (sI σ 14 3) x1) 14 3) x2) 20 (sI (uA (uA σ 18 (sI σ 14 3) x1) 19 (sI (uA σ 18 (sI σ 14 3) x1) 14 3) x2) 14 3) x3) 14 3 ((sI (uA (uA (uA σ 18 (sI σ 14 3) x1) 19 (sI (uA σ 18 (sI σ 14 3) x1) 14 3) x2) 20 (sI (uA (uA σ 18 (sI σ 14 3) x1) 19 (sI (uA σ 18 (sI σ 14 3) x1) 14 3) x2) 14 3) x3) 14 3) + ci_1)))))
def cReader_readMan_b73 (n : Nat) (σ : bS) : Option bS :=
  some σ
def cReader_readMan (n : Nat) (σ : bS) : Option bS :=
  ob (cReader_takeFirst n cb_16 (sI σ 14 3) cb_7 σ) fun q1 =>
  ob (cReader_takeNewName n cb_16 (sI q1 14 3) q1) fun q2 =>
  ob (cReader_takeName n cb_13 q2) fun q3 =>
  ob (cReader_takeName n cb_13 q3.2) fun q4 =>
  ob (cReader_takeInt n ci_0 cs_999 q4.2) fun q5 =>
  ob (cReader_take n ci_4 q5.2) fun q6 =>
  if (sI q6 44 5) = 0 then
    ob (cTold_addMan_s n q3.1 q4.1 q5.1 q6) fun q7 =>
    cReader_readMan_b73 n q7
  else
  cReader_readMan_b73 n q6
def cTold_addBridge_s_b38 (n : Nat) (σ : bS) : Option bS :=
  some σ
def cTold_addBridge_s (n : Nat) (x1 : Int32) (x2 : Int32) (σ : bS) : Option bS :=
  if ci_4 ≤ (sI σ 14 2) then
    cTold_addBridge_s_b38 n σ
  else
  bin_ (sI σ 14 2) 4 (
  bin_ (sI (uA σ 16 (sI σ 14 2) x1) 14 2) 4 (
  cTold_addBridge_s_b38 n (uI (uA (uA σ 16 (sI σ 14 2) x1) 17 (sI (uA σ 16 (sI σ 14 2) x1) 14 2) x2) 14 2 ((sI (uA (uA σ 16 (sI σ 14 2) x1) 17 (sI (uA σ 16 (sI σ 14 2) x1) 14 2) x2) 14 2) + ci_1))))
def cReader_readBridge_b74 (n : Nat) (σ : bS) : Option bS :=
  some σ
def cReader_readBridge_b52 (n : Nat) (x1 : Int32) (s0 : Int32) (σ : bS) : Option bS :=
  ob (cReader_take n ci_4 σ) fun q1 =>
  if (sI q1 44 5) = 0 then
    ob (cTold_addBridge_s n x1 s0 q1) fun q2 =>
    cReader_readBridge_b74 n q2
  else
  cReader_readBridge_b74 n q1
def cReader_readBridge (n : Nat) (σ : bS) : Option bS :=
  ob (cReader_takeFirst n cb_15 (sI σ 14 2) ci_4 σ) fun q3 =>
  ob (cReader_takeNewName n cb_15 (sI q3 14 2) q3) fun q4 =>
  ob (cReader_takeName n cb_13 q4) fun q5 =>
  ob (cReader_kind n q5.2) fun q6 =>
  if q6.1 = ci_2 then
    ob (cReader_takeName n cb_13 q6.2) fun q7 =>
    cReader_readBridge_b52 n q5.1 q7.1 q7.2
  else
  cReader_readBridge_b52 n q5.1 ci_m1 q6.2
def cTold_pathHours_s (n : Nat) (x1 : Int32) (x2 : Int32) (σ : bS) : Option (Int32 × bS) :=
  bin_ ((x1 * cb_6) + x2) 36 (
  some ((sA σ 15 ((x1 * cb_6) + x2)), σ))
def cTold_addPath_s_b62 (n : Nat) (σ : bS) : Option bS :=
  some σ
def cTold_addPath_s_b38 (n : Nat) (x1 : Int32) (x2 : Int32) (x3 : Int32) (σ : bS) : Option bS :=
  bin_ ((x1 * cb_6) + x2) 36 (
  bin_ ((x2 * cb_6) + x1) 36 (
  cTold_addPath_s_b62 n (uA (uA σ 15 ((x1 * cb_6) + x2) x3) 15 ((x2 * cb_6) + x1) x3)))
def cTold_addPath_s_b18 (n : Nat) (σ : bS) : Option bS :=
  some σ
def cTold_addPath_s (n : Nat) (x1 : Int32) (x2 : Int32) (x3 : Int32) (σ : bS) : Option bS :=
  if x1 < 0 then
    cTold_addPath_s_b18 n (uI σ 14 1 ((sI σ 14 1) + ci_1))
  else
  if 0 ≤ x2 then
    ob (cTold_pathHours_s n x1 x2 (uI σ 14 1 ((sI σ 14 1) + ci_1))) fun q1 =>
    if q1.1 = 0 then
      cTold_addPath_s_b38 n x1 x2 x3 q1.2
    else
    if q1.1 ≤ x3 then
      cTold_addPath_s_b62 n q1.2
    else
    cTold_addPath_s_b38 n x1 x2 x3 q1.2
  else
  cTold_addPath_s_b18 n (uI σ 14 1 ((sI σ 14 1) + ci_1))
def cReader_readPath_b88 (n : Nat) (σ : bS) : Option bS :=
  some σ
def cReader_readPath_b56 (n : Nat) (x1 : Int32) (x3 : Int32) (σ : bS) : Option bS :=
  ob (cReader_takeInt n ci_1 cb_9 σ) fun q1 =>
  ob (cReader_take n ci_4 q1.2) fun q2 =>
  if (sI q2 44 5) = 0 then
    ob (cTold_addPath_s n x1 x3 q1.1 q2) fun q3 =>
    cReader_readPath_b88 n q3
  else
  cReader_readPath_b88 n q2
def cReader_readPath (n : Nat) (σ : bS) : Option bS :=
  ob (cReader_takeFirst n cb_14 (sI σ 14 1) cb_10 σ) fun q4 =>
  ob (cReader_takeName n cb_13 q4) fun q5 =>
  ob (cReader_takeName n cb_13 q5.2) fun q6 =>
  if (sI q6.2 44 5) = 0 then
    if q5.1 < 0 then
      cReader_readPath_b56 n q5.1 q6.1 q6.2
    else
    if q5.1 = q6.1 then
      ob (cReader_note n ci_3 (sI q5.2 44 4) q6.2) fun q7 =>
      cReader_readPath_b56 n q5.1 q6.1 q7
    else
    cReader_readPath_b56 n q5.1 q6.1 q6.2
  else
  cReader_readPath_b56 n q5.1 q6.1 q6.2
def cReader_readBank_b53 (n : Nat) (σ : bS) : Option bS :=
  some σ
def cReader_readBank (n : Nat) (σ : bS) : Option bS :=
  ob (cReader_takeFirst n cb_13 (sI σ 14 0) cb_6 σ) fun q1 =>
  ob (cReader_takeNewName n cb_13 (sI q1 14 0) q1) fun q2 =>
  ob (cReader_take n ci_4 q2) fun q3 =>
  if (sI q3 44 5) = 0 then
    cReader_readBank_b53 n (uI q3 14 0 ((sI q3 14 0) + ci_1))
  else
  cReader_readBank_b53 n q3
def cReader_readInto_14_43_b323 (n : Nat) (σ : bS) : Option (Int32 × bS) :=
  some ((sI σ 44 5), σ)
def cReader_readInto_14_43_b300 (n : Nat) (σ : bS) : Option (Int32 × bS) :=
  if (sI σ 44 5) = 0 then
    cReader_readInto_14_43_b323 n (uI (uI σ 44 5 (sI σ 44 6)) 44 0 (sI (uI σ 44 5 (sI σ 44 6)) 44 7))
  else
  cReader_readInto_14_43_b323 n σ
def cReader_readInto_14_43_b294 (n : Nat) (r10 : Int32 → bS → Option (Int32 × bS)) (x4 : Int32) (σ : bS) : Option (Int32 × bS) :=
  r10 (x4 + ci_1) σ
def cReader_readInto_14_43_b10 (n : Nat) : Nat → Int32 → bS → Option (Int32 × bS)
  | 0, _, _ => none
  | k + 1, x4, σ =>
  if cs_400 < x4 then
    cReader_readInto_14_43_b300 n σ
  else
  if (sI σ 44 5) = 0 then
    ob (cReader_kind n σ) fun q1 =>
    if q1.1 = 0 then
      cReader_readInto_14_43_b300 n q1.2
    else
    ob (cReader_kind n q1.2) fun q2 =>
    if (q2.1).toInt = 13 then
      ob (cReader_readBank n q2.2) fun q3 =>
      cReader_readInto_14_43_b294 n (cReader_readInto_14_43_b10 n k) x4 q3
    else
    if (q2.1).toInt = 14 then
      ob (cReader_readPath n q2.2) fun q4 =>
      cReader_readInto_14_43_b294 n (cReader_readInto_14_43_b10 n k) x4 q4
    else
    if (q2.1).toInt = 15 then
      ob (cReader_readBridge n q2.2) fun q5 =>
      cReader_readInto_14_43_b294 n (cReader_readInto_14_43_b10 n k) x4 q5
    else
    if (q2.1).toInt = 16 then
      ob (cReader_readMan n q2.2) fun q6 =>
      cReader_readInto_14_43_b294 n (cReader_readInto_14_43_b10 n k) x4 q6
    else
    if (q2.1).toInt = 17 then
      ob (cReader_readNamedLaw_21 n cb_17 cb_16 q2.2) fun q7 =>
      cReader_readInto_14_43_b294 n (cReader_readInto_14_43_b10 n k) x4 q7
    else
    if (q2.1).toInt = 18 then
      ob (cReader_readNamedLaw_22 n cb_18 cb_15 q2.2) fun q8 =>
      cReader_readInto_14_43_b294 n (cReader_readInto_14_43_b10 n k) x4 q8
    else
    if (q2.1).toInt = 19 then
      ob (cReader_takePlainLaw n cb_19 q2.2) fun q9 =>
      cReader_readInto_14_43_b294 n (cReader_readInto_14_43_b10 n k) x4 (uI q9.2 14 12 q9.1)
    else
    if (q2.1).toInt = 20 then
      ob (cReader_takePlainLaw n cb_20 q2.2) fun q10 =>
      cReader_readInto_14_43_b294 n (cReader_readInto_14_43_b10 n k) x4 (uI q10.2 14 13 q10.1)
    else
    if (q2.1).toInt = 21 then
      ob (cReader_takePlainLaw n cb_21 q2.2) fun q11 =>
      cReader_readInto_14_43_b294 n (cReader_readInto_14_43_b10 n k) x4 (uI q11.2 14 14 q11.1)
    else
    if (q2.1).toInt = 22 then
      ob (cReader_takeSetting n cb_22 cb_23 q2.2) fun q12 =>
      cReader_readInto_14_43_b294 n (cReader_readInto_14_43_b10 n k) x4 (uI q12.2 14 15 q12.1)
    else
    if (q2.1).toInt = 23 then
      ob (cReader_takeSetting n cb_23 cb_100 q2.2) fun q13 =>
      cReader_readInto_14_43_b294 n (cReader_readInto_14_43_b10 n k) x4 (uI q13.2 14 16 q13.1)
    else
    if (q2.1).toInt = 24 then
      ob (cReader_takeSetting n cb_24 cb_99 q2.2) fun q14 =>
      cReader_readInto_14_43_b294 n (cReader_readInto_14_43_b10 n k) x4 (uI q14.2 14 17 q14.1)
    else
    if (q2.1).toInt = 25 then
      ob (cReader_takeSetting n cb_25 cs_9999 q2.2) fun q15 =>
      cReader_readInto_14_43_b294 n (cReader_readInto_14_43_b10 n k) x4 (uI q15.2 14 18 q15.1)
    else
    ob (cReader_fail n ci_1 q2.2) fun q16 =>
    cReader_readInto_14_43_b294 n (cReader_readInto_14_43_b10 n k) x4 q16
  else
  cReader_readInto_14_43_b300 n σ
def cReader_readInto_14_43 (n : Nat) (x3 : Int32) (σ : bS) : Option (Int32 × bS) :=
  ob (cReader_begin_14_43 n x3 σ) fun q17 =>
  cReader_readInto_14_43_b10 n n ci_0 q17
def cj_fill_29_b5 (n : Nat) : Nat → Int32 → Int32 → Int32 → bS → Option bS
  | 0, _, _, _, _ => none
  | k + 1, x1, x2, x3, σ =>
  if x3 ≤ x2 then
    some σ
  else
  bin_ x2 4 (
  (cj_fill_29_b5 n k) x1 (x2 + ci_1) x3 (uA σ 29 x2 x1))
def cj_fill_29 (n : Nat) (x1 : Int32) (σ : bS) : Option bS :=
  cj_fill_29_b5 n n x1 ci_0 cn_4 σ
def cj_fill_31_b5 (n : Nat) : Nat → Int32 → Int32 → Int32 → bS → Option bS
  | 0, _, _, _, _ => none
  | k + 1, x1, x2, x3, σ =>
  if x3 ≤ x2 then
    some σ
  else
  bin_ x2 7 (
  (cj_fill_31_b5 n k) x1 (x2 + ci_1) x3 (uA σ 31 x2 x1))
def cj_fill_31 (n : Nat) (x1 : Int32) (σ : bS) : Option bS :=
  cj_fill_31_b5 n n x1 ci_0 cn_7 σ
def cj_fill_33_b5 (n : Nat) : Nat → Int32 → Int32 → Int32 → bS → Option bS
  | 0, _, _, _, _ => none
  | k + 1, x1, x2, x3, σ =>
  if x3 ≤ x2 then
    some σ
  else
  bin_ x2 7 (
  (cj_fill_33_b5 n k) x1 (x2 + ci_1) x3 (uA σ 33 x2 x1))
def cj_fill_33 (n : Nat) (x1 : Int32) (σ : bS) : Option bS :=
  cj_fill_33_b5 n n x1 ci_0 cn_7 σ
def cj_fill_34_b5 (n : Nat) : Nat → Int32 → Int32 → Int32 → bS → Option bS
  | 0, _, _, _, _ => none
  | k + 1, x1, x2, x3, σ =>
  if x3 ≤ x2 then
    some σ
  else
  bin_ x2 7 (
  (cj_fill_34_b5 n k) x1 (x2 + ci_1) x3 (uA σ 34 x2 x1))
def cj_fill_34 (n : Nat) (x1 : Int32) (σ : bS) : Option bS :=
  cj_fill_34_b5 n n x1 ci_0 cn_7 σ
def cGoing_begin_14 (n : Nat) (σ : bS) : Option bS :=
  if ci_0 < 0 ∨ ci_0 < 0 ∨ ci_4 < 0 ∨ 4 < (ci_0).toNatClampNeg + (ci_4).toNatClampNeg ∨ 4 < (ci_0).toNatClampNeg + (ci_4).toNatClampNeg then none else
  ob (cj_fill_29 n ci_0 (uC (uI (uI (uI (uI σ 27 1 (sI σ 14 18)) 27 2 ci_0) 27 3 ci_0) 27 4 ci_0) 17 28 ci_0 ci_0 ci_4)) fun q1 =>
  if ci_0 < 0 ∨ ci_0 < 0 ∨ cb_7 < 0 ∨ 7 < (ci_0).toNatClampNeg + (cb_7).toNatClampNeg ∨ 7 < (ci_0).toNatClampNeg + (cb_7).toNatClampNeg then none else
  ob (cj_fill_31 n ci_m1 (uC q1 18 30 ci_0 ci_0 cb_7)) fun q2 =>
  if ci_0 < 0 ∨ ci_0 < 0 ∨ cb_7 < 0 ∨ 7 < (ci_0).toNatClampNeg + (cb_7).toNatClampNeg ∨ 7 < (ci_0).toNatClampNeg + (cb_7).toNatClampNeg then none else
  ob (cj_fill_33 n ci_0 (uC q2 20 32 ci_0 ci_0 cb_7)) fun q3 =>
  ob (cj_fill_34 n ci_0 q3) fun q4 =>
  some q4
def cShelf_clear (n : Nat) (σ : bS) : Option bS :=
  some (uI (uI σ 54 2 ci_0) 54 3 ci_0)
def cj_fill_81_b5 (n : Nat) : Nat → Int32 → Int32 → Int32 → bS → Option bS
  | 0, _, _, _, _ => none
  | k + 1, x1, x2, x3, σ =>
  if x3 ≤ x2 then
    some σ
  else
  bin_ x2 7 (
  (cj_fill_81_b5 n k) x1 (x2 + ci_1) x3 (uA σ 81 x2 x1))
def cj_fill_81 (n : Nat) (x1 : Int32) (σ : bS) : Option bS :=
  cj_fill_81_b5 n n x1 ci_0 cn_7 σ
def cSeen_clear (n : Nat) (σ : bS) : Option bS :=
  ob (cj_fill_81 n ci_m1 (uI σ 77 4 ci_0)) fun q1 =>
  some q1
def cTop_read_b41 (n : Nat) (x1 : Int32) (s1 : Int32) (σ : bS) : Option (Int32 × bS) :=
  if x1 = 0 then
    ob (cGoing_begin_14 n (uI σ 0 2 s1)) fun q1 =>
    ob (cShelf_clear n q1) fun q2 =>
    ob (cSeen_clear n q2) fun q3 =>
    some (x1, q3)
  else
  some (x1, (uI σ 0 2 s1))
def cTop_read (n : Nat) (σ : bS) : Option (Int32 × bS) :=
  ob (cReader_readInto_14_43 n (sI σ 0 1) σ) fun q4 =>
  if q4.1 = 0 then
    cTop_read_b41 n q4.1 ci_m1 (uI q4.2 0 1 ci_0)
  else
  cTop_read_b41 n q4.1 (sI (uI q4.2 0 1 ci_0) 44 0) (uI q4.2 0 1 ci_0)
def cTop_place (n : Nat) (σ : bS) : Option (Int32 × bS) :=
  some ((sI σ 0 2), σ)
def cTop_isBank_b20 (n : Nat) (s0 : Int32) (σ : bS) : Option (Int32 × bS) :=
  bz s0 σ
def cTop_isBank_b19 (n : Nat) (σ : bS) : Option (Int32 × bS) :=
  cTop_isBank_b20 n ci_0 σ
def cTop_isBank (n : Nat) (x1 : Int32) (σ : bS) : Option (Int32 × bS) :=
  if x1 < 0 then
    cTop_isBank_b19 n σ
  else
  if (sI σ 1 0) ≤ x1 then
    cTop_isBank_b19 n σ
  else
  cTop_isBank_b20 n ci_1 σ
def cTop_isBridge_b20 (n : Nat) (s0 : Int32) (σ : bS) : Option (Int32 × bS) :=
  bz s0 σ
def cTop_isBridge_b19 (n : Nat) (σ : bS) : Option (Int32 × bS) :=
  cTop_isBridge_b20 n ci_0 σ
def cTop_isBridge (n : Nat) (x1 : Int32) (σ : bS) : Option (Int32 × bS) :=
  if x1 < 0 then
    cTop_isBridge_b19 n σ
  else
  if (sI σ 1 2) ≤ x1 then
    cTop_isBridge_b19 n σ
  else
  cTop_isBridge_b20 n ci_1 σ
def cTop_isMan_b20 (n : Nat) (s0 : Int32) (σ : bS) : Option (Int32 × bS) :=
  bz s0 σ
def cTop_isMan_b19 (n : Nat) (σ : bS) : Option (Int32 × bS) :=
  cTop_isMan_b20 n ci_0 σ
def cTop_isMan (n : Nat) (x1 : Int32) (σ : bS) : Option (Int32 × bS) :=
  if x1 < 0 then
    cTop_isMan_b19 n σ
  else
  if (sI σ 1 3) ≤ x1 then
    cTop_isMan_b19 n σ
  else
  cTop_isMan_b20 n ci_1 σ
def cTop_orNot_b10 (n : Nat) (s0 : Int32) (σ : bS) : Option (Int32 × bS) :=
  some (s0, σ)
def cTop_orNot (n : Nat) (x0 : Int32) (σ : bS) : Option (Int32 × bS) :=
  if 0 ≤ x0 then
    cTop_orNot_b10 n x0 σ
  else
  cTop_orNot_b10 n cb_m2 σ
def cGoing_menAt_b31 (n : Nat) (r4 : Int32 → Int32 → Int32 → bS → Option (Int32 × bS)) (x1 : Int32) (x2 : Int32) (x3 : Int32) (σ : bS) : Option (Int32 × bS) :=
  r4 x1 x2 (x3 + ci_1) σ
def cGoing_menAt_b4 (n : Nat) : Nat → Int32 → Int32 → Int32 → bS → Option (Int32 × bS)
  | 0, _, _, _, _ => none
  | k + 1, x1, x2, x3, σ =>
  if (sI σ 1 3) ≤ x3 then
    some (x2, σ)
  else
  bin_ x3 7 (
  if (sA σ 30 x3) = x1 then
    cGoing_menAt_b31 n (cGoing_menAt_b4 n k) x1 (x2 ||| (ci_1 <<< (x3 &&& 31))) x3 σ
  else
  cGoing_menAt_b31 n (cGoing_menAt_b4 n k) x1 x2 x3 σ)
def cGoing_menAt (n : Nat) (x1 : Int32) (σ : bS) : Option (Int32 × bS) :=
  cGoing_menAt_b4 n n x1 ci_0 ci_0 σ
def cTop_bank_b20 (n : Nat) (s0 : Int32) (σ : bS) : Option (Int32 × bS) :=
  some (s0, σ)
def cTop_bank (n : Nat) (x1 : Int32) (σ : bS) : Option (Int32 × bS) :=
  ob (cTop_isBank n x1 σ) fun q1 =>
  if q1.1 = 0 then
    cTop_bank_b20 n ci_m1 q1.2
  else
  ob (cGoing_menAt n x1 q1.2) fun q2 =>
  cTop_bank_b20 n q2.1 q2.2
def cGoing_menOn_b31 (n : Nat) (r4 : Int32 → Int32 → Int32 → bS → Option (Int32 × bS)) (x1 : Int32) (x2 : Int32) (x3 : Int32) (σ : bS) : Option (Int32 × bS) :=
  r4 x1 x2 (x3 + ci_1) σ
def cGoing_menOn_b4 (n : Nat) : Nat → Int32 → Int32 → Int32 → bS → Option (Int32 × bS)
  | 0, _, _, _, _ => none
  | k + 1, x1, x2, x3, σ =>
  if (sI σ 1 3) ≤ x3 then
    some (x2, σ)
  else
  bin_ x3 7 (
  if (sA σ 31 x3) = x1 then
    cGoing_menOn_b31 n (cGoing_menOn_b4 n k) x1 (x2 ||| (ci_1 <<< (x3 &&& 31))) x3 σ
  else
  cGoing_menOn_b31 n (cGoing_menOn_b4 n k) x1 x2 x3 σ)
def cGoing_menOn (n : Nat) (x1 : Int32) (σ : bS) : Option (Int32 × bS) :=
  cGoing_menOn_b4 n n x1 ci_0 ci_0 σ
def cTop_bridge (n : Nat) (x1 : Int32) (x2 : Int32) (σ : bS) : Option (Int32 × bS) :=
  ob (cTop_isBridge n x1 σ) fun q1 =>
  if q1.1 = 0 then
    some (ci_m1, q1.2)
  else
  if (x2).toInt = 0 then
    bin_ x1 4 (
    some ((sA q1.2 3 x1), q1.2))
  else
  if (x2).toInt = 1 then
    bin_ x1 4 (
    ob (cTop_orNot n (sA q1.2 28 x1) q1.2) fun q2 =>
    some (q2.1, q2.2))
  else
  if (x2).toInt = 2 then
    ob (cGoing_menOn n x1 q1.2) fun q3 =>
    some (q3.1, q3.2)
  else
  if (x2).toInt = 3 then
    bin_ x1 4 (
    some ((sA q1.2 29 x1), q1.2))
  else
  some (ci_m1, q1.2)
def cTop_man (n : Nat) (x1 : Int32) (x2 : Int32) (σ : bS) : Option (Int32 × bS) :=
  ob (cTop_isMan n x1 σ) fun q1 =>
  if q1.1 = 0 then
    some (ci_m1, q1.2)
  else
  if (x2).toInt = 0 then
    bin_ x1 7 (
    ob (cTop_orNot n (sA q1.2 30 x1) q1.2) fun q2 =>
    some (q2.1, q2.2))
  else
  if (x2).toInt = 1 then
    bin_ x1 7 (
    some ((sA q1.2 6 x1), q1.2))
  else
  if (x2).toInt = 2 then
    bin_ x1 7 (
    some ((sA q1.2 32 x1), q1.2))
  else
  if (x2).toInt = 3 then
    bin_ x1 7 (
    some ((sA q1.2 33 x1), q1.2))
  else
  if (x2).toInt = 4 then
    bin_ x1 7 (
    some ((sA q1.2 34 x1), q1.2))
  else
  if (x2).toInt = 5 then
    bin_ x1 7 (
    ob (cTop_orNot n (sA q1.2 31 x1) q1.2) fun q3 =>
    some (q3.1, q3.2))
  else
  some (ci_m1, q1.2)
def cj_floorMod_b18 (n : Nat) (x2 : Int32) (σ : bS) : Option (Int32 × bS) :=
  some (x2, σ)
def cj_floorMod (n : Nat) (x0 : Int32) (x1 : Int32) (σ : bS) : Option (Int32 × bS) :=
  if x1 = 0 then none else
  if 0 ≤ (x0 ^^^ x1) then
    cj_floorMod_b18 n (brem x0 x1) σ
  else
  if (brem x0 x1) = 0 then
    cj_floorMod_b18 n (brem x0 x1) σ
  else
  some (((brem x0 x1) + x1), σ)
def cGoing_look (n : Nat) (x1 : Int32) (x2 : Int32) (x3 : Int32) (σ : bS) : Option bS :=
  ob (cj_floorMod n x3 cb_24 σ) fun q1 =>
  bin_ ci_0 8 (
  bin_ ci_1 8 (
  bin_ x1 7 (
  bin_ ci_2 8 (
  bin_ x1 7 (
  bin_ ci_3 8 (
  bin_ x1 7 (
  bin_ ci_4 8 (
  bin_ ci_5 8 (
  bin_ x1 7 (
  bin_ cb_6 8 (
  bin_ x1 7 (
  bin_ cb_7 8 (
  some (uA (uA (uA (uA (uA (uA (uA (uA q1.2 13 ci_0 q1.1) 13 ci_1 x2) 13 ci_2 (sA (uA (uA q1.2 13 ci_0 q1.1) 13 ci_1 x2) 33 x1)) 13 ci_3 (sA (uA (uA (uA q1.2 13 ci_0 q1.1) 13 ci_1 x2) 13 ci_2 (sA (uA (uA q1.2 13 ci_0 q1.1) 13 ci_1 x2) 33 x1)) 32 x1)) 13 ci_4 (sA (uA (uA (uA (uA q1.2 13 ci_0 q1.1) 13 ci_1 x2) 13 ci_2 (sA (uA (uA q1.2 13 ci_0 q1.1) 13 ci_1 x2) 33 x1)) 13 ci_3 (sA (uA (uA (uA q1.2 13 ci_0 q1.1) 13 ci_1 x2) 13 ci_2 (sA (uA (uA q1.2 13 ci_0 q1.1) 13 ci_1 x2) 33 x1)) 32 x1)) 6 x1)) 13 ci_5 x1) 13 cb_6 (sA (uA (uA (uA (uA (uA (uA q1.2 13 ci_0 q1.1) 13 ci_1 x2) 13 ci_2 (sA (uA (uA q1.2 13 ci_0 q1.1) 13 ci_1 x2) 33 x1)) 13 ci_3 (sA (uA (uA (uA q1.2 13 ci_0 q1.1) 13 ci_1 x2) 13 ci_2 (sA (uA (uA q1.2 13 ci_0 q1.1) 13 ci_1 x2) 33 x1)) 32 x1)) 13 ci_4 (sA (uA (uA (uA (uA q1.2 13 ci_0 q1.1) 13 ci_1 x2) 13 ci_2 (sA (uA (uA q1.2 13 ci_0 q1.1) 13 ci_1 x2) 33 x1)) 13 ci_3 (sA (uA (uA (uA q1.2 13 ci_0 q1.1) 13 ci_1 x2) 13 ci_2 (sA (uA (uA q1.2 13 ci_0 q1.1) 13 ci_1 x2) 33 x1)) 32 x1)) 6 x1)) 13 ci_5 x1) 30 x1)) 13 cb_7 (sA (uA (uA (uA (uA (uA (uA (uA q1.2 13 ci_0 q1.1) 13 ci_1 x2) 13 ci_2 (sA (uA (uA q1.2 13 ci_0 q1.1) 13 ci_1 x2) 33 x1)) 13 ci_3 (sA (uA (uA (uA q1.2 13 ci_0 q1.1) 13 ci_1 x2) 13 ci_2 (sA (uA (uA q1.2 13 ci_0 q1.1) 13 ci_1 x2) 33 x1)) 32 x1)) 13 ci_4 (sA (uA (uA (uA (uA q1.2 13 ci_0 q1.1) 13 ci_1 x2) 13 ci_2 (sA (uA (uA q1.2 13 ci_0 q1.1) 13 ci_1 x2) 33 x1)) 13 ci_3 (sA (uA (uA (uA q1.2 13 ci_0 q1.1) 13 ci_1 x2) 13 ci_2 (sA (uA (uA q1.2 13 ci_0 q1.1) 13 ci_1 x2) 33 x1)) 32 x1)) 6 x1)) 13 ci_5 x1) 13 cb_6 (sA (uA (uA (uA (uA (uA (uA q1.2 13 ci_0 q1.1) 13 ci_1 x2) 13 ci_2 (sA (uA (uA q1.2 13 ci_0 q1.1) 13 ci_1 x2) 33 x1)) 13 ci_3 (sA (uA (uA (uA q1.2 13 ci_0 q1.1) 13 ci_1 x2) 13 ci_2 (sA (uA (uA q1.2 13 ci_0 q1.1) 13 ci_1 x2) 33 x1)) 32 x1)) 13 ci_4 (sA (uA (uA (uA (uA q1.2 13 ci_0 q1.1) 13 ci_1 x2) 13 ci_2 (sA (uA (uA q1.2 13 ci_0 q1.1) 13 ci_1 x2) 33 x1)) 13 ci_3 (sA (uA (uA (uA q1.2 13 ci_0 q1.1) 13 ci_1 x2) 13 ci_2 (sA (uA (uA q1.2 13 ci_0 q1.1) 13 ci_1 x2) 33 x1)) 32 x1)) 6 x1)) 13 ci_5 x1) 30 x1)) 34 x1)))))))))))))))
def cLaws_valueOf_b263 (n : Nat) (r8 : Int32 → Int32 → bS → Option (Int32 × bS)) (x2 : Int32) (x3 : Int32) (σ : bS) : Option (Int32 × bS) :=
  r8 x2 (x3 + ci_1) σ
def cLaws_valueOf_b260 (n : Nat) (r8 : Int32 → Int32 → bS → Option (Int32 × bS)) (x2 : Int32) (x3 : Int32) (σ : bS) : Option (Int32 × bS) :=
  cLaws_valueOf_b263 n r8 (x2 + ci_1) x3 σ
def cLaws_valueOf_b224 (n : Nat) (r8 : Int32 → Int32 → bS → Option (Int32 × bS)) (x2 : Int32) (x3 : Int32) (s1 : Int32) (s2 : Int32) (σ : bS) : Option (Int32 × bS) :=
  bin_ s1 32 (
  cLaws_valueOf_b260 n r8 x2 x3 (uA σ 12 s1 s2))
def cLaws_valueOf_b169 (n : Nat) (r8 : Int32 → Int32 → bS → Option (Int32 × bS)) (x2 : Int32) (s0 : Int32) (σ : bS) : Option (Int32 × bS) :=
  cLaws_valueOf_b263 n r8 x2 s0 σ
def cLaws_valueOf_b166 (n : Nat) (r8 : Int32 → Int32 → bS → Option (Int32 × bS)) (x2 : Int32) (s0 : Int32) (s1 : Int32) (σ : bS) : Option (Int32 × bS) :=
  ob (cj_max n s0 s1 σ) fun q1 =>
  cLaws_valueOf_b169 n r8 x2 q1.1 q1.2
def cLaws_valueOf_b125 (n : Nat) (r8 : Int32 → Int32 → bS → Option (Int32 × bS)) (x2 : Int32) (x3 : Int32) (x4 : Int32) (x5 : Int32) (σ : bS) : Option (Int32 × bS) :=
  bin_ x2 32 (
  bin_ (x2 + ci_1) 32 (
  if x4 = cb_6 then
    if (sA σ 12 (x2 + ci_1)) ≤ (sA σ 12 x2) then
      cLaws_valueOf_b166 n r8 x2 x3 (x5 - ci_1) σ
    else
    cLaws_valueOf_b169 n r8 x2 x3 σ
  else
  if (x4).toInt = 2 then
    bin_ x2 32 (
    cLaws_valueOf_b260 n r8 x2 x3 (uA σ 12 x2 ((sA σ 12 x2) + (sA σ 12 (x2 + ci_1)))))
  else
  if (x4).toInt = 3 then
    cLaws_valueOf_b224 n r8 x2 x3 x2 ((sA σ 12 x2) - (sA σ 12 (x2 + ci_1))) σ
  else
  if (x4).toInt = 4 then
    bin_ x2 32 (
    cLaws_valueOf_b260 n r8 x2 x3 (uA σ 12 x2 ((sA σ 12 x2) * (sA σ 12 (x2 + ci_1)))))
  else
  if (sA σ 12 (x2 + ci_1)) = 0 then
    some (ci_0, σ)
  else
  if (sA σ 12 (x2 + ci_1)) = 0 then none else
  bin_ x2 32 (
  cLaws_valueOf_b260 n r8 x2 x3 (uA σ 12 x2 ((sA σ 12 x2) / (sA σ 12 (x2 + ci_1)))))))
def cLaws_valueOf_b108 (n : Nat) (r8 : Int32 → Int32 → bS → Option (Int32 × bS)) (x2 : Int32) (x3 : Int32) (s1 : Int32) (s2 : Int32) (σ : bS) : Option (Int32 × bS) :=
  bin_ s1 32 (
  cLaws_valueOf_b263 n r8 (x2 + ci_1) x3 (uA σ 12 s1 s2))
def cLaws_valueOf_b72 (n : Nat) (r8 : Int32 → Int32 → bS → Option (Int32 × bS)) (x2 : Int32) (x3 : Int32) (x4 : Int32) (x5 : Int32) (σ : bS) : Option (Int32 × bS) :=
  if x2 < cn_32 then
    if x4 = 0 then
      cLaws_valueOf_b108 n r8 x2 x3 x2 x5 σ
    else
    bin_ (x5 &&& cb_7) 8 (
    cLaws_valueOf_b108 n r8 x2 x3 x2 (sA σ 13 (x5 &&& cb_7)) σ)
  else
  some (ci_0, σ)
def cLaws_valueOf_b60 (n : Nat) (r8 : Int32 → Int32 → bS → Option (Int32 × bS)) (s0 : Int32) (σ : bS) : Option (Int32 × bS) :=
  some (s0, σ)
def cLaws_valueOf_b55 (n : Nat) (r8 : Int32 → Int32 → bS → Option (Int32 × bS)) (s1 : Int32) (σ : bS) : Option (Int32 × bS) :=
  bin_ s1 32 (
  cLaws_valueOf_b60 n r8 (sA σ 12 s1) σ)
def cLaws_valueOf_b8 (n : Nat) : Nat → Int32 → Int32 → bS → Option (Int32 × bS)
  | 0, _, _, _ => none
  | k + 1, x2, x3, σ =>
  if (sI σ 10 3) ≤ x3 then
    some (ci_0, σ)
  else
  bin_ x3 402 (
  bin_ x3 402 (
  if ((sA σ 11 x3) &&& cb_7) = cb_7 then
    if x2 ≤ 0 then
      cLaws_valueOf_b60 n (cLaws_valueOf_b8 n k) ci_0 σ
    else
    cLaws_valueOf_b55 n (cLaws_valueOf_b8 n k) (x2 - ci_1) σ
  else
  if ((sA σ 11 x3) &&& cb_7) = 0 then
    cLaws_valueOf_b72 n (cLaws_valueOf_b8 n k) x2 x3 ((sA σ 11 x3) &&& cb_7) ((sA σ 11 x3) >>> (ci_3 &&& 31)) σ
  else
  if ((sA σ 11 x3) &&& cb_7) = ci_1 then
    cLaws_valueOf_b72 n (cLaws_valueOf_b8 n k) x2 x3 ((sA σ 11 x3) &&& cb_7) ((sA σ 11 x3) >>> (ci_3 &&& 31)) σ
  else
  if ci_2 ≤ x2 then
    cLaws_valueOf_b125 n (cLaws_valueOf_b8 n k) (x2 + ci_m2) x3 ((sA σ 11 x3) &&& cb_7) ((sA σ 11 x3) >>> (ci_3 &&& 31)) σ
  else
  some (ci_0, σ)))
def cLaws_valueOf (n : Nat) (x1 : Int32) (σ : bS) : Option (Int32 × bS) :=
  ob (cj_max n x1 ci_0 σ) fun q2 =>
  cLaws_valueOf_b8 n n ci_0 q2.1 q2.2
def cGoing_wishAs_b79 (n : Nat) (s0 : Int32) (σ : bS) : Option (Int32 × bS) :=
  some (s0, σ)
def cGoing_wishAs_b65 (n : Nat) (σ : bS) : Option (Int32 × bS) :=
  cGoing_wishAs_b79 n ci_m1 σ
def cGoing_wishAs (n : Nat) (x1 : Int32) (x2 : Int32) (x3 : Int32) (σ : bS) : Option (Int32 × bS) :=
  bin_ x1 7 (
  if 0 ≤ (sA σ 8 x1) then
    ob (cGoing_look n x1 x2 x3 σ) fun q1 =>
    bin_ x1 7 (
    ob (cLaws_valueOf n (sA q1 8 x1) q1) fun q2 =>
    if q2.1 < 0 then
      cGoing_wishAs_b65 n q2.2
    else
    if (sI q2.2 1 0) = 0 then
      cGoing_wishAs_b65 n q2.2
    else
    if (sI q2.2 1 0) = 0 then none else
    cGoing_wishAs_b79 n (brem q2.1 (sI q2.2 1 0)) q2.2)
  else
  bin_ x1 7 (
  some ((sA σ 6 x1), σ)))
def cGoing_wishNow (n : Nat) (x1 : Int32) (x2 : Int32) (σ : bS) : Option (Int32 × bS) :=
  bin_ x2 4 (
  ob (cGoing_wishAs n x1 (sA σ 28 x2) (sI σ 27 2) σ) fun q1 =>
  some (q1.1, q1.2))
def cTop_wish_b47 (n : Nat) (s0 : Int32) (σ : bS) : Option (Int32 × bS) :=
  some (s0, σ)
def cTop_wish_b16 (n : Nat) (σ : bS) : Option (Int32 × bS) :=
  some (ci_m1, σ)
def cTop_wish (n : Nat) (x1 : Int32) (x2 : Int32) (σ : bS) : Option (Int32 × bS) :=
  ob (cTop_isMan n x1 σ) fun q1 =>
  if q1.1 = 0 then
    cTop_wish_b16 n q1.2
  else
  ob (cTop_isBridge n x2 q1.2) fun q2 =>
  if q2.1 = 0 then
    cTop_wish_b16 n q2.2
  else
  bin_ x1 7 (
  if 0 ≤ (sA q2.2 30 x1) then
    ob (cGoing_wishNow n x1 x2 q2.2) fun q3 =>
    ob (cTop_orNot n q3.1 q3.2) fun q4 =>
    cTop_wish_b47 n q4.1 q4.2
  else
  cTop_wish_b47 n cb_m2 q2.2)
def cGoing_held (n : Nat) (x0 : Int32) (x1 : Int32) (x2 : Int32) (σ : bS) : Option (Int32 × bS) :=
  ob (cj_min n x2 x0 σ) fun q1 =>
  ob (cj_max n x1 q1.1 q1.2) fun q2 =>
  some (q2.1, q2.2)
def cGoing_tollNow (n : Nat) (x1 : Int32) (x2 : Int32) (σ : bS) : Option (Int32 × bS) :=
  bin_ x2 4 (
  if 0 ≤ (sA σ 9 x2) then
    bin_ x2 4 (
    ob (cGoing_look n x1 (sA σ 28 x2) (sI σ 27 2) σ) fun q1 =>
    bin_ x2 4 (
    ob (cLaws_valueOf n (sA q1 9 x2) q1) fun q2 =>
    ob (cGoing_held n q2.1 ci_0 cb_99 q2.2) fun q3 =>
    some (q3.1, q3.2)))
  else
  some (ci_0, σ))
def cTop_toll_b44 (n : Nat) (s0 : Int32) (σ : bS) : Option (Int32 × bS) :=
  some (s0, σ)
def cTop_toll_b16 (n : Nat) (σ : bS) : Option (Int32 × bS) :=
  some (ci_m1, σ)
def cTop_toll (n : Nat) (x1 : Int32) (x2 : Int32) (σ : bS) : Option (Int32 × bS) :=
  ob (cTop_isMan n x1 σ) fun q1 =>
  if q1.1 = 0 then
    cTop_toll_b16 n q1.2
  else
  ob (cTop_isBridge n x2 q1.2) fun q2 =>
  if q2.1 = 0 then
    cTop_toll_b16 n q2.2
  else
  bin_ x1 7 (
  if 0 ≤ (sA q2.2 30 x1) then
    ob (cGoing_tollNow n x1 x2 q2.2) fun q3 =>
    cTop_toll_b44 n q3.1 q3.2
  else
  cTop_toll_b44 n cb_m2 q2.2)
def cGoing_couldCross_b38 (n : Nat) (s0 : Int32) (σ : bS) : Option (Int32 × bS) :=
  bz s0 σ
def cGoing_couldCross_b37 (n : Nat) (σ : bS) : Option (Int32 × bS) :=
  cGoing_couldCross_b38 n ci_0 σ
def cGoing_couldCross (n : Nat) (x1 : Int32) (x2 : Int32) (σ : bS) : Option (Int32 × bS) :=
  bin_ x1 7 (
  bin_ x2 4 (
  if (sA σ 30 x1) = (sA σ 3 x2) then
    ob (cGoing_tollNow n x1 x2 σ) fun q1 =>
    bin_ x1 7 (
    if (sA q1.2 32 x1) < q1.1 then
      cGoing_couldCross_b37 n q1.2
    else
    cGoing_couldCross_b38 n ci_1 q1.2)
  else
  cGoing_couldCross_b37 n σ))
def cGoing_putInto_55 (n : Nat) (x2 : Int32) (σ : bS) : Option bS :=
  bin_ x2 1978 (
  bin_ (x2 + ci_1) 1978 (
  bin_ (x2 + ci_2) 1978 (
  if ci_0 < 0 ∨ (x2 + ci_3) < 0 ∨ ci_4 < 0 ∨ 4 < (ci_0).toNatClampNeg + (ci_4).toNatClampNeg ∨ 1978 < ((x2 + ci_3)).toNatClampNeg + (ci_4).toNatClampNeg then none else
  if ci_0 < 0 ∨ ((x2 + ci_3) + ci_4) < 0 ∨ ci_4 < 0 ∨ 4 < (ci_0).toNatClampNeg + (ci_4).toNatClampNeg ∨ 1978 < (((x2 + ci_3) + ci_4)).toNatClampNeg + (ci_4).toNatClampNeg then none else
  if ci_0 < 0 ∨ ((x2 + ci_3) + ci_8) < 0 ∨ cb_7 < 0 ∨ 7 < (ci_0).toNatClampNeg + (cb_7).toNatClampNeg ∨ 1978 < (((x2 + ci_3) + ci_8)).toNatClampNeg + (cb_7).toNatClampNeg then none else
  if ci_0 < 0 ∨ (((x2 + ci_3) + ci_8) + cb_7) < 0 ∨ cb_7 < 0 ∨ 7 < (ci_0).toNatClampNeg + (cb_7).toNatClampNeg ∨ 1978 < ((((x2 + ci_3) + ci_8) + cb_7)).toNatClampNeg + (cb_7).toNatClampNeg then none else
  if ci_0 < 0 ∨ (((x2 + ci_3) + ci_8) + cb_14) < 0 ∨ cb_7 < 0 ∨ 7 < (ci_0).toNatClampNeg + (cb_7).toNatClampNeg ∨ 1978 < ((((x2 + ci_3) + ci_8) + cb_14)).toNatClampNeg + (cb_7).toNatClampNeg then none else
  if ci_0 < 0 ∨ (((x2 + ci_3) + ci_8) + cb_21) < 0 ∨ cb_7 < 0 ∨ 7 < (ci_0).toNatClampNeg + (cb_7).toNatClampNeg ∨ 1978 < ((((x2 + ci_3) + ci_8) + cb_21)).toNatClampNeg + (cb_7).toNatClampNeg then none else
  if ci_0 < 0 ∨ (((x2 + ci_3) + ci_8) + cb_28) < 0 ∨ cb_7 < 0 ∨ 7 < (ci_0).toNatClampNeg + (cb_7).toNatClampNeg ∨ 1978 < ((((x2 + ci_3) + ci_8) + cb_28)).toNatClampNeg + (cb_7).toNatClampNeg then none else
  some (uC (uC (uC (uC (uC (uC (uC (uA (uA (uA σ 55 x2 (sI σ 27 2)) 55 (x2 + ci_1) (sI (uA σ 55 x2 (sI σ 27 2)) 27 3)) 55 (x2 + ci_2) (sI (uA (uA σ 55 x2 (sI σ 27 2)) 55 (x2 + ci_1) (sI (uA σ 55 x2 (sI σ 27 2)) 27 3)) 27 4)) 28 55 ci_0 (x2 + ci_3) ci_4) 29 55 ci_0 ((x2 + ci_3) + ci_4) ci_4) 30 55 ci_0 ((x2 + ci_3) + ci_8) cb_7) 31 55 ci_0 (((x2 + ci_3) + ci_8) + cb_7) cb_7) 32 55 ci_0 (((x2 + ci_3) + ci_8) + cb_14) cb_7) 33 55 ci_0 (((x2 + ci_3) + ci_8) + cb_21) cb_7) 34 55 ci_0 (((x2 + ci_3) + ci_8) + cb_28) cb_7))))
def cShelf_keep_27 (n : Nat) (σ : bS) : Option bS :=
  ob (cGoing_putInto_55 n ((sI σ 54 1) * cb_46) σ) fun q1 =>
  if cb_40 = 0 then none else
  ob (cj_min n ((sI (uI q1 54 1 (brem ((sI q1 54 1) + ci_1) cb_40)) 54 2) + ci_1) cb_40 (uI q1 54 1 (brem ((sI q1 54 1) + ci_1) cb_40))) fun q2 =>
  some (uI q2.2 54 2 q2.1)
def cGoing_landAll_b37 (n : Nat) (r2 : Int32 → Int32 → Int32 → bS → Option bS) (x1 : Int32) (x2 : Int32) (x3 : Int32) (σ : bS) : Option bS :=
  r2 x1 x2 (x3 + ci_1) σ
def cGoing_landAll_b2 (n : Nat) : Nat → Int32 → Int32 → Int32 → bS → Option bS
  | 0, _, _, _, _ => none
  | k + 1, x1, x2, x3, σ =>
  if (sI σ 1 3) ≤ x3 then
    some σ
  else
  bin_ x3 7 (
  if (sA σ 31 x3) = x1 then
    bin_ x3 7 (
    bin_ x3 7 (
    cGoing_landAll_b37 n (cGoing_landAll_b2 n k) x1 x2 x3 (uA (uA σ 31 x3 ci_m1) 30 x3 x2)))
  else
  cGoing_landAll_b37 n (cGoing_landAll_b2 n k) x1 x2 x3 σ)
def cGoing_landAll (n : Nat) (x1 : Int32) (x2 : Int32) (σ : bS) : Option bS :=
  cGoing_landAll_b2 n n x1 x2 ci_0 σ
def cGoing_crossOver_b67 (n : Nat) (x1 : Int32) (x2 : Int32) (x4 : Int32) (σ : bS) : Option (Int32 × bS) :=
  bin_ x1 7 (
  bin_ x1 7 (
  bin_ x1 7 (
  bin_ x2 4 (
  bin_ x2 4 (
  some (x4, (uA (uA (uA σ 33 x1 ((sA σ 33 x1) + ci_1)) 34 x1 ci_0) 29 x2 ((sA (uA (uA σ 33 x1 ((sA σ 33 x1) + ci_1)) 34 x1 ci_0) 29 x2) + ci_1))))))))
def cGoing_crossOver_b56 (n : Nat) (x1 : Int32) (x2 : Int32) (x3 : Int32) (x4 : Int32) (σ : bS) : Option (Int32 × bS) :=
  if x3 < 0 then
    cGoing_crossOver_b67 n x1 x2 x4 σ
  else
  bin_ x2 4 (
  cGoing_crossOver_b67 n x1 x2 x4 (uA σ 28 x2 x3))
def cGoing_crossOver_b29 (n : Nat) (x1 : Int32) (x2 : Int32) (x3 : Int32) (x4 : Int32) (s1 : Int32) (s2 : Int32) (σ : bS) : Option (Int32 × bS) :=
  bin_ s1 7 (
  bin_ x1 7 (
  bin_ x1 7 (
  if x4 < 0 then
    cGoing_crossOver_b56 n x1 x2 x3 x4 (uA (uA (uA σ 32 s1 s2) 30 x1 ci_m1) 31 x1 x2)
  else
  ob (cGoing_landAll n x2 x4 (uA (uA (uA σ 32 s1 s2) 30 x1 ci_m1) 31 x1 x2)) fun q1 =>
  cGoing_crossOver_b56 n x1 x2 x3 x4 q1)))
def cGoing_crossOver (n : Nat) (x1 : Int32) (x2 : Int32) (σ : bS) : Option (Int32 × bS) :=
  ob (cGoing_wishNow n x1 x2 σ) fun q2 =>
  bin_ x2 4 (
  bin_ x1 7 (
  ob (cGoing_tollNow n x1 x2 q2.2) fun q3 =>
  cGoing_crossOver_b29 n x1 x2 q2.1 (sA q2.2 28 x2) x1 ((sA q2.2 32 x1) - q3.1) q3.2))
def cGoing_stirred (n : Nat) (x0 : Int32) (x1 : Int32) (σ : bS) : Option (Int32 × bS) :=
  some (((((x0 ^^^ x1) * (1103515245 : Int32)) + cs_12345) ^^^ (bush (((x0 ^^^ x1) * (1103515245 : Int32)) + cs_12345) cb_15)), σ)
def cGoing_lot_b27 (n : Nat) (s0 : Int32) (σ : bS) : Option (Int32 × bS) :=
  some (s0, σ)
def cGoing_lot (n : Nat) (x1 : Int32) (x2 : Int32) (σ : bS) : Option (Int32 × bS) :=
  ob (cGoing_stirred n (sI σ 27 1) cb_47 σ) fun q1 =>
  ob (cGoing_stirred n q1.1 x2 q1.2) fun q2 =>
  if x1 ≤ 0 then
    cGoing_lot_b27 n ci_0 q2.2
  else
  if x1 = 0 then none else
  cGoing_lot_b27 n (brem (bush q2.1 ci_1) x1) q2.2
def cGoing_hourPasses_b165 (n : Nat) (r97 : Int32 → bS → Option bS) (x1 : Int32) (σ : bS) : Option bS :=
  r97 (x1 + ci_1) σ
def cGoing_hourPasses_b97 (n : Nat) : Nat → Int32 → bS → Option bS
  | 0, _, _ => none
  | k + 1, x1, σ =>
  if (sI σ 1 2) ≤ x1 then
    some σ
  else
  ob (cGoing_lot n cb_100 (((cb_100 * (sI σ 27 2)) + cb_10) + x1) σ) fun q1 =>
  if (sI q1.2 1 16) ≤ q1.1 then
    cGoing_hourPasses_b165 n (cGoing_hourPasses_b97 n k) x1 q1.2
  else
  ob (cGoing_lot n (sI q1.2 1 0) (((cb_100 * (sI q1.2 27 2)) + cb_20) + x1) q1.2) fun q2 =>
  bin_ x1 4 (
  cGoing_hourPasses_b165 n (cGoing_hourPasses_b97 n k) x1 (uA q2.2 28 x1 q2.1))
def cGoing_hourPasses_b84 (n : Nat) (σ : bS) : Option bS :=
  if (sI σ 1 16) = 0 then
    some σ
  else
  cGoing_hourPasses_b97 n n ci_0 σ
def cGoing_hourPasses_b41 (n : Nat) : Nat → Int32 → bS → Option bS
  | 0, _, _ => none
  | k + 1, x1, σ =>
  if (sI σ 1 2) ≤ x1 then
    cGoing_hourPasses_b84 n σ
  else
  ob (cGoing_lot n (sI σ 1 0) ((cb_100 * (sI σ 27 2)) + x1) σ) fun q3 =>
  bin_ x1 4 (
  (cGoing_hourPasses_b41 n k) (x1 + ci_1) (uA q3.2 28 x1 q3.1))
def cGoing_hourPasses (n : Nat) (σ : bS) : Option bS :=
  if (sI (uI σ 27 2 ((sI σ 27 2) + ci_1)) 1 15) < 0 then
    cGoing_hourPasses_b84 n (uI σ 27 2 ((sI σ 27 2) + ci_1))
  else
  ob (cj_floorMod n (sI (uI σ 27 2 ((sI σ 27 2) + ci_1)) 27 2) cb_24 (uI σ 27 2 ((sI σ 27 2) + ci_1))) fun q4 =>
  if q4.1 = (sI q4.2 1 15) then
    cGoing_hourPasses_b41 n n ci_0 q4.2
  else
  cGoing_hourPasses_b84 n q4.2
def cTop_cross_b71 (n : Nat) (s0 : Int32) (σ : bS) : Option (Int32 × bS) :=
  some (s0, σ)
def cTop_cross_b16 (n : Nat) (σ : bS) : Option (Int32 × bS) :=
  some (ci_m1, σ)
def cTop_cross (n : Nat) (x1 : Int32) (x2 : Int32) (σ : bS) : Option (Int32 × bS) :=
  ob (cTop_isMan n x1 σ) fun q1 =>
  if q1.1 = 0 then
    cTop_cross_b16 n q1.2
  else
  ob (cTop_isBridge n x2 q1.2) fun q2 =>
  if q2.1 = 0 then
    cTop_cross_b16 n q2.2
  else
  ob (cGoing_couldCross n x1 x2 q2.2) fun q3 =>
  if q3.1 = 0 then
    some (cb_m2, q3.2)
  else
  ob (cShelf_keep_27 n q3.2) fun q4 =>
  ob (cGoing_crossOver n x1 x2 q4) fun q5 =>
  ob (cGoing_hourPasses n q5.2) fun q6 =>
  if 0 ≤ q5.1 then
    cTop_cross_b71 n q5.1 q6
  else
  cTop_cross_b71 n cb_m3 q6
def cGoing_copyFrom_d_27 (n : Nat) (σ : bS) : Option bS :=
  if ci_0 < 0 ∨ ci_0 < 0 ∨ ci_4 < 0 ∨ 4 < (ci_0).toNatClampNeg + (ci_4).toNatClampNeg ∨ 4 < (ci_0).toNatClampNeg + (ci_4).toNatClampNeg then none else
  if ci_0 < 0 ∨ ci_0 < 0 ∨ ci_4 < 0 ∨ 4 < (ci_0).toNatClampNeg + (ci_4).toNatClampNeg ∨ 4 < (ci_0).toNatClampNeg + (ci_4).toNatClampNeg then none else
  if ci_0 < 0 ∨ ci_0 < 0 ∨ cb_7 < 0 ∨ 7 < (ci_0).toNatClampNeg + (cb_7).toNatClampNeg ∨ 7 < (ci_0).toNatClampNeg + (cb_7).toNatClampNeg then none else
  if ci_0 < 0 ∨ ci_0 < 0 ∨ cb_7 < 0 ∨ 7 < (ci_0).toNatClampNeg + (cb_7).toNatClampNeg ∨ 7 < (ci_0).toNatClampNeg + (cb_7).toNatClampNeg then none else
  if ci_0 < 0 ∨ ci_0 < 0 ∨ cb_7 < 0 ∨ 7 < (ci_0).toNatClampNeg + (cb_7).toNatClampNeg ∨ 7 < (ci_0).toNatClampNeg + (cb_7).toNatClampNeg then none else
  if ci_0 < 0 ∨ ci_0 < 0 ∨ cb_7 < 0 ∨ 7 < (ci_0).toNatClampNeg + (cb_7).toNatClampNeg ∨ 7 < (ci_0).toNatClampNeg + (cb_7).toNatClampNeg then none else
  if ci_0 < 0 ∨ ci_0 < 0 ∨ cb_7 < 0 ∨ 7 < (ci_0).toNatClampNeg + (cb_7).toNatClampNeg ∨ 7 < (ci_0).toNatClampNeg + (cb_7).toNatClampNeg then none else
  some (uC (uC (uC (uC (uC (uC (uC (uI (uI (uI (uI σ 35 1 (sI σ 27 1)) 35 2 (sI (uI σ 35 1 (sI σ 27 1)) 27 2)) 35 3 (sI (uI (uI σ 35 1 (sI σ 27 1)) 35 2 (sI (uI σ 35 1 (sI σ 27 1)) 27 2)) 27 3)) 35 4 (sI (uI (uI (uI σ 35 1 (sI σ 27 1)) 35 2 (sI (uI σ 35 1 (sI σ 27 1)) 27 2)) 35 3 (sI (uI (uI σ 35 1 (sI σ 27 1)) 35 2 (sI (uI σ 35 1 (sI σ 27 1)) 27 2)) 27 3)) 27 4)) 28 36 ci_0 ci_0 ci_4) 29 37 ci_0 ci_0 ci_4) 30 38 ci_0 ci_0 cb_7) 31 39 ci_0 ci_0 cb_7) 32 40 ci_0 ci_0 cb_7) 33 41 ci_0 ci_0 cb_7) 34 42 ci_0 ci_0 cb_7)
def cGoing_look_d (n : Nat) (x1 : Int32) (x2 : Int32) (x3 : Int32) (σ : bS) : Option bS :=
  ob (cj_floorMod n x3 cb_24 σ) fun q1 =>
  bin_ ci_0 8 (
  bin_ ci_1 8 (
  bin_ x1 7 (
  bin_ ci_2 8 (
  bin_ x1 7 (
  bin_ ci_3 8 (
  bin_ x1 7 (
  bin_ ci_4 8 (
  bin_ ci_5 8 (
  bin_ x1 7 (
  bin_ cb_6 8 (
  bin_ x1 7 (
  bin_ cb_7 8 (
  some (uA (uA (uA (uA (uA (uA (uA (uA q1.2 13 ci_0 q1.1) 13 ci_1 x2) 13 ci_2 (sA (uA (uA q1.2 13 ci_0 q1.1) 13 ci_1 x2) 41 x1)) 13 ci_3 (sA (uA (uA (uA q1.2 13 ci_0 q1.1) 13 ci_1 x2) 13 ci_2 (sA (uA (uA q1.2 13 ci_0 q1.1) 13 ci_1 x2) 41 x1)) 40 x1)) 13 ci_4 (sA (uA (uA (uA (uA q1.2 13 ci_0 q1.1) 13 ci_1 x2) 13 ci_2 (sA (uA (uA q1.2 13 ci_0 q1.1) 13 ci_1 x2) 41 x1)) 13 ci_3 (sA (uA (uA (uA q1.2 13 ci_0 q1.1) 13 ci_1 x2) 13 ci_2 (sA (uA (uA q1.2 13 ci_0 q1.1) 13 ci_1 x2) 41 x1)) 40 x1)) 6 x1)) 13 ci_5 x1) 13 cb_6 (sA (uA (uA (uA (uA (uA (uA q1.2 13 ci_0 q1.1) 13 ci_1 x2) 13 ci_2 (sA (uA (uA q1.2 13 ci_0 q1.1) 13 ci_1 x2) 41 x1)) 13 ci_3 (sA (uA (uA (uA q1.2 13 ci_0 q1.1) 13 ci_1 x2) 13 ci_2 (sA (uA (uA q1.2 13 ci_0 q1.1) 13 ci_1 x2) 41 x1)) 40 x1)) 13 ci_4 (sA (uA (uA (uA (uA q1.2 13 ci_0 q1.1) 13 ci_1 x2) 13 ci_2 (sA (uA (uA q1.2 13 ci_0 q1.1) 13 ci_1 x2) 41 x1)) 13 ci_3 (sA (uA (uA (uA q1.2 13 ci_0 q1.1) 13 ci_1 x2) 13 ci_2 (sA (uA (uA q1.2 13 ci_0 q1.1) 13 ci_1 x2) 41 x1)) 40 x1)) 6 x1)) 13 ci_5 x1) 38 x1)) 13 cb_7 (sA (uA (uA (uA (uA (uA (uA (uA q1.2 13 ci_0 q1.1) 13 ci_1 x2) 13 ci_2 (sA (uA (uA q1.2 13 ci_0 q1.1) 13 ci_1 x2) 41 x1)) 13 ci_3 (sA (uA (uA (uA q1.2 13 ci_0 q1.1) 13 ci_1 x2) 13 ci_2 (sA (uA (uA q1.2 13 ci_0 q1.1) 13 ci_1 x2) 41 x1)) 40 x1)) 13 ci_4 (sA (uA (uA (uA (uA q1.2 13 ci_0 q1.1) 13 ci_1 x2) 13 ci_2 (sA (uA (uA q1.2 13 ci_0 q1.1) 13 ci_1 x2) 41 x1)) 13 ci_3 (sA (uA (uA (uA q1.2 13 ci_0 q1.1) 13 ci_1 x2) 13 ci_2 (sA (uA (uA q1.2 13 ci_0 q1.1) 13 ci_1 x2) 41 x1)) 40 x1)) 6 x1)) 13 ci_5 x1) 13 cb_6 (sA (uA (uA (uA (uA (uA (uA q1.2 13 ci_0 q1.1) 13 ci_1 x2) 13 ci_2 (sA (uA (uA q1.2 13 ci_0 q1.1) 13 ci_1 x2) 41 x1)) 13 ci_3 (sA (uA (uA (uA q1.2 13 ci_0 q1.1) 13 ci_1 x2) 13 ci_2 (sA (uA (uA q1.2 13 ci_0 q1.1) 13 ci_1 x2) 41 x1)) 40 x1)) 13 ci_4 (sA (uA (uA (uA (uA q1.2 13 ci_0 q1.1) 13 ci_1 x2) 13 ci_2 (sA (uA (uA q1.2 13 ci_0 q1.1) 13 ci_1 x2) 41 x1)) 13 ci_3 (sA (uA (uA (uA q1.2 13 ci_0 q1.1) 13 ci_1 x2) 13 ci_2 (sA (uA (uA q1.2 13 ci_0 q1.1) 13 ci_1 x2) 41 x1)) 40 x1)) 6 x1)) 13 ci_5 x1) 38 x1)) 42 x1)))))))))))))))
def cGoing_wishAs_d_b79 (n : Nat) (s0 : Int32) (σ : bS) : Option (Int32 × bS) :=
  some (s0, σ)
def cGoing_wishAs_d_b65 (n : Nat) (σ : bS) : Option (Int32 × bS) :=
  cGoing_wishAs_d_b79 n ci_m1 σ
def cGoing_wishAs_d (n : Nat) (x1 : Int32) (x2 : Int32) (x3 : Int32) (σ : bS) : Option (Int32 × bS) :=
  bin_ x1 7 (
  if 0 ≤ (sA σ 8 x1) then
    ob (cGoing_look_d n x1 x2 x3 σ) fun q1 =>
    bin_ x1 7 (
    ob (cLaws_valueOf n (sA q1 8 x1) q1) fun q2 =>
    if q2.1 < 0 then
      cGoing_wishAs_d_b65 n q2.2
    else
    if (sI q2.2 1 0) = 0 then
      cGoing_wishAs_d_b65 n q2.2
    else
    if (sI q2.2 1 0) = 0 then none else
    cGoing_wishAs_d_b79 n (brem q2.1 (sI q2.2 1 0)) q2.2)
  else
  bin_ x1 7 (
  some ((sA σ 6 x1), σ)))
def cGoing_wishNow_d (n : Nat) (x1 : Int32) (x2 : Int32) (σ : bS) : Option (Int32 × bS) :=
  bin_ x2 4 (
  ob (cGoing_wishAs_d n x1 (sA σ 36 x2) (sI σ 35 2) σ) fun q1 =>
  some (q1.1, q1.2))
def cGoing_tollNow_d (n : Nat) (x1 : Int32) (x2 : Int32) (σ : bS) : Option (Int32 × bS) :=
  bin_ x2 4 (
  if 0 ≤ (sA σ 9 x2) then
    bin_ x2 4 (
    ob (cGoing_look_d n x1 (sA σ 36 x2) (sI σ 35 2) σ) fun q1 =>
    bin_ x2 4 (
    ob (cLaws_valueOf n (sA q1 9 x2) q1) fun q2 =>
    ob (cGoing_held n q2.1 ci_0 cb_99 q2.2) fun q3 =>
    some (q3.1, q3.2)))
  else
  some (ci_0, σ))
def cGoing_landAll_d_b37 (n : Nat) (r2 : Int32 → Int32 → Int32 → bS → Option bS) (x1 : Int32) (x2 : Int32) (x3 : Int32) (σ : bS) : Option bS :=
  r2 x1 x2 (x3 + ci_1) σ
def cGoing_landAll_d_b2 (n : Nat) : Nat → Int32 → Int32 → Int32 → bS → Option bS
  | 0, _, _, _, _ => none
  | k + 1, x1, x2, x3, σ =>
  if (sI σ 1 3) ≤ x3 then
    some σ
  else
  bin_ x3 7 (
  if (sA σ 39 x3) = x1 then
    bin_ x3 7 (
    bin_ x3 7 (
    cGoing_landAll_d_b37 n (cGoing_landAll_d_b2 n k) x1 x2 x3 (uA (uA σ 39 x3 ci_m1) 38 x3 x2)))
  else
  cGoing_landAll_d_b37 n (cGoing_landAll_d_b2 n k) x1 x2 x3 σ)
def cGoing_landAll_d (n : Nat) (x1 : Int32) (x2 : Int32) (σ : bS) : Option bS :=
  cGoing_landAll_d_b2 n n x1 x2 ci_0 σ
def cGoing_crossOver_d_b67 (n : Nat) (x1 : Int32) (x2 : Int32) (x4 : Int32) (σ : bS) : Option (Int32 × bS) :=
  bin_ x1 7 (
  bin_ x1 7 (
  bin_ x1 7 (
  bin_ x2 4 (
  bin_ x2 4 (
  some (x4, (uA (uA (uA σ 41 x1 ((sA σ 41 x1) + ci_1)) 42 x1 ci_0) 37 x2 ((sA (uA (uA σ 41 x1 ((sA σ 41 x1) + ci_1)) 42 x1 ci_0) 37 x2) + ci_1))))))))
def cGoing_crossOver_d_b56 (n : Nat) (x1 : Int32) (x2 : Int32) (x3 : Int32) (x4 : Int32) (σ : bS) : Option (Int32 × bS) :=
  if x3 < 0 then
    cGoing_crossOver_d_b67 n x1 x2 x4 σ
  else
  bin_ x2 4 (
  cGoing_crossOver_d_b67 n x1 x2 x4 (uA σ 36 x2 x3))
def cGoing_crossOver_d_b29 (n : Nat) (x1 : Int32) (x2 : Int32) (x3 : Int32) (x4 : Int32) (s1 : Int32) (s2 : Int32) (σ : bS) : Option (Int32 × bS) :=
  bin_ s1 7 (
  bin_ x1 7 (
  bin_ x1 7 (
  if x4 < 0 then
    cGoing_crossOver_d_b56 n x1 x2 x3 x4 (uA (uA (uA σ 40 s1 s2) 38 x1 ci_m1) 39 x1 x2)
  else
  ob (cGoing_landAll_d n x2 x4 (uA (uA (uA σ 40 s1 s2) 38 x1 ci_m1) 39 x1 x2)) fun q1 =>
  cGoing_crossOver_d_b56 n x1 x2 x3 x4 q1)))
def cGoing_crossOver_d (n : Nat) (x1 : Int32) (x2 : Int32) (σ : bS) : Option (Int32 × bS) :=
  ob (cGoing_wishNow_d n x1 x2 σ) fun q2 =>
  bin_ x2 4 (
  bin_ x1 7 (
  ob (cGoing_tollNow_d n x1 x2 q2.2) fun q3 =>
  cGoing_crossOver_d_b29 n x1 x2 q2.1 (sA q2.2 36 x2) x1 ((sA q2.2 40 x1) - q3.1) q3.2))
def cGoing_couldCross_d_b38 (n : Nat) (s0 : Int32) (σ : bS) : Option (Int32 × bS) :=
  bz s0 σ
def cGoing_couldCross_d_b37 (n : Nat) (σ : bS) : Option (Int32 × bS) :=
  cGoing_couldCross_d_b38 n ci_0 σ
def cGoing_couldCross_d (n : Nat) (x1 : Int32) (x2 : Int32) (σ : bS) : Option (Int32 × bS) :=
  bin_ x1 7 (
  bin_ x2 4 (
  if (sA σ 38 x1) = (sA σ 3 x2) then
    ob (cGoing_tollNow_d n x1 x2 σ) fun q1 =>
    bin_ x1 7 (
    if (sA q1.2 40 x1) < q1.1 then
      cGoing_couldCross_d_b37 n q1.2
    else
    cGoing_couldCross_d_b38 n ci_1 q1.2)
  else
  cGoing_couldCross_d_b37 n σ))
def cTop_pair_b133 (n : Nat) (s0 : Int32) (σ : bS) : Option (Int32 × bS) :=
  some (s0, σ)
def cTop_pair_b29 (n : Nat) (σ : bS) : Option (Int32 × bS) :=
  some (ci_m1, σ)
def cTop_pair (n : Nat) (x1 : Int32) (x2 : Int32) (x3 : Int32) (σ : bS) : Option (Int32 × bS) :=
  ob (cTop_isMan n x1 σ) fun q1 =>
  if q1.1 = 0 then
    cTop_pair_b29 n q1.2
  else
  ob (cTop_isMan n x2 q1.2) fun q2 =>
  if q2.1 = 0 then
    cTop_pair_b29 n q2.2
  else
  if x1 = x2 then
    cTop_pair_b29 n q2.2
  else
  ob (cTop_isBridge n x3 q2.2) fun q3 =>
  if q3.1 = 0 then
    cTop_pair_b29 n q3.2
  else
  ob (cGoing_couldCross n x1 x3 q3.2) fun q4 =>
  if q4.1 = 0 then
    some (cb_m2, q4.2)
  else
  ob (cGoing_copyFrom_d_27 n q4.2) fun q5 =>
  ob (cGoing_crossOver_d n x1 x3 q5) fun q6 =>
  ob (cGoing_couldCross_d n x2 x3 q6.2) fun q7 =>
  if q7.1 = 0 then
    some (cb_m2, q7.2)
  else
  ob (cShelf_keep_27 n q7.2) fun q8 =>
  ob (cGoing_crossOver n x1 x3 q8) fun q9 =>
  ob (cGoing_crossOver n x2 x3 q9.2) fun q10 =>
  ob (cGoing_hourPasses n q10.2) fun q11 =>
  if 0 ≤ q10.1 then
    cTop_pair_b133 n q10.1 q11
  else
  cTop_pair_b133 n cb_m3 q11
def cTop_hire_b16 (n : Nat) (σ : bS) : Option (Int32 × bS) :=
  bz ci_0 σ
def cTop_hire (n : Nat) (x1 : Int32) (x2 : Int32) (σ : bS) : Option (Int32 × bS) :=
  ob (cTop_isBridge n x1 σ) fun q1 =>
  if q1.1 = 0 then
    cTop_hire_b16 n q1.2
  else
  ob (cTop_isBank n x2 q1.2) fun q2 =>
  if q2.1 = 0 then
    cTop_hire_b16 n q2.2
  else
  ob (cShelf_keep_27 n q2.2) fun q3 =>
  bin_ x1 4 (
  ob (cGoing_hourPasses n (uI (uI (uA q3 28 x1 x2) 27 3 ((sI (uA q3 28 x1 x2) 27 3) + (sI (uA q3 28 x1 x2) 1 17))) 27 4 ((sI (uI (uA q3 28 x1 x2) 27 3 ((sI (uA q3 28 x1 x2) 27 3) + (sI (uA q3 28 x1 x2) 1 17))) 27 4) + ci_1))) fun q4 =>
  bz ci_1 q4)
def cTold_pathHours (n : Nat) (x1 : Int32) (x2 : Int32) (σ : bS) : Option (Int32 × bS) :=
  bin_ ((x1 * cb_6) + x2) 36 (
  some ((sA σ 2 ((x1 * cb_6) + x2)), σ))
def cTop_walk_b93 (n : Nat) : Nat → Int32 → Int32 → bS → Option (Int32 × bS)
  | 0, _, _, _ => none
  | k + 1, x3, x4, σ =>
  if x3 ≤ x4 then
    some (x3, σ)
  else
  ob (cGoing_hourPasses n σ) fun q1 =>
  (cTop_walk_b93 n k) x3 (x4 + ci_1) q1
def cTop_walk_b51 (n : Nat) (x1 : Int32) (x2 : Int32) (s0 : Int32) (σ : bS) : Option (Int32 × bS) :=
  if s0 = 0 then
    some (cb_m2, σ)
  else
  ob (cShelf_keep_27 n σ) fun q2 =>
  bin_ x1 7 (
  bin_ x1 7 (
  cTop_walk_b93 n n s0 ci_0 (uA (uA q2 30 x1 x2) 34 x1 ci_0)))
def cTop_walk_b16 (n : Nat) (σ : bS) : Option (Int32 × bS) :=
  some (ci_m1, σ)
def cTop_walk (n : Nat) (x1 : Int32) (x2 : Int32) (σ : bS) : Option (Int32 × bS) :=
  ob (cTop_isMan n x1 σ) fun q3 =>
  if q3.1 = 0 then
    cTop_walk_b16 n q3.2
  else
  ob (cTop_isBank n x2 q3.2) fun q4 =>
  if q4.1 = 0 then
    cTop_walk_b16 n q4.2
  else
  bin_ x1 7 (
  if 0 ≤ (sA q4.2 30 x1) then
    bin_ x1 7 (
    ob (cTold_pathHours n (sA q4.2 30 x1) x2 q4.2) fun q5 =>
    cTop_walk_b51 n x1 x2 q5.1 q5.2)
  else
  cTop_walk_b51 n x1 x2 ci_0 q4.2)
def cTop_hours_b30 (n : Nat) : Nat → Int32 → Int32 → bS → Option (Int32 × bS)
  | 0, _, _, _ => none
  | k + 1, x1, x2, σ =>
  if x1 ≤ x2 then
    some ((sI σ 27 2), σ)
  else
  ob (cGoing_hourPasses n σ) fun q1 =>
  (cTop_hours_b30 n k) x1 (x2 + ci_1) q1
def cTop_hours_b28 (n : Nat) (x1 : Int32) (σ : bS) : Option (Int32 × bS) :=
  cTop_hours_b30 n n x1 ci_0 σ
def cTop_hours_b11 (n : Nat) (σ : bS) : Option (Int32 × bS) :=
  some (ci_m1, σ)
def cTop_hours (n : Nat) (x1 : Int32) (σ : bS) : Option (Int32 × bS) :=
  if x1 < 0 then
    cTop_hours_b11 n σ
  else
  if x1 ≤ cs_200 then
    if x1 ≤ 0 then
      cTop_hours_b28 n x1 σ
    else
    ob (cShelf_keep_27 n σ) fun q2 =>
    cTop_hours_b28 n x1 q2
  else
  cTop_hours_b11 n σ
def cGoing_isHome_b23 (n : Nat) (s0 : Int32) (σ : bS) : Option (Int32 × bS) :=
  bz s0 σ
def cGoing_isHome (n : Nat) (x1 : Int32) (σ : bS) : Option (Int32 × bS) :=
  bin_ x1 7 (
  bin_ x1 7 (
  if (sA σ 30 x1) = (sA σ 6 x1) then
    cGoing_isHome_b23 n ci_1 σ
  else
  cGoing_isHome_b23 n ci_0 σ))
def cGoing_wouldGo_b52 (n : Nat) (s0 : Int32) (σ : bS) : Option (Int32 × bS) :=
  bz s0 σ
def cGoing_wouldGo (n : Nat) (x1 : Int32) (x2 : Int32) (σ : bS) : Option (Int32 × bS) :=
  if 0 ≤ (sI σ 1 12) then
    bin_ x2 4 (
    ob (cGoing_look n x1 (sA σ 28 x2) (sI σ 27 2) σ) fun q1 =>
    ob (cLaws_valueOf n (sI q1 1 12) q1) fun q2 =>
    if q2.1 ≤ 0 then
      cGoing_wouldGo_b52 n ci_0 q2.2
    else
    cGoing_wouldGo_b52 n ci_1 q2.2)
  else
  bz ci_0 σ
def cGoing_bridgeByRule_b97 (n : Nat) (r58 : Int32 → Int32 → Int32 → bS → Option (Int32 × bS)) (x1 : Int32) (x2 : Int32) (x3 : Int32) (σ : bS) : Option (Int32 × bS) :=
  r58 x1 x2 (x3 + ci_1) σ
def cGoing_bridgeByRule_b58 (n : Nat) : Nat → Int32 → Int32 → Int32 → bS → Option (Int32 × bS)
  | 0, _, _, _, _ => none
  | k + 1, x1, x2, x3, σ =>
  if (sI σ 1 2) ≤ x3 then
    some (ci_m1, σ)
  else
  if ((x2 >>> (x3 &&& 31)) &&& ci_1) = 0 then
    ob (cGoing_couldCross n x1 x3 σ) fun q1 =>
    if q1.1 = 0 then
      cGoing_bridgeByRule_b97 n (cGoing_bridgeByRule_b58 n k) x1 x2 x3 q1.2
    else
    ob (cGoing_wouldGo n x1 x3 q1.2) fun q2 =>
    if q2.1 = 0 then
      cGoing_bridgeByRule_b97 n (cGoing_bridgeByRule_b58 n k) x1 x2 x3 q2.2
    else
    some (x3, q2.2)
  else
  cGoing_bridgeByRule_b97 n (cGoing_bridgeByRule_b58 n k) x1 x2 x3 σ
def cGoing_bridgeByRule_b50 (n : Nat) (r2 : Int32 → Int32 → Int32 → bS → Option (Int32 × bS)) (x1 : Int32) (x2 : Int32) (x3 : Int32) (σ : bS) : Option (Int32 × bS) :=
  r2 x1 x2 (x3 + ci_1) σ
def cGoing_bridgeByRule_b2 (n : Nat) : Nat → Int32 → Int32 → Int32 → bS → Option (Int32 × bS)
  | 0, _, _, _, _ => none
  | k + 1, x1, x2, x3, σ =>
  if (sI σ 1 2) ≤ x3 then
    cGoing_bridgeByRule_b58 n n x1 x2 ci_0 σ
  else
  if ((x2 >>> (x3 &&& 31)) &&& ci_1) = 0 then
    bin_ x3 4 (
    bin_ x1 7 (
    if (sA σ 28 x3) = (sA σ 6 x1) then
      ob (cGoing_couldCross n x1 x3 σ) fun q3 =>
      if q3.1 = 0 then
        cGoing_bridgeByRule_b50 n (cGoing_bridgeByRule_b2 n k) x1 x2 x3 q3.2
      else
      some (x3, q3.2)
    else
    cGoing_bridgeByRule_b50 n (cGoing_bridgeByRule_b2 n k) x1 x2 x3 σ))
  else
  cGoing_bridgeByRule_b50 n (cGoing_bridgeByRule_b2 n k) x1 x2 x3 σ
def cGoing_bridgeByRule (n : Nat) (x1 : Int32) (x2 : Int32) (σ : bS) : Option (Int32 × bS) :=
  cGoing_bridgeByRule_b2 n n x1 x2 ci_0 σ
def cGoing_ruleHour_b81 (n : Nat) (r4 : Int32 → Int32 → Int32 → bS → Option bS) (x1 : Int32) (x2 : Int32) (x3 : Int32) (σ : bS) : Option bS :=
  r4 x1 x2 (x3 + ci_1) σ
def cGoing_ruleHour_b4 (n : Nat) : Nat → Int32 → Int32 → Int32 → bS → Option bS
  | 0, _, _, _, _ => none
  | k + 1, x1, x2, x3, σ =>
  if (sI σ 1 3) ≤ x3 then
    ob (cGoing_hourPasses n σ) fun q1 =>
    some q1
  else
  if x3 = x1 then
    cGoing_ruleHour_b81 n (cGoing_ruleHour_b4 n k) x1 x2 x3 σ
  else
  bin_ x3 7 (
  if 0 ≤ (sA σ 31 x3) then
    cGoing_ruleHour_b81 n (cGoing_ruleHour_b4 n k) x1 x2 x3 σ
  else
  ob (cGoing_isHome n x3 σ) fun q2 =>
  if q2.1 = 0 then
    ob (cGoing_bridgeByRule n x3 x2 q2.2) fun q3 =>
    if 0 ≤ q3.1 then
      ob (cGoing_crossOver n x3 q3.1 q3.2) fun q4 =>
      cGoing_ruleHour_b81 n (cGoing_ruleHour_b4 n k) x1 (x2 ||| (ci_1 <<< (q3.1 &&& 31))) x3 q4.2
    else
    bin_ x3 7 (
    bin_ x3 7 (
    cGoing_ruleHour_b81 n (cGoing_ruleHour_b4 n k) x1 x2 x3 (uA q3.2 34 x3 ((sA q3.2 34 x3) + ci_1))))
  else
  cGoing_ruleHour_b81 n (cGoing_ruleHour_b4 n k) x1 x2 x3 q2.2)
def cGoing_ruleHour (n : Nat) (x1 : Int32) (σ : bS) : Option bS :=
  cGoing_ruleHour_b4 n n x1 ci_0 ci_0 σ
def cTop_rule_b30 (n : Nat) : Nat → Int32 → Int32 → bS → Option (Int32 × bS)
  | 0, _, _, _ => none
  | k + 1, x1, x2, σ =>
  if x1 ≤ x2 then
    some ((sI σ 27 2), σ)
  else
  ob (cGoing_ruleHour n ci_m1 σ) fun q1 =>
  (cTop_rule_b30 n k) x1 (x2 + ci_1) q1
def cTop_rule_b28 (n : Nat) (x1 : Int32) (σ : bS) : Option (Int32 × bS) :=
  cTop_rule_b30 n n x1 ci_0 σ
def cTop_rule_b11 (n : Nat) (σ : bS) : Option (Int32 × bS) :=
  some (ci_m1, σ)
def cTop_rule (n : Nat) (x1 : Int32) (σ : bS) : Option (Int32 × bS) :=
  if x1 < 0 then
    cTop_rule_b11 n σ
  else
  if x1 ≤ cs_200 then
    if x1 ≤ 0 then
      cTop_rule_b28 n x1 σ
    else
    ob (cShelf_keep_27 n σ) fun q2 =>
    cTop_rule_b28 n x1 q2
  else
  cTop_rule_b11 n σ
def cGoing_takeOutOf_55 (n : Nat) (x2 : Int32) (σ : bS) : Option bS :=
  bin_ x2 1978 (
  bin_ (x2 + ci_1) 1978 (
  bin_ (x2 + ci_2) 1978 (
  if (x2 + ci_3) < 0 ∨ ci_0 < 0 ∨ ci_4 < 0 ∨ 1978 < ((x2 + ci_3)).toNatClampNeg + (ci_4).toNatClampNeg ∨ 4 < (ci_0).toNatClampNeg + (ci_4).toNatClampNeg then none else
  if ((x2 + ci_3) + ci_4) < 0 ∨ ci_0 < 0 ∨ ci_4 < 0 ∨ 1978 < (((x2 + ci_3) + ci_4)).toNatClampNeg + (ci_4).toNatClampNeg ∨ 4 < (ci_0).toNatClampNeg + (ci_4).toNatClampNeg then none else
  if ((x2 + ci_3) + ci_8) < 0 ∨ ci_0 < 0 ∨ cb_7 < 0 ∨ 1978 < (((x2 + ci_3) + ci_8)).toNatClampNeg + (cb_7).toNatClampNeg ∨ 7 < (ci_0).toNatClampNeg + (cb_7).toNatClampNeg then none else
  if (((x2 + ci_3) + ci_8) + cb_7) < 0 ∨ ci_0 < 0 ∨ cb_7 < 0 ∨ 1978 < ((((x2 + ci_3) + ci_8) + cb_7)).toNatClampNeg + (cb_7).toNatClampNeg ∨ 7 < (ci_0).toNatClampNeg + (cb_7).toNatClampNeg then none else
  if (((x2 + ci_3) + ci_8) + cb_14) < 0 ∨ ci_0 < 0 ∨ cb_7 < 0 ∨ 1978 < ((((x2 + ci_3) + ci_8) + cb_14)).toNatClampNeg + (cb_7).toNatClampNeg ∨ 7 < (ci_0).toNatClampNeg + (cb_7).toNatClampNeg then none else
  if (((x2 + ci_3) + ci_8) + cb_21) < 0 ∨ ci_0 < 0 ∨ cb_7 < 0 ∨ 1978 < ((((x2 + ci_3) + ci_8) + cb_21)).toNatClampNeg + (cb_7).toNatClampNeg ∨ 7 < (ci_0).toNatClampNeg + (cb_7).toNatClampNeg then none else
  if (((x2 + ci_3) + ci_8) + cb_28) < 0 ∨ ci_0 < 0 ∨ cb_7 < 0 ∨ 1978 < ((((x2 + ci_3) + ci_8) + cb_28)).toNatClampNeg + (cb_7).toNatClampNeg ∨ 7 < (ci_0).toNatClampNeg + (cb_7).toNatClampNeg then none else
  some (uC (uC (uC (uC (uC (uC (uC (uI (uI (uI σ 27 2 (sA σ 55 x2)) 27 3 (sA (uI σ 27 2 (sA σ 55 x2)) 55 (x2 + ci_1))) 27 4 (sA (uI (uI σ 27 2 (sA σ 55 x2)) 27 3 (sA (uI σ 27 2 (sA σ 55 x2)) 55 (x2 + ci_1))) 55 (x2 + ci_2))) 55 28 (x2 + ci_3) ci_0 ci_4) 55 29 ((x2 + ci_3) + ci_4) ci_0 ci_4) 55 30 ((x2 + ci_3) + ci_8) ci_0 cb_7) 55 31 (((x2 + ci_3) + ci_8) + cb_7) ci_0 cb_7) 55 32 (((x2 + ci_3) + ci_8) + cb_14) ci_0 cb_7) 55 33 (((x2 + ci_3) + ci_8) + cb_21) ci_0 cb_7) 55 34 (((x2 + ci_3) + ci_8) + cb_28) ci_0 cb_7))))
def cShelf_takeBack_27_b29 (n : Nat) (s1 : Int32) (σ : bS) : Option (Int32 × bS) :=
  if cb_40 = 0 then none else
  ob (cGoing_takeOutOf_55 n ((sI (uI σ 54 1 (brem s1 cb_40)) 54 1) * cb_46) (uI σ 54 1 (brem s1 cb_40))) fun q1 =>
  bz ci_1 q1
def cShelf_takeBack_27_b16 (n : Nat) (s1 : Int32) (σ : bS) : Option (Int32 × bS) :=
  cShelf_takeBack_27_b29 n (((sI (uI σ 54 2 s1) 54 1) + cb_40) - ci_1) (uI σ 54 2 s1)
def cShelf_takeBack_27 (n : Nat) (σ : bS) : Option (Int32 × bS) :=
  if (sI σ 54 2) = 0 then
    bz ci_0 σ
  else
  cShelf_takeBack_27_b16 n ((sI σ 54 2) - ci_1) σ
def cTop_undo (n : Nat) (σ : bS) : Option (Int32 × bS) :=
  ob (cShelf_takeBack_27 n σ) fun q1 =>
  bz q1.1 q1.2
def cGoing_homeBits_b29 (n : Nat) (r4 : Int32 → Int32 → bS → Option (Int32 × bS)) (x1 : Int32) (x2 : Int32) (σ : bS) : Option (Int32 × bS) :=
  r4 x1 (x2 + ci_1) σ
def cGoing_homeBits_b4 (n : Nat) : Nat → Int32 → Int32 → bS → Option (Int32 × bS)
  | 0, _, _, _ => none
  | k + 1, x1, x2, σ =>
  if (sI σ 1 3) ≤ x2 then
    some (x1, σ)
  else
  ob (cGoing_isHome n x2 σ) fun q1 =>
  if q1.1 = 0 then
    cGoing_homeBits_b29 n (cGoing_homeBits_b4 n k) x1 x2 q1.2
  else
  cGoing_homeBits_b29 n (cGoing_homeBits_b4 n k) (x1 ||| (ci_1 <<< (x2 &&& 31))) x2 q1.2
def cGoing_homeBits (n : Nat) (σ : bS) : Option (Int32 × bS) :=
  cGoing_homeBits_b4 n n ci_0 ci_0 σ
def cTop_homes (n : Nat) (σ : bS) : Option (Int32 × bS) :=
  ob (cGoing_homeBits n σ) fun q1 =>
  some (q1.1, q1.2)
def cTop_isFar_b16 (n : Nat) (s0 : Int32) (σ : bS) : Option (Int32 × bS) :=
  bz s0 σ
def cTop_isFar_b15 (n : Nat) (σ : bS) : Option (Int32 × bS) :=
  cTop_isFar_b16 n ci_0 σ
def cTop_isFar (n : Nat) (x0 : Int32) (σ : bS) : Option (Int32 × bS) :=
  if x0 < 0 then
    cTop_isFar_b15 n σ
  else
  if cs_300 < x0 then
    cTop_isFar_b15 n σ
  else
  cTop_isFar_b16 n ci_1 σ
def cGoing_isHome_d_b23 (n : Nat) (s0 : Int32) (σ : bS) : Option (Int32 × bS) :=
  bz s0 σ
def cGoing_isHome_d (n : Nat) (x1 : Int32) (σ : bS) : Option (Int32 × bS) :=
  bin_ x1 7 (
  bin_ x1 7 (
  if (sA σ 38 x1) = (sA σ 6 x1) then
    cGoing_isHome_d_b23 n ci_1 σ
  else
  cGoing_isHome_d_b23 n ci_0 σ))
def cGoing_wouldGo_d_b52 (n : Nat) (s0 : Int32) (σ : bS) : Option (Int32 × bS) :=
  bz s0 σ
def cGoing_wouldGo_d (n : Nat) (x1 : Int32) (x2 : Int32) (σ : bS) : Option (Int32 × bS) :=
  if 0 ≤ (sI σ 1 12) then
    bin_ x2 4 (
    ob (cGoing_look_d n x1 (sA σ 36 x2) (sI σ 35 2) σ) fun q1 =>
    ob (cLaws_valueOf n (sI q1 1 12) q1) fun q2 =>
    if q2.1 ≤ 0 then
      cGoing_wouldGo_d_b52 n ci_0 q2.2
    else
    cGoing_wouldGo_d_b52 n ci_1 q2.2)
  else
  bz ci_0 σ
def cGoing_bridgeByRule_d_b97 (n : Nat) (r58 : Int32 → Int32 → Int32 → bS → Option (Int32 × bS)) (x1 : Int32) (x2 : Int32) (x3 : Int32) (σ : bS) : Option (Int32 × bS) :=
  r58 x1 x2 (x3 + ci_1) σ
def cGoing_bridgeByRule_d_b58 (n : Nat) : Nat → Int32 → Int32 → Int32 → bS → Option (Int32 × bS)
  | 0, _, _, _, _ => none
  | k + 1, x1, x2, x3, σ =>
  if (sI σ 1 2) ≤ x3 then
    some (ci_m1, σ)
  else
  if ((x2 >>> (x3 &&& 31)) &&& ci_1) = 0 then
    ob (cGoing_couldCross_d n x1 x3 σ) fun q1 =>
    if q1.1 = 0 then
      cGoing_bridgeByRule_d_b97 n (cGoing_bridgeByRule_d_b58 n k) x1 x2 x3 q1.2
    else
    ob (cGoing_wouldGo_d n x1 x3 q1.2) fun q2 =>
    if q2.1 = 0 then
      cGoing_bridgeByRule_d_b97 n (cGoing_bridgeByRule_d_b58 n k) x1 x2 x3 q2.2
    else
    some (x3, q2.2)
  else
  cGoing_bridgeByRule_d_b97 n (cGoing_bridgeByRule_d_b58 n k) x1 x2 x3 σ
def cGoing_bridgeByRule_d_b50 (n : Nat) (r2 : Int32 → Int32 → Int32 → bS → Option (Int32 × bS)) (x1 : Int32) (x2 : Int32) (x3 : Int32) (σ : bS) : Option (Int32 × bS) :=
  r2 x1 x2 (x3 + ci_1) σ
def cGoing_bridgeByRule_d_b2 (n : Nat) : Nat → Int32 → Int32 → Int32 → bS → Option (Int32 × bS)
  | 0, _, _, _, _ => none
  | k + 1, x1, x2, x3, σ =>
  if (sI σ 1 2) ≤ x3 then
    cGoing_bridgeByRule_d_b58 n n x1 x2 ci_0 σ
  else
  if ((x2 >>> (x3 &&& 31)) &&& ci_1) = 0 then
    bin_ x3 4 (
    bin_ x1 7 (
    if (sA σ 36 x3) = (sA σ 6 x1) then
      ob (cGoing_couldCross_d n x1 x3 σ) fun q3 =>
      if q3.1 = 0 then
        cGoing_bridgeByRule_d_b50 n (cGoing_bridgeByRule_d_b2 n k) x1 x2 x3 q3.2
      else
      some (x3, q3.2)
    else
    cGoing_bridgeByRule_d_b50 n (cGoing_bridgeByRule_d_b2 n k) x1 x2 x3 σ))
  else
  cGoing_bridgeByRule_d_b50 n (cGoing_bridgeByRule_d_b2 n k) x1 x2 x3 σ
def cGoing_bridgeByRule_d (n : Nat) (x1 : Int32) (x2 : Int32) (σ : bS) : Option (Int32 × bS) :=
  cGoing_bridgeByRule_d_b2 n n x1 x2 ci_0 σ
def cGoing_lot_d_b27 (n : Nat) (s0 : Int32) (σ : bS) : Option (Int32 × bS) :=
  some (s0, σ)
def cGoing_lot_d (n : Nat) (x1 : Int32) (x2 : Int32) (σ : bS) : Option (Int32 × bS) :=
  ob (cGoing_stirred n (sI σ 35 1) cb_47 σ) fun q1 =>
  ob (cGoing_stirred n q1.1 x2 q1.2) fun q2 =>
  if x1 ≤ 0 then
    cGoing_lot_d_b27 n ci_0 q2.2
  else
  if x1 = 0 then none else
  cGoing_lot_d_b27 n (brem (bush q2.1 ci_1) x1) q2.2
def cGoing_hourPasses_d_b165 (n : Nat) (r97 : Int32 → bS → Option bS) (x1 : Int32) (σ : bS) : Option bS :=
  r97 (x1 + ci_1) σ
def cGoing_hourPasses_d_b97 (n : Nat) : Nat → Int32 → bS → Option bS
  | 0, _, _ => none
  | k + 1, x1, σ =>
  if (sI σ 1 2) ≤ x1 then
    some σ
  else
  ob (cGoing_lot_d n cb_100 (((cb_100 * (sI σ 35 2)) + cb_10) + x1) σ) fun q1 =>
  if (sI q1.2 1 16) ≤ q1.1 then
    cGoing_hourPasses_d_b165 n (cGoing_hourPasses_d_b97 n k) x1 q1.2
  else
  ob (cGoing_lot_d n (sI q1.2 1 0) (((cb_100 * (sI q1.2 35 2)) + cb_20) + x1) q1.2) fun q2 =>
  bin_ x1 4 (
  cGoing_hourPasses_d_b165 n (cGoing_hourPasses_d_b97 n k) x1 (uA q2.2 36 x1 q2.1))
def cGoing_hourPasses_d_b84 (n : Nat) (σ : bS) : Option bS :=
  if (sI σ 1 16) = 0 then
    some σ
  else
  cGoing_hourPasses_d_b97 n n ci_0 σ
def cGoing_hourPasses_d_b41 (n : Nat) : Nat → Int32 → bS → Option bS
  | 0, _, _ => none
  | k + 1, x1, σ =>
  if (sI σ 1 2) ≤ x1 then
    cGoing_hourPasses_d_b84 n σ
  else
  ob (cGoing_lot_d n (sI σ 1 0) ((cb_100 * (sI σ 35 2)) + x1) σ) fun q3 =>
  bin_ x1 4 (
  (cGoing_hourPasses_d_b41 n k) (x1 + ci_1) (uA q3.2 36 x1 q3.1))
def cGoing_hourPasses_d (n : Nat) (σ : bS) : Option bS :=
  if (sI (uI σ 35 2 ((sI σ 35 2) + ci_1)) 1 15) < 0 then
    cGoing_hourPasses_d_b84 n (uI σ 35 2 ((sI σ 35 2) + ci_1))
  else
  ob (cj_floorMod n (sI (uI σ 35 2 ((sI σ 35 2) + ci_1)) 35 2) cb_24 (uI σ 35 2 ((sI σ 35 2) + ci_1))) fun q4 =>
  if q4.1 = (sI q4.2 1 15) then
    cGoing_hourPasses_d_b41 n n ci_0 q4.2
  else
  cGoing_hourPasses_d_b84 n q4.2
def cGoing_ruleHour_d_b81 (n : Nat) (r4 : Int32 → Int32 → Int32 → bS → Option bS) (x1 : Int32) (x2 : Int32) (x3 : Int32) (σ : bS) : Option bS :=
  r4 x1 x2 (x3 + ci_1) σ
def cGoing_ruleHour_d_b4 (n : Nat) : Nat → Int32 → Int32 → Int32 → bS → Option bS
  | 0, _, _, _, _ => none
  | k + 1, x1, x2, x3, σ =>
  if (sI σ 1 3) ≤ x3 then
    ob (cGoing_hourPasses_d n σ) fun q1 =>
    some q1
  else
  if x3 = x1 then
    cGoing_ruleHour_d_b81 n (cGoing_ruleHour_d_b4 n k) x1 x2 x3 σ
  else
  bin_ x3 7 (
  if 0 ≤ (sA σ 39 x3) then
    cGoing_ruleHour_d_b81 n (cGoing_ruleHour_d_b4 n k) x1 x2 x3 σ
  else
  ob (cGoing_isHome_d n x3 σ) fun q2 =>
  if q2.1 = 0 then
    ob (cGoing_bridgeByRule_d n x3 x2 q2.2) fun q3 =>
    if 0 ≤ q3.1 then
      ob (cGoing_crossOver_d n x3 q3.1 q3.2) fun q4 =>
      cGoing_ruleHour_d_b81 n (cGoing_ruleHour_d_b4 n k) x1 (x2 ||| (ci_1 <<< (q3.1 &&& 31))) x3 q4.2
    else
    bin_ x3 7 (
    bin_ x3 7 (
    cGoing_ruleHour_d_b81 n (cGoing_ruleHour_d_b4 n k) x1 x2 x3 (uA q3.2 42 x3 ((sA q3.2 42 x3) + ci_1))))
  else
  cGoing_ruleHour_d_b81 n (cGoing_ruleHour_d_b4 n k) x1 x2 x3 q2.2)
def cGoing_ruleHour_d (n : Nat) (x1 : Int32) (σ : bS) : Option bS :=
  cGoing_ruleHour_d_b4 n n x1 ci_0 ci_0 σ
def cTop_dreamHours_b13 (n : Nat) : Nat → Int32 → Int32 → bS → Option bS
  | 0, _, _, _ => none
  | k + 1, x1, x2, σ =>
  if x1 ≤ x2 then
    some σ
  else
  ob (cGoing_ruleHour_d n ci_m1 σ) fun q1 =>
  (cTop_dreamHours_b13 n k) x1 (x2 + ci_1) q1
def cTop_dreamHours (n : Nat) (x1 : Int32) (σ : bS) : Option bS :=
  ob (cGoing_copyFrom_d_27 n σ) fun q2 =>
  cTop_dreamHours_b13 n n x1 ci_0 q2
def cTop_where_b15 (n : Nat) (σ : bS) : Option (Int32 × bS) :=
  some (ci_m1, σ)
def cTop_where (n : Nat) (x1 : Int32) (x2 : Int32) (σ : bS) : Option (Int32 × bS) :=
  ob (cTop_isMan n x1 σ) fun q1 =>
  if q1.1 = 0 then
    cTop_where_b15 n q1.2
  else
  ob (cTop_isFar n x2 q1.2) fun q2 =>
  if q2.1 = 0 then
    cTop_where_b15 n q2.2
  else
  ob (cTop_dreamHours n x2 q2.2) fun q3 =>
  bin_ x1 7 (
  ob (cTop_orNot n (sA q3 38 x1) q3) fun q4 =>
  some (q4.1, q4.2))
def cTop_last_b15 (n : Nat) (σ : bS) : Option (Int32 × bS) :=
  some (ci_m1, σ)
def cTop_last (n : Nat) (x1 : Int32) (x2 : Int32) (σ : bS) : Option (Int32 × bS) :=
  ob (cTop_isBridge n x1 σ) fun q1 =>
  if q1.1 = 0 then
    cTop_last_b15 n q1.2
  else
  ob (cTop_isFar n x2 q1.2) fun q2 =>
  if q2.1 = 0 then
    cTop_last_b15 n q2.2
  else
  ob (cTop_dreamHours n x2 q2.2) fun q3 =>
  bin_ x1 4 (
  ob (cTop_orNot n (sA q3 36 x1) q3) fun q4 =>
  some (q4.1, q4.2))
def cGoing_allCoins_d_b4 (n : Nat) : Nat → Int32 → Int32 → bS → Option (Int32 × bS)
  | 0, _, _, _ => none
  | k + 1, x1, x2, σ =>
  if (sI σ 1 3) ≤ x2 then
    some (x1, σ)
  else
  bin_ x2 7 (
  (cGoing_allCoins_d_b4 n k) (x1 + (sA σ 40 x2)) (x2 + ci_1) σ)
def cGoing_allCoins_d (n : Nat) (σ : bS) : Option (Int32 × bS) :=
  cGoing_allCoins_d_b4 n n ci_0 ci_0 σ
def cTop_coins (n : Nat) (x1 : Int32) (σ : bS) : Option (Int32 × bS) :=
  ob (cTop_isFar n x1 σ) fun q1 =>
  if q1.1 = 0 then
    some (ci_m1, q1.2)
  else
  ob (cTop_dreamHours n x1 q1.2) fun q2 =>
  ob (cGoing_allCoins_d n q2) fun q3 =>
  some (q3.1, q3.2)
def cGoing_homeBits_d_b29 (n : Nat) (r4 : Int32 → Int32 → bS → Option (Int32 × bS)) (x1 : Int32) (x2 : Int32) (σ : bS) : Option (Int32 × bS) :=
  r4 x1 (x2 + ci_1) σ
def cGoing_homeBits_d_b4 (n : Nat) : Nat → Int32 → Int32 → bS → Option (Int32 × bS)
  | 0, _, _, _ => none
  | k + 1, x1, x2, σ =>
  if (sI σ 1 3) ≤ x2 then
    some (x1, σ)
  else
  ob (cGoing_isHome_d n x2 σ) fun q1 =>
  if q1.1 = 0 then
    cGoing_homeBits_d_b29 n (cGoing_homeBits_d_b4 n k) x1 x2 q1.2
  else
  cGoing_homeBits_d_b29 n (cGoing_homeBits_d_b4 n k) (x1 ||| (ci_1 <<< (x2 &&& 31))) x2 q1.2
def cGoing_homeBits_d (n : Nat) (σ : bS) : Option (Int32 × bS) :=
  cGoing_homeBits_d_b4 n n ci_0 ci_0 σ
def cTop_hoursTillHome_b70 (n : Nat) (s0 : Int32) (σ : bS) : Option (Int32 × bS) :=
  some (s0, σ)
def cTop_hoursTillHome_b13 (n : Nat) : Nat → Int32 → Int32 → bS → Option (Int32 × bS)
  | 0, _, _, _ => none
  | k + 1, x1, x2, σ =>
  if cs_300 ≤ x2 then
    ob (cGoing_homeBits_d n σ) fun q1 =>
    if (q1.1 &&& x1) = x1 then
      cTop_hoursTillHome_b70 n cs_300 q1.2
    else
    cTop_hoursTillHome_b70 n cb_m2 q1.2
  else
  ob (cGoing_homeBits_d n σ) fun q2 =>
  if (q2.1 &&& x1) = x1 then
    some (x2, q2.2)
  else
  ob (cGoing_ruleHour_d n ci_m1 q2.2) fun q3 =>
  (cTop_hoursTillHome_b13 n k) x1 (x2 + ci_1) q3
def cTop_hoursTillHome (n : Nat) (x1 : Int32) (σ : bS) : Option (Int32 × bS) :=
  ob (cGoing_copyFrom_d_27 n σ) fun q4 =>
  cTop_hoursTillHome_b13 n n x1 ci_0 q4
def cTop_homeBy_b19 (n : Nat) (s0 : Int32) (σ : bS) : Option (Int32 × bS) :=
  some (s0, σ)
def cTop_homeBy (n : Nat) (x1 : Int32) (σ : bS) : Option (Int32 × bS) :=
  ob (cTop_isMan n x1 σ) fun q1 =>
  if q1.1 = 0 then
    cTop_homeBy_b19 n ci_m1 q1.2
  else
  ob (cTop_hoursTillHome n (ci_1 <<< (x1 &&& 31)) q1.2) fun q2 =>
  cTop_homeBy_b19 n q2.1 q2.2
def cTop_allHome_b12 (n : Nat) (s1 : Int32) (σ : bS) : Option (Int32 × bS) :=
  ob (cTop_hoursTillHome n s1 σ) fun q1 =>
  some (q1.1, q1.2)
def cTop_allHome (n : Nat) (σ : bS) : Option (Int32 × bS) :=
  cTop_allHome_b12 n ((ci_1 <<< ((sI σ 1 3) &&& 31)) - ci_1) σ
def cTop_isHomeBySeed_b53 (n : Nat) (x1 : Int32) (σ : bS) : Option (Int32 × bS) :=
  ob (cGoing_isHome_d n x1 σ) fun q1 =>
  bz q1.1 q1.2
def cTop_isHomeBySeed_b22 (n : Nat) : Nat → Int32 → Int32 → Int32 → bS → Option (Int32 × bS)
  | 0, _, _, _, _ => none
  | k + 1, x1, x2, x4, σ =>
  if x2 ≤ x4 then
    cTop_isHomeBySeed_b53 n x1 σ
  else
  ob (cGoing_isHome_d n x1 σ) fun q2 =>
  if q2.1 = 0 then
    ob (cGoing_ruleHour_d n ci_m1 q2.2) fun q3 =>
    (cTop_isHomeBySeed_b22 n k) x1 x2 (x4 + ci_1) q3
  else
  cTop_isHomeBySeed_b53 n x1 q2.2
def cTop_isHomeBySeed (n : Nat) (x1 : Int32) (x2 : Int32) (x3 : Int32) (σ : bS) : Option (Int32 × bS) :=
  ob (cGoing_copyFrom_d_27 n σ) fun q4 =>
  cTop_isHomeBySeed_b22 n n x1 x2 ci_0 (uI q4 35 1 x3)
def cTop_odds_b122 (n : Nat) (s0 : Int32) (σ : bS) : Option (Int32 × bS) :=
  some (s0, σ)
def cTop_odds_b102 (n : Nat) (r73 : Int32 → Int32 → Int32 → Int32 → Int32 → Int32 → Int32 → bS → Option (Int32 × bS)) (x1 : Int32) (x2 : Int32) (x3 : Int32) (x4 : Int32) (x5 : Int32) (x6 : Int32) (x7 : Int32) (σ : bS) : Option (Int32 × bS) :=
  r73 x1 x2 x3 x4 x5 x6 (x7 + ci_1) σ
def cTop_odds_b73 (n : Nat) : Nat → Int32 → Int32 → Int32 → Int32 → Int32 → Int32 → Int32 → bS → Option (Int32 × bS)
  | 0, _, _, _, _, _, _, _, _ => none
  | k + 1, x1, x2, x3, x4, x5, x6, x7, σ =>
  if x5 ≤ x7 then
    if x4 = 0 then
      cTop_odds_b122 n x6 σ
    else
    cTop_odds_b122 n (x6 * x3) σ
  else
  ob (cTop_isHomeBySeed n x1 x2 ((sI σ 1 18) + x7) σ) fun q1 =>
  if q1.1 = 0 then
    cTop_odds_b102 n (cTop_odds_b73 n k) x1 x2 x3 x4 x5 x6 x7 q1.2
  else
  cTop_odds_b102 n (cTop_odds_b73 n k) x1 x2 x3 x4 x5 (x6 + ci_1) x7 q1.2
def cTop_odds_b65 (n : Nat) (x1 : Int32) (x2 : Int32) (x3 : Int32) (x4 : Int32) (s0 : Int32) (σ : bS) : Option (Int32 × bS) :=
  cTop_odds_b73 n n x1 x2 x3 x4 s0 ci_0 ci_0 σ
def cTop_odds_b53 (n : Nat) (x1 : Int32) (x2 : Int32) (x3 : Int32) (s0 : Int32) (σ : bS) : Option (Int32 × bS) :=
  if s0 = 0 then
    cTop_odds_b65 n x1 x2 x3 s0 x3 σ
  else
  cTop_odds_b65 n x1 x2 x3 s0 ci_1 σ
def cTop_odds_b52 (n : Nat) (x1 : Int32) (x2 : Int32) (x3 : Int32) (σ : bS) : Option (Int32 × bS) :=
  cTop_odds_b53 n x1 x2 x3 ci_0 σ
def cTop_odds_b26 (n : Nat) (σ : bS) : Option (Int32 × bS) :=
  some (ci_m1, σ)
def cTop_odds (n : Nat) (x1 : Int32) (x2 : Int32) (x3 : Int32) (σ : bS) : Option (Int32 × bS) :=
  ob (cTop_isMan n x1 σ) fun q2 =>
  if q2.1 = 0 then
    cTop_odds_b26 n q2.2
  else
  ob (cTop_isFar n x2 q2.2) fun q3 =>
  if q3.1 = 0 then
    cTop_odds_b26 n q3.2
  else
  if x3 < ci_1 then
    cTop_odds_b26 n q3.2
  else
  if x3 ≤ cb_20 then
    if 0 ≤ (sI q3.2 1 15) then
      cTop_odds_b52 n x1 x2 x3 q3.2
    else
    if (sI q3.2 1 16) = 0 then
      cTop_odds_b53 n x1 x2 x3 ci_1 q3.2
    else
    cTop_odds_b52 n x1 x2 x3 q3.2
  else
  cTop_odds_b26 n q3.2
def cTop_waiting_b96 (n : Nat) (r55 : Int32 → Int32 → Int32 → bS → Option (Int32 × bS)) (x1 : Int32) (x2 : Int32) (x3 : Int32) (σ : bS) : Option (Int32 × bS) :=
  ob (cGoing_ruleHour_d n x1 σ) fun q1 =>
  r55 x1 x2 (x3 + ci_1) q1
def cTop_waiting_b55 (n : Nat) : Nat → Int32 → Int32 → Int32 → bS → Option (Int32 × bS)
  | 0, _, _, _, _ => none
  | k + 1, x1, x2, x3, σ =>
  if cb_100 < x3 then
    some (cb_m2, σ)
  else
  bin_ x2 4 (
  bin_ x1 7 (
  if (sA σ 36 x2) = (sA σ 6 x1) then
    ob (cGoing_couldCross_d n x1 x2 σ) fun q2 =>
    if q2.1 = 0 then
      cTop_waiting_b96 n (cTop_waiting_b55 n k) x1 x2 x3 q2.2
    else
    some (x3, q2.2)
  else
  cTop_waiting_b96 n (cTop_waiting_b55 n k) x1 x2 x3 σ))
def cTop_waiting_b16 (n : Nat) (σ : bS) : Option (Int32 × bS) :=
  some (ci_m1, σ)
def cTop_waiting (n : Nat) (x1 : Int32) (x2 : Int32) (σ : bS) : Option (Int32 × bS) :=
  ob (cTop_isMan n x1 σ) fun q3 =>
  if q3.1 = 0 then
    cTop_waiting_b16 n q3.2
  else
  ob (cTop_isBridge n x2 q3.2) fun q4 =>
  if q4.1 = 0 then
    cTop_waiting_b16 n q4.2
  else
  bin_ x1 7 (
  bin_ x2 4 (
  if (sA q4.2 30 x1) = (sA q4.2 3 x2) then
    ob (cGoing_copyFrom_d_27 n q4.2) fun q5 =>
    cTop_waiting_b55 n n x1 x2 ci_0 q5
  else
  some (cb_m2, q4.2)))
def cTop_follow_b95 (n : Nat) (r44 : Int32 → Int32 → Int32 → bS → Option (Int32 × bS)) (x1 : Int32) (x2 : Int32) (x3 : Int32) (σ : bS) : Option (Int32 × bS) :=
  r44 x1 x2 (x3 + ci_1) σ
def cTop_follow_b44 (n : Nat) : Nat → Int32 → Int32 → Int32 → bS → Option (Int32 × bS)
  | 0, _, _, _, _ => none
  | k + 1, x1, x2, x3, σ =>
  if (sI σ 1 3) ≤ x3 then
    some (cb_m2, σ)
  else
  if x3 = x1 then
    cTop_follow_b95 n (cTop_follow_b44 n k) x1 x2 x3 σ
  else
  ob (cGoing_couldCross n x3 x2 σ) fun q1 =>
  if q1.1 = 0 then
    cTop_follow_b95 n (cTop_follow_b44 n k) x1 x2 x3 q1.2
  else
  ob (cGoing_wishNow n x3 x2 q1.2) fun q2 =>
  bin_ x1 7 (
  if q2.1 = (sA q2.2 6 x1) then
    some (x3, q2.2)
  else
  cTop_follow_b95 n (cTop_follow_b44 n k) x1 x2 x3 q2.2)
def cTop_follow_b16 (n : Nat) (σ : bS) : Option (Int32 × bS) :=
  some (ci_m1, σ)
def cTop_follow (n : Nat) (x1 : Int32) (x2 : Int32) (σ : bS) : Option (Int32 × bS) :=
  ob (cTop_isMan n x1 σ) fun q3 =>
  if q3.1 = 0 then
    cTop_follow_b16 n q3.2
  else
  ob (cTop_isBridge n x2 q3.2) fun q4 =>
  if q4.1 = 0 then
    cTop_follow_b16 n q4.2
  else
  bin_ x1 7 (
  bin_ x2 4 (
  if (sA q4.2 30 x1) = (sA q4.2 3 x2) then
    cTop_follow_b44 n n x1 x2 ci_0 q4.2
  else
  some (cb_m2, q4.2)))
def cj_fill_57_b5 (n : Nat) : Nat → Int32 → Int32 → Int32 → bS → Option bS
  | 0, _, _, _, _ => none
  | k + 1, x1, x2, x3, σ =>
  if x3 ≤ x2 then
    some σ
  else
  bin_ x2 96 (
  (cj_fill_57_b5 n k) x1 (x2 + ci_1) x3 (uA σ 57 x2 x1))
def cj_fill_57 (n : Nat) (x1 : Int32) (σ : bS) : Option bS :=
  cj_fill_57_b5 n n x1 ci_0 cn_96 σ
def cj_fill_58_b5 (n : Nat) : Nat → Int32 → Int32 → Int32 → bS → Option bS
  | 0, _, _, _, _ => none
  | k + 1, x1, x2, x3, σ =>
  if x3 ≤ x2 then
    some σ
  else
  bin_ x2 96 (
  (cj_fill_58_b5 n k) x1 (x2 + ci_1) x3 (uA σ 58 x2 x1))
def cj_fill_58 (n : Nat) (x1 : Int32) (σ : bS) : Option bS :=
  cj_fill_58_b5 n n x1 ci_0 cn_96 σ
def cWays_nearest_b45 (n : Nat) (r4 : Int32 → Int32 → bS → Option (Int32 × bS)) (x1 : Int32) (x2 : Int32) (σ : bS) : Option (Int32 × bS) :=
  r4 x1 (x2 + ci_1) σ
def cWays_nearest_b40 (n : Nat) (r4 : Int32 → Int32 → bS → Option (Int32 × bS)) (x1 : Int32) (x2 : Int32) (s0 : Int32) (s1 : Int32) (σ : bS) : Option (Int32 × bS) :=
  if s1 ≤ s0 then
    cWays_nearest_b45 n r4 x1 x2 σ
  else
  cWays_nearest_b45 n r4 x2 x2 σ
def cWays_nearest_b4 (n : Nat) : Nat → Int32 → Int32 → bS → Option (Int32 × bS)
  | 0, _, _, _ => none
  | k + 1, x1, x2, σ =>
  if cb_96 ≤ x2 then
    some (x1, σ)
  else
  bin_ x2 96 (
  if (sA σ 58 x2) = 0 then
    bin_ x2 96 (
    if 0 ≤ x1 then
      bin_ x1 96 (
      cWays_nearest_b40 n (cWays_nearest_b4 n k) x1 x2 (sA σ 57 x2) (sA σ 57 x1) σ)
    else
    cWays_nearest_b40 n (cWays_nearest_b4 n k) x1 x2 (sA σ 57 x2) (1073741824 : Int32) σ)
  else
  cWays_nearest_b45 n (cWays_nearest_b4 n k) x1 x2 σ)
def cWays_nearest (n : Nat) (σ : bS) : Option (Int32 × bS) :=
  cWays_nearest_b4 n n ci_m1 ci_0 σ
def cWays_come (n : Nat) (x1 : Int32) (x2 : Int32) (x3 : Int32) (σ : bS) : Option bS :=
  bin_ ((x1 * cb_16) + x2) 96 (
  ob (cj_min n (sA σ 57 ((x1 * cb_16) + x2)) x3 σ) fun q1 =>
  bin_ ((x1 * cb_16) + x2) 96 (
  some (uA q1.2 57 ((x1 * cb_16) + x2) q1.1)))
def cWays_goByPaths_1_b48 (n : Nat) (r2 : Int32 → Int32 → bS → Option bS) (x2 : Int32) (x3 : Int32) (σ : bS) : Option bS :=
  r2 x2 (x3 + ci_1) σ
def cWays_goByPaths_1_b2 (n : Nat) : Nat → Int32 → Int32 → bS → Option bS
  | 0, _, _, _ => none
  | k + 1, x2, x3, σ =>
  if (sI σ 1 0) ≤ x3 then
    some σ
  else
  if cb_16 = 0 then none else
  ob (cTold_pathHours n (x2 / cb_16) x3 σ) fun q1 =>
  if q1.1 ≤ 0 then
    cWays_goByPaths_1_b48 n (cWays_goByPaths_1_b2 n k) x2 x3 q1.2
  else
  if cb_16 = 0 then none else
  bin_ x2 96 (
  ob (cWays_come n x3 (brem x2 cb_16) ((sA q1.2 57 x2) + (q1.1 * cs_1024)) q1.2) fun q2 =>
  cWays_goByPaths_1_b48 n (cWays_goByPaths_1_b2 n k) x2 x3 q2)
def cWays_goByPaths_1 (n : Nat) (x2 : Int32) (σ : bS) : Option bS :=
  cWays_goByPaths_1_b2 n n x2 ci_0 σ
def cWays_goByBridges_1_28_b114 (n : Nat) (r23 : Int32 → Int32 → Int32 → Int32 → bS → Option bS) (x3 : Int32) (x4 : Int32) (x5 : Int32) (x6 : Int32) (σ : bS) : Option bS :=
  r23 x3 x4 x5 (x6 + ci_1) σ
def cWays_goByBridges_1_28_b89 (n : Nat) (r23 : Int32 → Int32 → Int32 → Int32 → bS → Option bS) : Nat → Int32 → Int32 → Int32 → Int32 → Int32 → bS → Option bS
  | 0, _, _, _, _, _, _ => none
  | k + 1, x3, x4, x5, x6, x7, σ =>
  if (sI σ 1 0) ≤ x7 then
    cWays_goByBridges_1_28_b114 n r23 x3 x4 x5 x6 σ
  else
  ob (cWays_come n x7 x5 x4 σ) fun q1 =>
  (cWays_goByBridges_1_28_b89 n r23 k) x3 x4 x5 x6 (x7 + ci_1) q1
def cWays_goByBridges_1_28_b23 (n : Nat) : Nat → Int32 → Int32 → Int32 → Int32 → bS → Option bS
  | 0, _, _, _, _, _ => none
  | k + 1, x3, x4, x5, x6, σ =>
  if (sI σ 1 2) ≤ x6 then
    some σ
  else
  bin_ x6 4 (
  if cb_16 = 0 then none else
  if (sA σ 3 x6) = (x3 / cb_16) then
    bin_ x6 4 (
    if 0 ≤ (sA σ 28 x6) then
      if ((x5 >>> (x6 &&& 31)) &&& ci_1) = 0 then
        bin_ x6 4 (
        ob (cWays_come n (sA σ 28 x6) (x5 ||| (ci_1 <<< (x6 &&& 31))) x4 σ) fun q2 =>
        cWays_goByBridges_1_28_b114 n (cWays_goByBridges_1_28_b23 n k) x3 x4 x5 x6 q2)
      else
      cWays_goByBridges_1_28_b89 n (cWays_goByBridges_1_28_b23 n k) n x3 x4 x5 x6 ci_0 σ
    else
    cWays_goByBridges_1_28_b114 n (cWays_goByBridges_1_28_b23 n k) x3 x4 x5 x6 σ)
  else
  cWays_goByBridges_1_28_b114 n (cWays_goByBridges_1_28_b23 n k) x3 x4 x5 x6 σ)
def cWays_goByBridges_1_28 (n : Nat) (x3 : Int32) (σ : bS) : Option bS :=
  bin_ x3 96 (
  if cb_16 = 0 then none else
  cWays_goByBridges_1_28_b23 n n x3 (((sA σ 57 x3) + cs_1024) + ci_1) (brem x3 cb_16) ci_0 σ)
def cWays_search_1_28_b30 (n : Nat) : Nat → Int32 → bS → Option bS
  | 0, _, _ => none
  | k + 1, x4, σ =>
  if cb_96 ≤ x4 then
    some σ
  else
  ob (cWays_nearest n σ) fun q1 =>
  if 0 ≤ q1.1 then
    bin_ q1.1 96 (
    ob (cWays_goByPaths_1 n q1.1 (uA q1.2 58 q1.1 ci_1)) fun q2 =>
    ob (cWays_goByBridges_1_28 n q1.1 q2) fun q3 =>
    (cWays_search_1_28_b30 n k) (x4 + ci_1) q3)
  else
  some q1.2
def cWays_search_1_28 (n : Nat) (x3 : Int32) (σ : bS) : Option bS :=
  ob (cj_fill_57 n (1073741824 : Int32) σ) fun q4 =>
  ob (cj_fill_58 n ci_0 q4) fun q5 =>
  bin_ (x3 * cb_16) 96 (
  cWays_search_1_28_b30 n n ci_0 (uA q5 57 (x3 * cb_16) ci_0))
def cWays_costTo_b5 (n : Nat) : Nat → Int32 → Int32 → Int32 → bS → Option (Int32 × bS)
  | 0, _, _, _, _ => none
  | k + 1, x1, x2, x3, σ =>
  if cb_16 ≤ x3 then
    some (x2, σ)
  else
  bin_ ((x1 * cb_16) + x3) 96 (
  ob (cj_min n x2 (sA σ 57 ((x1 * cb_16) + x3)) σ) fun q1 =>
  (cWays_costTo_b5 n k) x1 q1.1 (x3 + ci_1) q1.2)
def cWays_costTo (n : Nat) (x1 : Int32) (σ : bS) : Option (Int32 × bS) :=
  cWays_costTo_b5 n n x1 (1073741824 : Int32) ci_0 σ
def cWays_crossingsTo_b22 (n : Nat) (s0 : Int32) (σ : bS) : Option (Int32 × bS) :=
  some (s0, σ)
def cWays_crossingsTo (n : Nat) (x1 : Int32) (σ : bS) : Option (Int32 × bS) :=
  ob (cWays_costTo n x1 σ) fun q1 =>
  if q1.1 = (1073741824 : Int32) then
    cWays_crossingsTo_b22 n cb_m2 q1.2
  else
  if cs_1024 = 0 then none else
  cWays_crossingsTo_b22 n (brem q1.1 cs_1024) q1.2
def cWays_hoursTo_b22 (n : Nat) (s0 : Int32) (σ : bS) : Option (Int32 × bS) :=
  some (s0, σ)
def cWays_hoursTo (n : Nat) (x1 : Int32) (σ : bS) : Option (Int32 × bS) :=
  ob (cWays_costTo n x1 σ) fun q1 =>
  if q1.1 = (1073741824 : Int32) then
    cWays_hoursTo_b22 n cb_m2 q1.2
  else
  if cs_1024 = 0 then none else
  cWays_hoursTo_b22 n (q1.1 / cs_1024) q1.2
def cTop_way_b92 (n : Nat) (s0 : Int32) (σ : bS) : Option (Int32 × bS) :=
  some (s0, σ)
def cTop_way_b25 (n : Nat) (σ : bS) : Option (Int32 × bS) :=
  some (ci_m1, σ)
def cTop_way (n : Nat) (x1 : Int32) (x2 : Int32) (x3 : Int32) (σ : bS) : Option (Int32 × bS) :=
  ob (cTop_isMan n x1 σ) fun q1 =>
  if q1.1 = 0 then
    cTop_way_b25 n q1.2
  else
  ob (cTop_isBank n x2 q1.2) fun q2 =>
  if q2.1 = 0 then
    cTop_way_b25 n q2.2
  else
  if x3 < 0 then
    cTop_way_b25 n q2.2
  else
  if x3 ≤ ci_1 then
    bin_ x1 7 (
    if 0 ≤ (sA q2.2 30 x1) then
      bin_ x1 7 (
      ob (cWays_search_1_28 n (sA q2.2 30 x1) q2.2) fun q3 =>
      if x3 = 0 then
        ob (cWays_hoursTo n x2 q3) fun q4 =>
        cTop_way_b92 n q4.1 q4.2
      else
      ob (cWays_crossingsTo n x2 q3) fun q5 =>
      cTop_way_b92 n q5.1 q5.2)
    else
    some (cb_m2, q2.2))
  else
  cTop_way_b25 n q2.2
def cWays_within_1_b40 (n : Nat) (r5 : Int32 → Int32 → Int32 → bS → Option (Int32 × bS)) (x2 : Int32) (x3 : Int32) (x4 : Int32) (σ : bS) : Option (Int32 × bS) :=
  r5 x2 x3 (x4 + ci_1) σ
def cWays_within_1_b5 (n : Nat) : Nat → Int32 → Int32 → Int32 → bS → Option (Int32 × bS)
  | 0, _, _, _, _ => none
  | k + 1, x2, x3, x4, σ =>
  if (sI σ 1 0) ≤ x4 then
    some (x3, σ)
  else
  ob (cWays_hoursTo n x4 σ) fun q1 =>
  if q1.1 < 0 then
    cWays_within_1_b40 n (cWays_within_1_b5 n k) x2 x3 x4 q1.2
  else
  if x2 < q1.1 then
    cWays_within_1_b40 n (cWays_within_1_b5 n k) x2 x3 x4 q1.2
  else
  cWays_within_1_b40 n (cWays_within_1_b5 n k) x2 (x3 ||| (ci_1 <<< (x4 &&& 31))) x4 q1.2
def cWays_within_1 (n : Nat) (x2 : Int32) (σ : bS) : Option (Int32 × bS) :=
  cWays_within_1_b5 n n x2 ci_0 ci_0 σ
def cTop_reach_b18 (n : Nat) (σ : bS) : Option (Int32 × bS) :=
  some (ci_m1, σ)
def cTop_reach (n : Nat) (x1 : Int32) (x2 : Int32) (σ : bS) : Option (Int32 × bS) :=
  ob (cTop_isMan n x1 σ) fun q1 =>
  if q1.1 = 0 then
    cTop_reach_b18 n q1.2
  else
  if x2 < 0 then
    cTop_reach_b18 n q1.2
  else
  if x2 ≤ cb_99 then
    bin_ x1 7 (
    if 0 ≤ (sA q1.2 30 x1) then
      bin_ x1 7 (
      ob (cWays_search_1_28 n (sA q1.2 30 x1) q1.2) fun q2 =>
      ob (cWays_within_1 n x2 q2) fun q3 =>
      some (q3.1, q3.2))
    else
    some (cb_m2, q1.2))
  else
  cTop_reach_b18 n q1.2
def cTop_isSet_b22 (n : Nat) (s0 : Int32) (σ : bS) : Option (Int32 × bS) :=
  bz s0 σ
def cTop_isSet_b21 (n : Nat) (σ : bS) : Option (Int32 × bS) :=
  cTop_isSet_b22 n ci_0 σ
def cTop_isSet (n : Nat) (x1 : Int32) (σ : bS) : Option (Int32 × bS) :=
  if x1 ≤ 0 then
    cTop_isSet_b21 n σ
  else
  if (ci_1 <<< ((sI σ 1 3) &&& 31)) ≤ x1 then
    cTop_isSet_b21 n σ
  else
  cTop_isSet_b22 n ci_1 σ
def cTop_rowFault_b46 (n : Nat) (s0 : Int32) (σ : bS) : Option (Int32 × bS) :=
  some (s0, σ)
def cTop_rowFault_b16 (n : Nat) (σ : bS) : Option (Int32 × bS) :=
  some (ci_m1, σ)
def cTop_rowFault (n : Nat) (x1 : Int32) (x2 : Int32) (σ : bS) : Option (Int32 × bS) :=
  ob (cTop_isBridge n x1 σ) fun q1 =>
  if q1.1 = 0 then
    cTop_rowFault_b16 n q1.2
  else
  ob (cTop_isSet n x2 q1.2) fun q2 =>
  if q2.1 = 0 then
    cTop_rowFault_b16 n q2.2
  else
  bin_ x1 4 (
  ob (cGoing_menAt n (sA q2.2 3 x1) q2.2) fun q3 =>
  if (q3.1 &&& x2) = x2 then
    cTop_rowFault_b46 n ci_0 q3.2
  else
  cTop_rowFault_b46 n cb_m2 q3.2)
def cj_bitCount_b9 (n : Nat) (s0 : Int32) (σ : bS) : Option (Int32 × bS) :=
  some ((((((((s0 &&& (858993459 : Int32)) + ((bush s0 ci_2) &&& (858993459 : Int32))) + (bush ((s0 &&& (858993459 : Int32)) + ((bush s0 ci_2) &&& (858993459 : Int32))) ci_4)) &&& (252645135 : Int32)) + (bush ((((s0 &&& (858993459 : Int32)) + ((bush s0 ci_2) &&& (858993459 : Int32))) + (bush ((s0 &&& (858993459 : Int32)) + ((bush s0 ci_2) &&& (858993459 : Int32))) ci_4)) &&& (252645135 : Int32)) cb_8)) + (bush (((((s0 &&& (858993459 : Int32)) + ((bush s0 ci_2) &&& (858993459 : Int32))) + (bush ((s0 &&& (858993459 : Int32)) + ((bush s0 ci_2) &&& (858993459 : Int32))) ci_4)) &&& (252645135 : Int32)) + (bush ((((s0 &&& (858993459 : Int32)) + ((bush s0 ci_2) &&& (858993459 : Int32))) + (bush ((s0 &&& (858993459 : Int32)) + ((bush s0 ci_2) &&& (858993459 : Int32))) ci_4)) &&& (252645135 : Int32)) cb_8)) cb_16)) &&& cb_63), σ)
def cj_bitCount (n : Nat) (x0 : Int32) (σ : bS) : Option (Int32 × bS) :=
  cj_bitCount_b9 n (x0 - ((bush x0 ci_1) &&& (1431655765 : Int32))) σ
def cRows_wishCell (n : Nat) (x0 : Int32) (x1 : Int32) (x2 : Int32) (σ : bS) : Option (Int32 × bS) :=
  some ((((((x0 * cb_7) + x1) + ci_1) * cb_14) + x2), σ)
def cRows_prepare_b152 (n : Nat) (r56 : Int32 → Int32 → Int32 → bS → Option bS) (x4 : Int32) (x5 : Int32) (x6 : Int32) (σ : bS) : Option bS :=
  r56 x4 x5 (x6 + ci_1) σ
def cRows_prepare_b98 (n : Nat) (r56 : Int32 → Int32 → Int32 → bS → Option bS) (r67 : Int32 → Int32 → Int32 → Int32 → bS → Option bS) : Nat → Int32 → Int32 → Int32 → Int32 → Int32 → bS → Option bS
  | 0, _, _, _, _, _, _ => none
  | k + 1, x4, x5, x6, x7, x8, σ =>
  if x5 ≤ x8 then
    r67 x4 x5 x6 (x7 + ci_1) σ
  else
  ob (cRows_wishCell n x6 x7 x8 σ) fun q1 =>
  ob (cGoing_wishAs n x6 x7 ((sI q1.2 27 2) + x8) q1.2) fun q2 =>
  bin_ q1.1 686 (
  (cRows_prepare_b98 n r56 r67 k) x4 x5 x6 x7 (x8 + ci_1) (uA q2.2 60 q1.1 q2.1))
def cRows_prepare_b67 (n : Nat) (r56 : Int32 → Int32 → Int32 → bS → Option bS) : Nat → Int32 → Int32 → Int32 → Int32 → bS → Option bS
  | 0, _, _, _, _, _ => none
  | k + 1, x4, x5, x6, x7, σ =>
  if (sI σ 1 0) ≤ x7 then
    cRows_prepare_b152 n r56 x4 x5 x6 σ
  else
  if (((sI σ 59 10) >>> (x6 &&& 31)) &&& ci_1) = ci_1 then
    cRows_prepare_b98 n r56 (cRows_prepare_b67 n r56 k) n x4 x5 x6 x7 ci_0 σ
  else
  cRows_prepare_b152 n r56 x4 x5 x6 σ
def cRows_prepare_b56 (n : Nat) : Nat → Int32 → Int32 → Int32 → bS → Option bS
  | 0, _, _, _, _ => none
  | k + 1, x4, x5, x6, σ =>
  if cb_7 ≤ x6 then
    some σ
  else
  cRows_prepare_b67 n (cRows_prepare_b56 n k) n x4 x5 x6 x4 σ
def cRows_prepare_b38 (n : Nat) (x3 : Int32) (s0 : Int32) (σ : bS) : Option bS :=
  ob (cj_min n cb_14 ((sI σ 59 11) * x3) σ) fun q3 =>
  cRows_prepare_b56 n n s0 q3.1 ci_0 q3.2
def cRows_prepare (n : Nat) (x1 : Int32) (x2 : Int32) (x3 : Int32) (σ : bS) : Option bS :=
  ob (cj_bitCount n x2 (uI σ 59 10 x2)) fun q4 =>
  bin_ x1 4 (
  if 0 ≤ (sI (uI (uI q4.2 59 11 q4.1) 59 12 (sA (uI q4.2 59 11 q4.1) 28 x1)) 59 12) then
    cRows_prepare_b38 n x3 ci_0 (uI (uI q4.2 59 11 q4.1) 59 12 (sA (uI q4.2 59 11 q4.1) 28 x1))
  else
  cRows_prepare_b38 n x3 ci_m1 (uI (uI q4.2 59 11 q4.1) 59 12 (sA (uI q4.2 59 11 q4.1) 28 x1)))
def cj_fill_61_b5 (n : Nat) : Nat → Int32 → Int32 → Int32 → bS → Option bS
  | 0, _, _, _, _ => none
  | k + 1, x1, x2, x3, σ =>
  if x3 ≤ x2 then
    some σ
  else
  bin_ x2 1792 (
  (cj_fill_61_b5 n k) x1 (x2 + ci_1) x3 (uA σ 61 x2 x1))
def cj_fill_61 (n : Nat) (x1 : Int32) (σ : bS) : Option bS :=
  cj_fill_61_b5 n n x1 ci_0 cn_1792 σ
def cRows_spotOf (n : Nat) (x0 : Int32) (x1 : Int32) (σ : bS) : Option (Int32 × bS) :=
  some ((((x0 + ci_1) * ci_2) + x1), σ)
def cRows_isSubset_b16 (n : Nat) (s0 : Int32) (σ : bS) : Option (Int32 × bS) :=
  bz s0 σ
def cRows_isSubset (n : Nat) (x1 : Int32) (σ : bS) : Option (Int32 × bS) :=
  if (x1 &&& ((sI σ 59 10) ^^^ ci_m1)) = 0 then
    cRows_isSubset_b16 n ci_1 σ
  else
  cRows_isSubset_b16 n ci_0 σ
def cRows_isLeft_b20 (n : Nat) (s0 : Int32) (σ : bS) : Option (Int32 × bS) :=
  bz s0 σ
def cRows_isLeft (n : Nat) (x1 : Int32) (x2 : Int32) (σ : bS) : Option (Int32 × bS) :=
  if (((sI σ 59 10) &&& (x2 ^^^ ci_m1)) &&& (ci_1 <<< (x1 &&& 31))) = 0 then
    cRows_isLeft_b20 n ci_0 σ
  else
  cRows_isLeft_b20 n ci_1 σ
def cRows_homeOf (n : Nat) (x1 : Int32) (σ : bS) : Option (Int32 × bS) :=
  bin_ x1 7 (
  some ((sA σ 6 x1), σ))
def cRows_wishAt (n : Nat) (x1 : Int32) (x2 : Int32) (x3 : Int32) (σ : bS) : Option (Int32 × bS) :=
  ob (cRows_wishCell n x1 x2 x3 σ) fun q1 =>
  bin_ q1.1 686 (
  some ((sA q1.2 60 q1.1), q1.2))
def cRows_allLiveAt_b28 (n : Nat) (r2 : Int32 → Int32 → Int32 → bS → Option (Int32 × bS)) (x1 : Int32) (x2 : Int32) (x3 : Int32) (σ : bS) : Option (Int32 × bS) :=
  r2 x1 x2 (x3 + ci_1) σ
def cRows_allLiveAt_b2 (n : Nat) : Nat → Int32 → Int32 → Int32 → bS → Option (Int32 × bS)
  | 0, _, _, _, _ => none
  | k + 1, x1, x2, x3, σ =>
  if cb_7 ≤ x3 then
    bz ci_1 σ
  else
  if ((x1 >>> (x3 &&& 31)) &&& ci_1) = ci_1 then
    ob (cRows_homeOf n x3 σ) fun q1 =>
    if q1.1 = x2 then
      cRows_allLiveAt_b28 n (cRows_allLiveAt_b2 n k) x1 x2 x3 q1.2
    else
    bz ci_0 q1.2
  else
  cRows_allLiveAt_b28 n (cRows_allLiveAt_b2 n k) x1 x2 x3 σ
def cRows_allLiveAt (n : Nat) (x1 : Int32) (x2 : Int32) (σ : bS) : Option (Int32 × bS) :=
  cRows_allLiveAt_b2 n n x1 x2 ci_0 σ
def cRows_spotAfter_b74 (n : Nat) (s0 : Int32) (s1 : Int32) (σ : bS) : Option (Int32 × bS) :=
  ob (cRows_spotOf n s0 s1 σ) fun q1 =>
  some (q1.1, q1.2)
def cRows_spotAfter_b64 (n : Nat) (x5 : Int32) (s0 : Int32) (σ : bS) : Option (Int32 × bS) :=
  if 0 ≤ x5 then
    cRows_spotAfter_b74 n s0 ci_0 σ
  else
  cRows_spotAfter_b74 n s0 ci_1 σ
def cRows_spotAfter_b41 (n : Nat) (x3 : Int32) (x4 : Int32) (x5 : Int32) (σ : bS) : Option (Int32 × bS) :=
  ob (cRows_wishAt n x3 x5 x4 σ) fun q2 =>
  if 0 ≤ q2.1 then
    cRows_spotAfter_b64 n x5 q2.1 q2.2
  else
  cRows_spotAfter_b64 n x5 x5 q2.2
def cRows_spotAfter_b39 (n : Nat) (σ : bS) : Option (Int32 × bS) :=
  some (ci_m1, σ)
def cRows_spotAfter_b5 (n : Nat) (x1 : Int32) (x2 : Int32) (x3 : Int32) (x4 : Int32) (s0 : Int32) (σ : bS) : Option (Int32 × bS) :=
  if s0 < 0 then
    cRows_spotAfter_b41 n x3 x4 s0 σ
  else
  ob (cRows_homeOf n x3 σ) fun q3 =>
  if q3.1 = s0 then
    if ci_2 = 0 then none else
    if (brem x2 ci_2) = ci_1 then
      ob (cRows_allLiveAt n x1 s0 q3.2) fun q4 =>
      if q4.1 = 0 then
        cRows_spotAfter_b39 n q4.2
      else
      cRows_spotAfter_b41 n x3 x4 s0 q4.2
    else
    cRows_spotAfter_b41 n x3 x4 s0 q3.2
  else
  cRows_spotAfter_b39 n q3.2
def cRows_spotAfter (n : Nat) (x1 : Int32) (x2 : Int32) (x3 : Int32) (x4 : Int32) (σ : bS) : Option (Int32 × bS) :=
  if ci_2 = 0 then none else
  cRows_spotAfter_b5 n x1 x2 x3 x4 ((x2 / ci_2) - ci_1) σ
def cRows_passOrdersOn_b69 (n : Nat) (r2 : Int32 → Int32 → Int32 → bS → Option bS) (x1 : Int32) (x2 : Int32) (x3 : Int32) (σ : bS) : Option bS :=
  r2 x1 x2 (x3 + ci_1) σ
def cRows_passOrdersOn_b32 (n : Nat) (r2 : Int32 → Int32 → Int32 → bS → Option bS) (x1 : Int32) (x2 : Int32) (x3 : Int32) (s0 : Int32) (σ : bS) : Option bS :=
  if s0 < 0 then
    cRows_passOrdersOn_b69 n r2 x1 x2 x3 σ
  else
  bin_ (((x1 ||| (ci_1 <<< (x3 &&& 31))) * cb_14) + s0) 1792 (
  bin_ ((x1 * cb_14) + x2) 1792 (
  bin_ (((x1 ||| (ci_1 <<< (x3 &&& 31))) * cb_14) + s0) 1792 (
  cRows_passOrdersOn_b69 n r2 x1 x2 x3 (uA σ 61 (((x1 ||| (ci_1 <<< (x3 &&& 31))) * cb_14) + s0) ((sA σ 61 (((x1 ||| (ci_1 <<< (x3 &&& 31))) * cb_14) + s0)) + (sA σ 61 ((x1 * cb_14) + x2)))))))
def cRows_passOrdersOn_b2 (n : Nat) : Nat → Int32 → Int32 → Int32 → bS → Option bS
  | 0, _, _, _, _ => none
  | k + 1, x1, x2, x3, σ =>
  if cb_7 ≤ x3 then
    some σ
  else
  ob (cRows_isLeft n x3 x1 σ) fun q1 =>
  if q1.1 = 0 then
    cRows_passOrdersOn_b32 n (cRows_passOrdersOn_b2 n k) x1 x2 x3 ci_m1 q1.2
  else
  ob (cj_bitCount n x1 q1.2) fun q2 =>
  ob (cRows_spotAfter n x1 x2 x3 q2.1 q2.2) fun q3 =>
  cRows_passOrdersOn_b32 n (cRows_passOrdersOn_b2 n k) x1 x2 x3 q3.1 q3.2
def cRows_passOrdersOn (n : Nat) (x1 : Int32) (x2 : Int32) (σ : bS) : Option bS :=
  cRows_passOrdersOn_b2 n n x1 x2 ci_0 σ
def cRows_countOrders_b84 (n : Nat) : Nat → Int32 → Int32 → bS → Option (Int32 × bS)
  | 0, _, _, _ => none
  | k + 1, x1, x2, σ =>
  if cb_14 ≤ x2 then
    some (x1, σ)
  else
  bin_ (((sI σ 59 10) * cb_14) + x2) 1792 (
  (cRows_countOrders_b84 n k) (x1 + (sA σ 61 (((sI σ 59 10) * cb_14) + x2))) (x2 + ci_2) σ)
def cRows_countOrders_b74 (n : Nat) (r24 : Int32 → bS → Option (Int32 × bS)) (x1 : Int32) (σ : bS) : Option (Int32 × bS) :=
  r24 (x1 + ci_1) σ
def cRows_countOrders_b68 (n : Nat) (r24 : Int32 → bS → Option (Int32 × bS)) (r34 : Int32 → Int32 → bS → Option (Int32 × bS)) (x1 : Int32) (x2 : Int32) (σ : bS) : Option (Int32 × bS) :=
  r34 x1 (x2 + ci_1) σ
def cRows_countOrders_b34 (n : Nat) (r24 : Int32 → bS → Option (Int32 × bS)) : Nat → Int32 → Int32 → bS → Option (Int32 × bS)
  | 0, _, _, _ => none
  | k + 1, x1, x2, σ =>
  if cb_14 ≤ x2 then
    cRows_countOrders_b74 n r24 x1 σ
  else
  ob (cRows_isSubset n x1 σ) fun q1 =>
  if q1.1 = 0 then
    cRows_countOrders_b74 n r24 x1 q1.2
  else
  bin_ ((x1 * cb_14) + x2) 1792 (
  if (sA q1.2 61 ((x1 * cb_14) + x2)) ≤ 0 then
    cRows_countOrders_b68 n r24 (cRows_countOrders_b34 n r24 k) x1 x2 q1.2
  else
  ob (cRows_passOrdersOn n x1 x2 q1.2) fun q2 =>
  cRows_countOrders_b68 n r24 (cRows_countOrders_b34 n r24 k) x1 x2 q2)
def cRows_countOrders_b24 (n : Nat) : Nat → Int32 → bS → Option (Int32 × bS)
  | 0, _, _ => none
  | k + 1, x1, σ =>
  if (sI σ 59 10) ≤ x1 then
    cRows_countOrders_b84 n n ci_0 ci_0 σ
  else
  cRows_countOrders_b34 n (cRows_countOrders_b24 n k) n x1 ci_0 σ
def cRows_countOrders (n : Nat) (σ : bS) : Option (Int32 × bS) :=
  ob (cj_fill_61 n ci_0 σ) fun q3 =>
  ob (cRows_spotOf n (sI q3 59 12) ci_0 q3) fun q4 =>
  bin_ q4.1 1792 (
  cRows_countOrders_b24 n n ci_0 (uA q4.2 61 q4.1 ci_1))
def cTop_orders (n : Nat) (x1 : Int32) (x2 : Int32) (σ : bS) : Option (Int32 × bS) :=
  ob (cTop_rowFault n x1 x2 σ) fun q1 =>
  if q1.1 = 0 then
    ob (cRows_prepare n x1 x2 ci_1 q1.2) fun q2 =>
    ob (cRows_countOrders n q2) fun q3 =>
    some (q3.1, q3.2)
  else
  some (q1.1, q1.2)
def cj_fill_62_b5 (n : Nat) : Nat → Int32 → Int32 → Int32 → bS → Option bS
  | 0, _, _, _, _ => none
  | k + 1, x1, x2, x3, σ =>
  if x3 ≤ x2 then
    some σ
  else
  bin_ x2 1024 (
  (cj_fill_62_b5 n k) x1 (x2 + ci_1) x3 (uA σ 62 x2 x1))
def cj_fill_62 (n : Nat) (x1 : Int32) (σ : bS) : Option bS :=
  cj_fill_62_b5 n n x1 ci_0 cn_1024 σ
def cRows_spotFree (n : Nat) (x1 : Int32) (x2 : Int32) (x3 : Int32) (x4 : Int32) (σ : bS) : Option (Int32 × bS) :=
  ob (cj_bitCount n x1 σ) fun q1 =>
  ob (cRows_spotAfter n x1 x2 x4 (q1.1 + x3) q1.2) fun q2 =>
  some (q2.1, q2.2)
def cRows_spotPaid (n : Nat) (x1 : Int32) (x2 : Int32) (x3 : Int32) (x4 : Int32) (σ : bS) : Option (Int32 × bS) :=
  ob (cRows_homeOf n x4 σ) fun q1 =>
  if ci_2 = 0 then none else
  ob (cRows_spotOf n q1.1 (brem x2 ci_2) q1.2) fun q2 =>
  ob (cj_bitCount n x1 q2.2) fun q3 =>
  ob (cRows_spotAfter n x1 q2.1 x4 ((q3.1 + x3) + ci_1) q3.2) fun q4 =>
  some (q4.1, q4.2)
def cRows_spread_b108 (n : Nat) (r3 : Int32 → Int32 → Int32 → Int32 → Int32 → bS → Option bS) (x1 : Int32) (x2 : Int32) (x3 : Int32) (x4 : Int32) (x5 : Int32) (σ : bS) : Option bS :=
  r3 x1 x2 x3 x4 (x5 + ci_1) σ
def cRows_spread_b85 (n : Nat) (r3 : Int32 → Int32 → Int32 → Int32 → Int32 → bS → Option bS) (x1 : Int32) (x2 : Int32) (x3 : Int32) (x4 : Int32) (x5 : Int32) (x6 : Int32) (s0 : Int32) (σ : bS) : Option bS :=
  if s0 < 0 then
    cRows_spread_b108 n r3 x1 x2 x3 x4 x5 σ
  else
  bin_ (x6 + ci_1) 1024 (
  bin_ (x6 + ci_1) 1024 (
  cRows_spread_b108 n r3 x1 x2 x3 x4 x5 (uA σ 62 (x6 + ci_1) ((sA σ 62 (x6 + ci_1)) ||| (ci_1 <<< (s0 &&& 31))))))
def cRows_spread_b66 (n : Nat) (r3 : Int32 → Int32 → Int32 → Int32 → Int32 → bS → Option bS) (x1 : Int32) (x2 : Int32) (x3 : Int32) (x4 : Int32) (x5 : Int32) (x6 : Int32) (σ : bS) : Option bS :=
  if x4 ≤ x3 then
    cRows_spread_b85 n r3 x1 x2 x3 x4 x5 x6 ci_m1 σ
  else
  ob (cRows_spotPaid n x1 x2 x3 x5 σ) fun q1 =>
  cRows_spread_b85 n r3 x1 x2 x3 x4 x5 x6 q1.1 q1.2
def cRows_spread_b3 (n : Nat) : Nat → Int32 → Int32 → Int32 → Int32 → Int32 → bS → Option bS
  | 0, _, _, _, _, _, _ => none
  | k + 1, x1, x2, x3, x4, x5, σ =>
  if cb_7 ≤ x5 then
    some σ
  else
  ob (cRows_isLeft n x5 x1 σ) fun q2 =>
  if q2.1 = 0 then
    cRows_spread_b108 n (cRows_spread_b3 n k) x1 x2 x3 x4 x5 q2.2
  else
  ob (cRows_spotFree n x1 x2 x3 x5 q2.2) fun q3 =>
  if q3.1 < 0 then
    cRows_spread_b66 n (cRows_spread_b3 n k) x1 x2 x3 x4 x5 (((x1 ||| (ci_1 <<< (x5 &&& 31))) * cb_8) + x3) q3.2
  else
  bin_ (((x1 ||| (ci_1 <<< (x5 &&& 31))) * cb_8) + x3) 1024 (
  bin_ (((x1 ||| (ci_1 <<< (x5 &&& 31))) * cb_8) + x3) 1024 (
  cRows_spread_b66 n (cRows_spread_b3 n k) x1 x2 x3 x4 x5 (((x1 ||| (ci_1 <<< (x5 &&& 31))) * cb_8) + x3) (uA q3.2 62 (((x1 ||| (ci_1 <<< (x5 &&& 31))) * cb_8) + x3) ((sA q3.2 62 (((x1 ||| (ci_1 <<< (x5 &&& 31))) * cb_8) + x3)) ||| (ci_1 <<< (q3.1 &&& 31))))))
def cRows_spread (n : Nat) (x1 : Int32) (x2 : Int32) (x3 : Int32) (x4 : Int32) (σ : bS) : Option bS :=
  cRows_spread_b3 n n x1 x2 x3 x4 ci_0 σ
def cRows_fewestWishers_b94 (n : Nat) (r26 : Int32 → Int32 → bS → Option (Int32 × bS)) (r33 : Int32 → Int32 → Int32 → bS → Option (Int32 × bS)) (x1 : Int32) (x2 : Int32) (x3 : Int32) (σ : bS) : Option (Int32 × bS) :=
  r33 x1 x2 (x3 + ci_1) σ
def cRows_fewestWishers_b88 (n : Nat) (r26 : Int32 → Int32 → bS → Option (Int32 × bS)) (r33 : Int32 → Int32 → Int32 → bS → Option (Int32 × bS)) (r44 : Int32 → Int32 → Int32 → Int32 → bS → Option (Int32 × bS)) (x1 : Int32) (x2 : Int32) (x3 : Int32) (x4 : Int32) (σ : bS) : Option (Int32 × bS) :=
  r44 x1 x2 x3 (x4 + ci_1) σ
def cRows_fewestWishers_b44 (n : Nat) (r26 : Int32 → Int32 → bS → Option (Int32 × bS)) (r33 : Int32 → Int32 → Int32 → bS → Option (Int32 × bS)) : Nat → Int32 → Int32 → Int32 → Int32 → bS → Option (Int32 × bS)
  | 0, _, _, _, _, _ => none
  | k + 1, x1, x2, x3, x4, σ =>
  if cb_14 ≤ x4 then
    cRows_fewestWishers_b94 n r26 r33 x1 x2 x3 σ
  else
  ob (cRows_isSubset n x3 σ) fun q1 =>
  if q1.1 = 0 then
    cRows_fewestWishers_b94 n r26 r33 x1 x2 x3 q1.2
  else
  bin_ ((x3 * cb_8) + x2) 1024 (
  if (((sA q1.2 62 ((x3 * cb_8) + x2)) >>> (x4 &&& 31)) &&& ci_1) = ci_1 then
    ob (cRows_spread n x3 x4 x2 x1 q1.2) fun q2 =>
    cRows_fewestWishers_b88 n r26 r33 (cRows_fewestWishers_b44 n r26 r33 k) x1 x2 x3 x4 q2
  else
  cRows_fewestWishers_b88 n r26 r33 (cRows_fewestWishers_b44 n r26 r33 k) x1 x2 x3 x4 q1.2)
def cRows_fewestWishers_b33 (n : Nat) (r26 : Int32 → Int32 → bS → Option (Int32 × bS)) : Nat → Int32 → Int32 → Int32 → bS → Option (Int32 × bS)
  | 0, _, _, _, _ => none
  | k + 1, x1, x2, x3, σ =>
  if (sI σ 59 10) ≤ x3 then
    bin_ (((sI σ 59 10) * cb_8) + x2) 1024 (
    if ((sA σ 62 (((sI σ 59 10) * cb_8) + x2)) &&& cs_5461) = 0 then
      r26 x1 (x2 + ci_1) σ
    else
    some (x2, σ))
  else
  cRows_fewestWishers_b44 n r26 (cRows_fewestWishers_b33 n r26 k) n x1 x2 x3 ci_0 σ
def cRows_fewestWishers_b26 (n : Nat) : Nat → Int32 → Int32 → bS → Option (Int32 × bS)
  | 0, _, _, _ => none
  | k + 1, x1, x2, σ =>
  if x1 < x2 then
    some ((x1 + ci_1), σ)
  else
  cRows_fewestWishers_b33 n (cRows_fewestWishers_b26 n k) n x1 x2 ci_0 σ
def cRows_fewestWishers (n : Nat) (x1 : Int32) (σ : bS) : Option (Int32 × bS) :=
  ob (cj_fill_62 n ci_0 σ) fun q3 =>
  ob (cRows_spotOf n (sI q3 59 12) ci_0 q3) fun q4 =>
  bin_ ci_0 1024 (
  cRows_fewestWishers_b26 n n x1 ci_0 (uA q4.2 62 ci_0 (ci_1 <<< (q4.1 &&& 31))))
def cRows_isHopeful_b142 (n : Nat) (r29 : Int32 → Int32 → Int32 → Int32 → Int32 → bS → Option (Int32 × bS)) (x1 : Int32) (x2 : Int32) (x3 : Int32) (x4 : Int32) (x5 : Int32) (σ : bS) : Option (Int32 × bS) :=
  r29 x1 x2 x3 x4 (x5 + ci_1) σ
def cRows_isHopeful_b115 (n : Nat) (r29 : Int32 → Int32 → Int32 → Int32 → Int32 → bS → Option (Int32 × bS)) (x1 : Int32) (x2 : Int32) (x3 : Int32) (x4 : Int32) (x5 : Int32) (x6 : Int32) (s0 : Int32) (σ : bS) : Option (Int32 × bS) :=
  if s0 < 0 then
    cRows_isHopeful_b142 n r29 x1 x2 x3 x4 x5 σ
  else
  bin_ (x6 + ci_1) 1024 (
  if (((sA σ 63 (x6 + ci_1)) >>> (s0 &&& 31)) &&& ci_1) = ci_1 then
    bz ci_1 σ
  else
  cRows_isHopeful_b142 n r29 x1 x2 x3 x4 x5 σ)
def cRows_isHopeful_b96 (n : Nat) (r29 : Int32 → Int32 → Int32 → Int32 → Int32 → bS → Option (Int32 × bS)) (x1 : Int32) (x2 : Int32) (x3 : Int32) (x4 : Int32) (x5 : Int32) (x6 : Int32) (σ : bS) : Option (Int32 × bS) :=
  if x4 ≤ x3 then
    cRows_isHopeful_b115 n r29 x1 x2 x3 x4 x5 x6 ci_m1 σ
  else
  ob (cRows_spotPaid n x1 x2 x3 x5 σ) fun q1 =>
  cRows_isHopeful_b115 n r29 x1 x2 x3 x4 x5 x6 q1.1 q1.2
def cRows_isHopeful_b29 (n : Nat) : Nat → Int32 → Int32 → Int32 → Int32 → Int32 → bS → Option (Int32 × bS)
  | 0, _, _, _, _, _, _ => none
  | k + 1, x1, x2, x3, x4, x5, σ =>
  if cb_7 ≤ x5 then
    bz ci_0 σ
  else
  ob (cRows_isLeft n x5 x1 σ) fun q2 =>
  if q2.1 = 0 then
    cRows_isHopeful_b142 n (cRows_isHopeful_b29 n k) x1 x2 x3 x4 x5 q2.2
  else
  ob (cRows_spotFree n x1 x2 x3 x5 q2.2) fun q3 =>
  if q3.1 < 0 then
    cRows_isHopeful_b96 n (cRows_isHopeful_b29 n k) x1 x2 x3 x4 x5 (((x1 ||| (ci_1 <<< (x5 &&& 31))) * cb_8) + x3) q3.2
  else
  bin_ (((x1 ||| (ci_1 <<< (x5 &&& 31))) * cb_8) + x3) 1024 (
  if (((sA q3.2 63 (((x1 ||| (ci_1 <<< (x5 &&& 31))) * cb_8) + x3)) >>> (q3.1 &&& 31)) &&& ci_1) = ci_1 then
    bz ci_1 q3.2
  else
  cRows_isHopeful_b96 n (cRows_isHopeful_b29 n k) x1 x2 x3 x4 x5 (((x1 ||| (ci_1 <<< (x5 &&& 31))) * cb_8) + x3) q3.2)
def cRows_isHopeful_b25 (n : Nat) (s0 : Int32) (σ : bS) : Option (Int32 × bS) :=
  bz s0 σ
def cRows_isHopeful_b24 (n : Nat) (σ : bS) : Option (Int32 × bS) :=
  cRows_isHopeful_b25 n ci_0 σ
def cRows_isHopeful (n : Nat) (x1 : Int32) (x2 : Int32) (x3 : Int32) (x4 : Int32) (σ : bS) : Option (Int32 × bS) :=
  if x1 = (sI σ 59 10) then
    if x3 = x4 then
      if ci_2 = 0 then none else
      if (brem x2 ci_2) = 0 then
        cRows_isHopeful_b25 n ci_1 σ
      else
      cRows_isHopeful_b24 n σ
    else
    cRows_isHopeful_b24 n σ
  else
  cRows_isHopeful_b29 n n x1 x2 x3 x4 ci_0 σ
def cRows_findHopeful_b121 (n : Nat) (r5 : Int32 → Int32 → bS → Option bS) (x1 : Int32) (x2 : Int32) (σ : bS) : Option bS :=
  r5 x1 x2 σ
def cRows_findHopeful_b118 (n : Nat) (r5 : Int32 → Int32 → bS → Option bS) (x1 : Int32) (x2 : Int32) (σ : bS) : Option bS :=
  cRows_findHopeful_b121 n r5 x1 (x2 + ci_m1) σ
def cRows_findHopeful_b115 (n : Nat) (r5 : Int32 → Int32 → bS → Option bS) (r11 : Int32 → Int32 → Int32 → bS → Option bS) (x1 : Int32) (x2 : Int32) (x3 : Int32) (σ : bS) : Option bS :=
  r11 x1 x2 x3 σ
def cRows_findHopeful_b90 (n : Nat) (r5 : Int32 → Int32 → bS → Option bS) (r11 : Int32 → Int32 → Int32 → bS → Option bS) (r29 : Int32 → Int32 → Int32 → Int32 → Int32 → bS → Option bS) (x1 : Int32) (x2 : Int32) (x3 : Int32) (x5 : Int32) (s0 : Int32) (s1 : Int32) (σ : bS) : Option bS :=
  r29 x1 x2 x3 (s0 ||| s1) (x5 + ci_1) σ
def cRows_findHopeful_b89 (n : Nat) (r5 : Int32 → Int32 → bS → Option bS) (r11 : Int32 → Int32 → Int32 → bS → Option bS) (r29 : Int32 → Int32 → Int32 → Int32 → Int32 → bS → Option bS) (x1 : Int32) (x2 : Int32) (x3 : Int32) (x5 : Int32) (s0 : Int32) (σ : bS) : Option bS :=
  cRows_findHopeful_b90 n r5 r11 r29 x1 x2 x3 x5 s0 ci_0 σ
def cRows_findHopeful_b61 (n : Nat) (r5 : Int32 → Int32 → bS → Option bS) (r11 : Int32 → Int32 → Int32 → bS → Option bS) (r29 : Int32 → Int32 → Int32 → Int32 → Int32 → bS → Option bS) (x1 : Int32) (x2 : Int32) (x3 : Int32) (x4 : Int32) (x5 : Int32) (s0 : Int32) (σ : bS) : Option bS :=
  if s0 = 0 then
    cRows_findHopeful_b89 n r5 r11 r29 x1 x2 x3 x5 x4 σ
  else
  ob (cRows_isHopeful n x2 x5 x3 x1 σ) fun q1 =>
  if q1.1 = 0 then
    cRows_findHopeful_b89 n r5 r11 r29 x1 x2 x3 x5 x4 q1.2
  else
  cRows_findHopeful_b90 n r5 r11 r29 x1 x2 x3 x5 x4 (ci_1 <<< (x5 &&& 31)) q1.2
def cRows_findHopeful_b29 (n : Nat) (r5 : Int32 → Int32 → bS → Option bS) (r11 : Int32 → Int32 → Int32 → bS → Option bS) : Nat → Int32 → Int32 → Int32 → Int32 → Int32 → bS → Option bS
  | 0, _, _, _, _, _, _ => none
  | k + 1, x1, x2, x3, x4, x5, σ =>
  if cb_14 ≤ x5 then
    bin_ ((x2 * cb_8) + x3) 1024 (
    cRows_findHopeful_b115 n r5 r11 x1 x2 (x3 + ci_m1) (uA σ 63 ((x2 * cb_8) + x3) x4))
  else
  bin_ ((x2 * cb_8) + x3) 1024 (
  if (((sA σ 62 ((x2 * cb_8) + x3)) >>> (x5 &&& 31)) &&& ci_1) = ci_1 then
    cRows_findHopeful_b61 n r5 r11 (cRows_findHopeful_b29 n r5 r11 k) x1 x2 x3 x4 x5 ci_1 σ
  else
  cRows_findHopeful_b61 n r5 r11 (cRows_findHopeful_b29 n r5 r11 k) x1 x2 x3 x4 x5 ci_0 σ)
def cRows_findHopeful_b11 (n : Nat) (r5 : Int32 → Int32 → bS → Option bS) : Nat → Int32 → Int32 → Int32 → bS → Option bS
  | 0, _, _, _, _ => none
  | k + 1, x1, x2, x3, σ =>
  if x3 < 0 then
    cRows_findHopeful_b118 n r5 x1 x2 σ
  else
  ob (cRows_isSubset n x2 σ) fun q2 =>
  if q2.1 = 0 then
    cRows_findHopeful_b118 n r5 x1 x2 q2.2
  else
  cRows_findHopeful_b29 n r5 (cRows_findHopeful_b11 n r5 k) n x1 x2 x3 ci_0 ci_0 q2.2
def cRows_findHopeful_b5 (n : Nat) : Nat → Int32 → Int32 → bS → Option bS
  | 0, _, _, _ => none
  | k + 1, x1, x2, σ =>
  if x2 < 0 then
    some σ
  else
  cRows_findHopeful_b11 n (cRows_findHopeful_b5 n k) n x1 x2 x1 σ
def cRows_findHopeful (n : Nat) (x1 : Int32) (σ : bS) : Option bS :=
  cRows_findHopeful_b5 n n x1 (sI σ 59 10) σ
def cRows_leadsOn_b143 (n : Nat) (s0 : Int32) (σ : bS) : Option (Int32 × bS) :=
  bz s0 σ
def cRows_leadsOn_b97 (n : Nat) (r23 : Int32 → Int32 → Int32 → Int32 → Int32 → Int32 → bS → Option (Int32 × bS)) (x1 : Int32) (x2 : Int32) (x3 : Int32) (x4 : Int32) (x5 : Int32) (x6 : Int32) (x7 : Int32) (σ : bS) : Option (Int32 × bS) :=
  if 0 ≤ x5 then
    r23 x1 x2 (x3 ||| (ci_1 <<< (x7 &&& 31))) x4 x5 (x6 + ci_1) σ
  else
  bz ci_0 σ
def cRows_leadsOn_b45 (n : Nat) (r23 : Int32 → Int32 → Int32 → Int32 → Int32 → Int32 → bS → Option (Int32 × bS)) (x1 : Int32) (x2 : Int32) (x3 : Int32) (x4 : Int32) (x5 : Int32) (x6 : Int32) (x7 : Int32) (s0 : Int32) (s1 : Int32) (σ : bS) : Option (Int32 × bS) :=
  if ((s0 >>> (s1 &&& 31)) &&& ci_1) = ci_1 then
    ob (cRows_spotPaid n x3 x5 x4 x7 σ) fun q1 =>
    cRows_leadsOn_b97 n r23 x1 x2 x3 (x4 + ci_1) q1.1 x6 x7 (uI q1.2 59 9 ((sI q1.2 59 9) ||| (ci_1 <<< (x6 &&& 31))))
  else
  ob (cRows_spotFree n x3 x5 x4 x7 σ) fun q2 =>
  cRows_leadsOn_b97 n r23 x1 x2 x3 x4 q2.1 x6 x7 q2.2
def cRows_leadsOn_b42 (n : Nat) (r23 : Int32 → Int32 → Int32 → Int32 → Int32 → Int32 → bS → Option (Int32 × bS)) (x1 : Int32) (x2 : Int32) (x3 : Int32) (x4 : Int32) (x5 : Int32) (x6 : Int32) (x7 : Int32) (s0 : Int32) (s1 : Int32) (σ : bS) : Option (Int32 × bS) :=
  cRows_leadsOn_b45 n r23 x1 x2 x3 x4 x5 x6 x7 s0 (s1 - x6) σ
def cRows_leadsOn_b23 (n : Nat) : Nat → Int32 → Int32 → Int32 → Int32 → Int32 → Int32 → bS → Option (Int32 × bS)
  | 0, _, _, _, _, _, _, _ => none
  | k + 1, x1, x2, x3, x4, x5, x6, σ =>
  if x1 ≤ x6 then
    bin_ ((x3 * cb_8) + x4) 1024 (
    if (((sA σ 63 ((x3 * cb_8) + x4)) >>> (x5 &&& 31)) &&& ci_1) = ci_1 then
      cRows_leadsOn_b143 n ci_1 σ
    else
    cRows_leadsOn_b143 n ci_0 σ)
  else
  bin_ x6 7 (
  cRows_leadsOn_b42 n (cRows_leadsOn_b23 n k) x1 x2 x3 x4 x5 x6 (sA σ 67 x6) x2 (x1 - ci_1) σ)
def cRows_leadsOn (n : Nat) (x1 : Int32) (x2 : Int32) (σ : bS) : Option (Int32 × bS) :=
  ob (cRows_spotOf n (sI σ 59 12) ci_0 σ) fun q3 =>
  cRows_leadsOn_b23 n n x1 x2 ci_0 ci_0 q3.1 ci_0 (uI q3.2 59 9 ci_0)
def cRows_findHires_b28 (n : Nat) (r2 : Int32 → Int32 → Int32 → bS → Option (Int32 × bS)) (x1 : Int32) (x2 : Int32) (x3 : Int32) (σ : bS) : Option (Int32 × bS) :=
  r2 x1 x2 (x3 + ci_1) σ
def cRows_findHires_b2 (n : Nat) : Nat → Int32 → Int32 → Int32 → bS → Option (Int32 × bS)
  | 0, _, _, _, _ => none
  | k + 1, x1, x2, x3, σ =>
  if (ci_1 <<< (x1 &&& 31)) ≤ x3 then
    bz ci_0 σ
  else
  ob (cj_bitCount n x3 σ) fun q1 =>
  if x2 < q1.1 then
    cRows_findHires_b28 n (cRows_findHires_b2 n k) x1 x2 x3 q1.2
  else
  ob (cRows_leadsOn n x1 x3 q1.2) fun q2 =>
  if q2.1 = 0 then
    cRows_findHires_b28 n (cRows_findHires_b2 n k) x1 x2 x3 q2.2
  else
  bz ci_1 q2.2
def cRows_findHires (n : Nat) (x1 : Int32) (x2 : Int32) (σ : bS) : Option (Int32 × bS) :=
  cRows_findHires_b2 n n x1 x2 ci_0 σ
def cRows_findRow_b72 (n : Nat) (r9 : Int32 → Int32 → Int32 → bS → Option bS) (x1 : Int32) (x2 : Int32) (x3 : Int32) (σ : bS) : Option bS :=
  r9 x1 x2 (x3 + ci_1) σ
def cRows_findRow_b66 (n : Nat) (r9 : Int32 → Int32 → Int32 → bS → Option bS) (r20 : Int32 → Int32 → Int32 → Int32 → bS → Option bS) (x1 : Int32) (x2 : Int32) (x3 : Int32) (x4 : Int32) (σ : bS) : Option bS :=
  r20 x1 x2 x3 (x4 + ci_1) σ
def cRows_findRow_b20 (n : Nat) (r9 : Int32 → Int32 → Int32 → bS → Option bS) : Nat → Int32 → Int32 → Int32 → Int32 → bS → Option bS
  | 0, _, _, _, _, _ => none
  | k + 1, x1, x2, x3, x4, σ =>
  if cb_7 ≤ x4 then
    cRows_findRow_b72 n r9 x1 x2 x3 σ
  else
  bin_ x3 7 (
  ob (cRows_isLeft n x4 x2 (uA σ 67 x3 x4)) fun q1 =>
  if q1.1 = 0 then
    cRows_findRow_b66 n r9 (cRows_findRow_b20 n r9 k) x1 x2 x3 x4 q1.2
  else
  ob (cRows_findHires n (x3 + ci_1) x1 q1.2) fun q2 =>
  if q2.1 = 0 then
    cRows_findRow_b66 n r9 (cRows_findRow_b20 n r9 k) x1 x2 x3 x4 q2.2
  else
  cRows_findRow_b72 n r9 x1 (x2 ||| (ci_1 <<< (x4 &&& 31))) x3 q2.2)
def cRows_findRow_b9 (n : Nat) : Nat → Int32 → Int32 → Int32 → bS → Option bS
  | 0, _, _, _, _ => none
  | k + 1, x1, x2, x3, σ =>
  if (sI σ 59 11) ≤ x3 then
    some σ
  else
  cRows_findRow_b20 n (cRows_findRow_b9 n k) n x1 x2 x3 ci_0 σ
def cRows_findRow (n : Nat) (x1 : Int32) (σ : bS) : Option bS :=
  ob (cRows_findHopeful n x1 σ) fun q3 =>
  cRows_findRow_b9 n n x1 ci_0 ci_0 q3
def cTop_orderAt_b14 (n : Nat) (x1 : Int32) (x2 : Int32) (x3 : Int32) (s0 : Int32) (σ : bS) : Option (Int32 × bS) :=
  if s0 = 0 then
    ob (cRows_prepare n x1 x2 ci_1 σ) fun q1 =>
    ob (cRows_fewestWishers n ci_0 q1) fun q2 =>
    if q2.1 ≤ 0 then
      if x3 < (sI q2.2 59 11) then
        ob (cRows_findRow n ci_0 q2.2) fun q3 =>
        bin_ x3 7 (
        some ((sA q3 67 x3), q3))
      else
      some (ci_m1, q2.2)
    else
    some (cb_m2, q2.2)
  else
  some (s0, σ)
def cTop_orderAt (n : Nat) (x1 : Int32) (x2 : Int32) (x3 : Int32) (σ : bS) : Option (Int32 × bS) :=
  if 0 ≤ x3 then
    ob (cTop_rowFault n x1 x2 σ) fun q4 =>
    cTop_orderAt_b14 n x1 x2 x3 q4.1 q4.2
  else
  cTop_orderAt_b14 n x1 x2 x3 ci_m1 σ
def cTop_wishers (n : Nat) (x1 : Int32) (x2 : Int32) (σ : bS) : Option (Int32 × bS) :=
  ob (cTop_rowFault n x1 x2 σ) fun q1 =>
  if q1.1 = 0 then
    ob (cRows_prepare n x1 x2 ci_2 q1.2) fun q2 =>
    ob (cRows_fewestWishers n (sI q2 59 11) q2) fun q3 =>
    some (q3.1, q3.2)
  else
  some (q1.1, q1.2)
def cTop_wisherAt_b98 (n : Nat) (s0 : Int32) (s1 : Int32) (σ : bS) : Option (Int32 × bS) :=
  some ((s0 + s1), σ)
def cTop_wisherAt_b14 (n : Nat) (x1 : Int32) (x2 : Int32) (x3 : Int32) (s0 : Int32) (σ : bS) : Option (Int32 × bS) :=
  if s0 = 0 then
    ob (cRows_prepare n x1 x2 ci_2 σ) fun q1 =>
    if x3 < (sI q1 59 11) then
      ob (cRows_fewestWishers n (sI q1 59 11) q1) fun q2 =>
      ob (cRows_findRow n q2.1 q2.2) fun q3 =>
      bin_ x3 7 (
      if (((sI q3 59 9) >>> (x3 &&& 31)) &&& ci_1) = ci_1 then
        cTop_wisherAt_b98 n (sA q3 67 x3) cb_100 q3
      else
      cTop_wisherAt_b98 n (sA q3 67 x3) ci_0 q3)
    else
    some (ci_m1, q1)
  else
  some (s0, σ)
def cTop_wisherAt (n : Nat) (x1 : Int32) (x2 : Int32) (x3 : Int32) (σ : bS) : Option (Int32 × bS) :=
  if 0 ≤ x3 then
    ob (cTop_rowFault n x1 x2 σ) fun q4 =>
    cTop_wisherAt_b14 n x1 x2 x3 q4.1 q4.2
  else
  cTop_wisherAt_b14 n x1 x2 x3 ci_m1 σ
def cRows_join_b25 (n : Nat) (r2 : Int32 → Int32 → Int32 → bS → Option bS) (x1 : Int32) (x2 : Int32) (x3 : Int32) (σ : bS) : Option bS :=
  r2 x1 x2 (x3 + ci_1) σ
def cRows_join_b2 (n : Nat) : Nat → Int32 → Int32 → Int32 → bS → Option bS
  | 0, _, _, _, _ => none
  | k + 1, x1, x2, x3, σ =>
  if cb_6 ≤ x3 then
    some σ
  else
  bin_ x3 6 (
  if (sA σ 66 x3) = x2 then
    bin_ x3 6 (
    cRows_join_b25 n (cRows_join_b2 n k) x1 x2 x3 (uA σ 66 x3 x1))
  else
  cRows_join_b25 n (cRows_join_b2 n k) x1 x2 x3 σ)
def cRows_join (n : Nat) (x1 : Int32) (x2 : Int32) (σ : bS) : Option bS :=
  cRows_join_b2 n n x1 x2 ci_0 σ
def cRows_drawArcs_b121 (n : Nat) (r37 : Int32 → bS → Option bS) (x1 : Int32) (σ : bS) : Option bS :=
  r37 (x1 + ci_1) σ
def cRows_drawArcs_b81 (n : Nat) (r37 : Int32 → bS → Option bS) (x1 : Int32) (x2 : Int32) (s0 : Int32) (σ : bS) : Option bS :=
  bin_ x2 6 (
  bin_ x2 6 (
  bin_ s0 6 (
  bin_ s0 6 (
  bin_ x2 6 (
  bin_ s0 6 (
  ob (cRows_join n (sA (uA (uA σ 64 x2 ((sA σ 64 x2) + ci_1)) 65 s0 ((sA (uA σ 64 x2 ((sA σ 64 x2) + ci_1)) 65 s0) + ci_1)) 66 x2) (sA (uA (uA σ 64 x2 ((sA σ 64 x2) + ci_1)) 65 s0 ((sA (uA σ 64 x2 ((sA σ 64 x2) + ci_1)) 65 s0) + ci_1)) 66 s0) (uA (uA σ 64 x2 ((sA σ 64 x2) + ci_1)) 65 s0 ((sA (uA σ 64 x2 ((sA σ 64 x2) + ci_1)) 65 s0) + ci_1))) fun q1 =>
  cRows_drawArcs_b121 n r37 x1 q1))))))
def cRows_drawArcs_b37 (n : Nat) : Nat → Int32 → bS → Option bS
  | 0, _, _ => none
  | k + 1, x1, σ =>
  if cb_7 ≤ x1 then
    some σ
  else
  if (((sI σ 59 10) >>> (x1 &&& 31)) &&& ci_1) = ci_1 then
    ob (cRows_homeOf n x1 σ) fun q2 =>
    ob (cRows_wishAt n x1 (sI q2.2 59 12) ci_0 q2.2) fun q3 =>
    if 0 ≤ q3.1 then
      cRows_drawArcs_b81 n (cRows_drawArcs_b37 n k) x1 q2.1 q3.1 q3.2
    else
    cRows_drawArcs_b81 n (cRows_drawArcs_b37 n k) x1 q2.1 q2.1 q3.2
  else
  cRows_drawArcs_b121 n (cRows_drawArcs_b37 n k) x1 σ
def cRows_drawArcs_b2 (n : Nat) : Nat → Int32 → bS → Option bS
  | 0, _, _ => none
  | k + 1, x1, σ =>
  if cb_6 ≤ x1 then
    cRows_drawArcs_b37 n n ci_0 σ
  else
  bin_ x1 6 (
  bin_ x1 6 (
  bin_ x1 6 (
  (cRows_drawArcs_b2 n k) (x1 + ci_1) (uA (uA (uA σ 64 x1 ci_0) 65 x1 ci_0) 66 x1 x1))))
def cRows_drawArcs (n : Nat) (σ : bS) : Option bS :=
  cRows_drawArcs_b2 n n ci_0 σ
def cRows_hasArcs_b36 (n : Nat) (r2 : Int32 → Int32 → bS → Option (Int32 × bS)) (x1 : Int32) (x2 : Int32) (σ : bS) : Option (Int32 × bS) :=
  r2 x1 (x2 + ci_1) σ
def cRows_hasArcs_b2 (n : Nat) : Nat → Int32 → Int32 → bS → Option (Int32 × bS)
  | 0, _, _, _ => none
  | k + 1, x1, x2, σ =>
  if cb_6 ≤ x2 then
    bz ci_0 σ
  else
  bin_ x2 6 (
  if (sA σ 66 x2) = x1 then
    bin_ x2 6 (
    bin_ x2 6 (
    if ((sA σ 64 x2) + (sA σ 65 x2)) ≤ 0 then
      cRows_hasArcs_b36 n (cRows_hasArcs_b2 n k) x1 x2 σ
    else
    bz ci_1 σ))
  else
  cRows_hasArcs_b36 n (cRows_hasArcs_b2 n k) x1 x2 σ)
def cRows_hasArcs (n : Nat) (x1 : Int32) (σ : bS) : Option (Int32 × bS) :=
  cRows_hasArcs_b2 n n x1 ci_0 σ
def cRows_moreOut_b40 (n : Nat) (r4 : Int32 → Int32 → Int32 → bS → Option (Int32 × bS)) (x1 : Int32) (x2 : Int32) (x3 : Int32) (σ : bS) : Option (Int32 × bS) :=
  r4 x1 x2 (x3 + ci_1) σ
def cRows_moreOut_b35 (n : Nat) (r4 : Int32 → Int32 → Int32 → bS → Option (Int32 × bS)) (x1 : Int32) (x3 : Int32) (s0 : Int32) (s1 : Int32) (s2 : Int32) (σ : bS) : Option (Int32 × bS) :=
  ob (cj_max n s1 s2 σ) fun q1 =>
  cRows_moreOut_b40 n r4 x1 (s0 + q1.1) x3 q1.2
def cRows_moreOut_b4 (n : Nat) : Nat → Int32 → Int32 → Int32 → bS → Option (Int32 × bS)
  | 0, _, _, _, _ => none
  | k + 1, x1, x2, x3, σ =>
  if cb_6 ≤ x3 then
    some (x2, σ)
  else
  bin_ x3 6 (
  if (sA σ 66 x3) = x1 then
    bin_ x3 6 (
    bin_ x3 6 (
    cRows_moreOut_b35 n (cRows_moreOut_b4 n k) x1 x3 x2 ci_0 ((sA σ 64 x3) - (sA σ 65 x3)) σ))
  else
  cRows_moreOut_b40 n (cRows_moreOut_b4 n k) x1 x2 x3 σ)
def cRows_moreOut (n : Nat) (x1 : Int32) (σ : bS) : Option (Int32 × bS) :=
  cRows_moreOut_b4 n n x1 ci_0 ci_0 σ
def cRows_lastHelps_b73 (n : Nat) (s0 : Int32) (σ : bS) : Option (Int32 × bS) :=
  bz s0 σ
def cRows_lastHelps_b68 (n : Nat) (σ : bS) : Option (Int32 × bS) :=
  cRows_lastHelps_b73 n ci_1 σ
def cRows_lastHelps_b29 (n : Nat) (σ : bS) : Option (Int32 × bS) :=
  bz ci_0 σ
def cRows_lastHelps (n : Nat) (σ : bS) : Option (Int32 × bS) :=
  if (sI σ 59 12) < 0 then
    cRows_lastHelps_b29 n σ
  else
  bin_ (sI σ 59 12) 6 (
  bin_ (sI σ 59 12) 6 (
  if ((sA σ 64 (sI σ 59 12)) + (sA σ 65 (sI σ 59 12))) = 0 then
    cRows_lastHelps_b29 n σ
  else
  bin_ (sI σ 59 12) 6 (
  ob (cRows_moreOut n (sA σ 66 (sI σ 59 12)) σ) fun q1 =>
  if q1.1 = 0 then
    cRows_lastHelps_b68 n q1.2
  else
  bin_ (sI q1.2 59 12) 6 (
  bin_ (sI q1.2 59 12) 6 (
  if (sA q1.2 64 (sI q1.2 59 12)) ≤ (sA q1.2 65 (sI q1.2 59 12)) then
    cRows_lastHelps_b73 n ci_0 q1.2
  else
  cRows_lastHelps_b68 n q1.2)))))
def cRows_ringsOf_b104 (n : Nat) (s0 : Int32) (σ : bS) : Option (Int32 × bS) :=
  some (s0, σ)
def cRows_ringsOf_b94 (n : Nat) (s0 : Int32) (σ : bS) : Option (Int32 × bS) :=
  some (s0, σ)
def cRows_ringsOf_b93 (n : Nat) (s0 : Int32) (s1 : Int32) (σ : bS) : Option (Int32 × bS) :=
  cRows_ringsOf_b94 n (s0 - s1) σ
def cRows_ringsOf_b68 (n : Nat) (r14 : Int32 → Int32 → Int32 → Int32 → Int32 → bS → Option (Int32 × bS)) (x1 : Int32) (x2 : Int32) (x3 : Int32) (x4 : Int32) (x5 : Int32) (σ : bS) : Option (Int32 × bS) :=
  r14 x1 x2 x3 x4 (x5 + ci_1) σ
def cRows_ringsOf_b55 (n : Nat) (r14 : Int32 → Int32 → Int32 → Int32 → Int32 → bS → Option (Int32 × bS)) (x1 : Int32) (x2 : Int32) (x4 : Int32) (x5 : Int32) (x6 : Int32) (s0 : Int32) (s1 : Int32) (σ : bS) : Option (Int32 × bS) :=
  ob (cj_max n ci_1 x6 σ) fun q1 =>
  cRows_ringsOf_b68 n r14 x1 x2 (s0 + s1) (x4 + q1.1) x5 q1.2
def cRows_ringsOf_b14 (n : Nat) : Nat → Int32 → Int32 → Int32 → Int32 → Int32 → bS → Option (Int32 × bS)
  | 0, _, _, _, _, _, _ => none
  | k + 1, x1, x2, x3, x4, x5, σ =>
  if cb_6 ≤ x5 then
    if x1 = ci_2 then
      ob (cRows_lastHelps n σ) fun q2 =>
      if q2.1 = 0 then
        cRows_ringsOf_b93 n x4 ci_0 q2.2
      else
      cRows_ringsOf_b93 n x4 ci_1 q2.2
    else
    if x1 = 0 then
      cRows_ringsOf_b104 n x2 σ
    else
    cRows_ringsOf_b104 n x3 σ
  else
  ob (cRows_hasArcs n x5 σ) fun q3 =>
  if q3.1 = 0 then
    cRows_ringsOf_b68 n (cRows_ringsOf_b14 n k) x1 x2 x3 x4 x5 q3.2
  else
  ob (cRows_moreOut n x5 q3.2) fun q4 =>
  if q4.1 = 0 then
    cRows_ringsOf_b55 n (cRows_ringsOf_b14 n k) x1 (x2 + ci_1) x4 x5 q4.1 x3 ci_1 q4.2
  else
  cRows_ringsOf_b55 n (cRows_ringsOf_b14 n k) x1 (x2 + ci_1) x4 x5 q4.1 x3 ci_0 q4.2
def cRows_ringsOf (n : Nat) (x1 : Int32) (σ : bS) : Option (Int32 × bS) :=
  ob (cRows_drawArcs n σ) fun q5 =>
  cRows_ringsOf_b14 n n x1 ci_0 ci_0 ci_0 ci_0 q5
def cTop_rings_b19 (n : Nat) (x1 : Int32) (x2 : Int32) (x3 : Int32) (s0 : Int32) (σ : bS) : Option (Int32 × bS) :=
  if s0 = 0 then
    ob (cRows_prepare n x1 x2 ci_1 σ) fun q1 =>
    ob (cRows_ringsOf n x3 q1) fun q2 =>
    some (q2.1, q2.2)
  else
  some (s0, σ)
def cTop_rings_b9 (n : Nat) (x1 : Int32) (x2 : Int32) (x3 : Int32) (σ : bS) : Option (Int32 × bS) :=
  cTop_rings_b19 n x1 x2 x3 ci_m1 σ
def cTop_rings (n : Nat) (x1 : Int32) (x2 : Int32) (x3 : Int32) (σ : bS) : Option (Int32 × bS) :=
  if x3 < 0 then
    cTop_rings_b9 n x1 x2 x3 σ
  else
  if x3 ≤ ci_2 then
    ob (cTop_rowFault n x1 x2 σ) fun q3 =>
    cTop_rings_b19 n x1 x2 x3 q3.1 q3.2
  else
  cTop_rings_b9 n x1 x2 x3 σ
def cTop_isGame_b14 (n : Nat) (s0 : Int32) (σ : bS) : Option (Int32 × bS) :=
  bz s0 σ
def cTop_isGame (n : Nat) (x1 : Int32) (x2 : Int32) (σ : bS) : Option (Int32 × bS) :=
  ob (cTop_rowFault n x1 x2 σ) fun q1 =>
  if q1.1 = 0 then
    cTop_isGame_b14 n ci_1 q1.2
  else
  cTop_isGame_b14 n ci_0 q1.2
def cGame_landAllAt_b44 (n : Nat) (r2 : Int32 → Int32 → bS → Option bS) (x1 : Int32) (x2 : Int32) (σ : bS) : Option bS :=
  r2 x1 (x2 + ci_1) σ
def cGame_landAllAt_b2 (n : Nat) : Nat → Int32 → Int32 → bS → Option bS
  | 0, _, _, _ => none
  | k + 1, x1, x2, σ =>
  if cb_7 ≤ x2 then
    some (uI σ 68 4 ci_0)
  else
  if (((sI σ 68 4) >>> (x2 &&& 31)) &&& ci_1) = ci_1 then
    ob (cRows_homeOf n x2 σ) fun q1 =>
    if q1.1 = x1 then
      cGame_landAllAt_b44 n (cGame_landAllAt_b2 n k) x1 x2 (uI q1.2 68 5 ((sI q1.2 68 5) ||| (ci_1 <<< (x2 &&& 31))))
    else
    cGame_landAllAt_b44 n (cGame_landAllAt_b2 n k) x1 x2 q1.2
  else
  cGame_landAllAt_b44 n (cGame_landAllAt_b2 n k) x1 x2 σ
def cGame_landAllAt (n : Nat) (x1 : Int32) (σ : bS) : Option bS :=
  cGame_landAllAt_b2 n n x1 ci_0 σ
def cGame_crossAll_b91 (n : Nat) (r9 : Int32 → Int32 → Int32 → Int32 → bS → Option (Int32 × bS)) (x1 : Int32) (x4 : Int32) (x5 : Int32) (x6 : Int32) (σ : bS) : Option (Int32 × bS) :=
  r9 x1 x4 x5 (x6 + ci_1) σ
def cGame_crossAll_b77 (n : Nat) (r9 : Int32 → Int32 → Int32 → Int32 → bS → Option (Int32 × bS)) (x1 : Int32) (x5 : Int32) (x6 : Int32) (s0 : Int32) (σ : bS) : Option (Int32 × bS) :=
  bin_ x6 7 (
  cGame_crossAll_b91 n r9 x1 s0 (x5 + ci_1) x6 (uA σ 70 x6 x5))
def cGame_crossAll_b65 (n : Nat) (r9 : Int32 → Int32 → Int32 → Int32 → bS → Option (Int32 × bS)) (x1 : Int32) (x4 : Int32) (x5 : Int32) (x6 : Int32) (x7 : Int32) (σ : bS) : Option (Int32 × bS) :=
  if 0 ≤ x7 then
    cGame_crossAll_b77 n r9 x1 x5 x6 x7 σ
  else
  cGame_crossAll_b77 n r9 x1 x5 x6 x4 σ
def cGame_crossAll_b9 (n : Nat) : Nat → Int32 → Int32 → Int32 → Int32 → bS → Option (Int32 × bS)
  | 0, _, _, _, _, _ => none
  | k + 1, x1, x4, x5, x6, σ =>
  if cb_7 ≤ x6 then
    some (x4, σ)
  else
  if ((x1 >>> (x6 &&& 31)) &&& ci_1) = ci_1 then
    ob (cRows_wishAt n x6 x4 x5 σ) fun q1 =>
    if x4 < 0 then
      cGame_crossAll_b65 n (cGame_crossAll_b9 n k) x1 x4 x5 x6 q1.1 (uI q1.2 68 4 ((sI q1.2 68 4) ||| (ci_1 <<< (x6 &&& 31))))
    else
    ob (cGame_landAllAt n x4 (uI q1.2 68 4 ((sI q1.2 68 4) ||| (ci_1 <<< (x6 &&& 31))))) fun q2 =>
    cGame_crossAll_b65 n (cGame_crossAll_b9 n k) x1 x4 x5 x6 q1.1 q2
  else
  cGame_crossAll_b91 n (cGame_crossAll_b9 n k) x1 x4 x5 x6 σ
def cGame_crossAll (n : Nat) (x1 : Int32) (x2 : Int32) (x3 : Int32) (σ : bS) : Option (Int32 × bS) :=
  cGame_crossAll_b9 n n x1 x2 x3 ci_0 σ
def cGame_takesPart_b20 (n : Nat) (s0 : Int32) (σ : bS) : Option (Int32 × bS) :=
  bz s0 σ
def cGame_takesPart (n : Nat) (x1 : Int32) (σ : bS) : Option (Int32 × bS) :=
  if (((sI σ 59 10) >>> (x1 &&& 31)) &&& ci_1) = ci_1 then
    cGame_takesPart_b20 n ci_1 σ
  else
  cGame_takesPart_b20 n ci_0 σ
def cGoing_gainAs_b28 (n : Nat) (s0 : Int32) (σ : bS) : Option (Int32 × bS) :=
  some (s0, σ)
def cGoing_gainAs_b9 (n : Nat) (x1 : Int32) (x3 : Int32) (s0 : Int32) (σ : bS) : Option (Int32 × bS) :=
  if 0 ≤ (sI σ 1 13) then
    ob (cGoing_look n x1 ci_0 ((sI σ 27 2) + x3) σ) fun q1 =>
    bin_ ci_4 8 (
    bin_ cb_7 8 (
    ob (cLaws_valueOf n (sI (uA (uA q1 13 ci_4 s0) 13 cb_7 x3) 1 13) (uA (uA q1 13 ci_4 s0) 13 cb_7 x3)) fun q2 =>
    ob (cGoing_held n q2.1 cb_m99 cb_99 q2.2) fun q3 =>
    some (q3.1, q3.2)))
  else
  cGoing_gainAs_b28 n ((cb_20 * s0) - x3) σ
def cGoing_gainAs (n : Nat) (x1 : Int32) (x2 : Int32) (x3 : Int32) (σ : bS) : Option (Int32 × bS) :=
  if x2 = 0 then
    cGoing_gainAs_b9 n x1 x3 ci_0 σ
  else
  cGoing_gainAs_b9 n x1 x3 ci_1 σ
def cGame_play_b112 (n : Nat) (r50 : Int32 → Int32 → bS → Option bS) (x1 : Int32) (x4 : Int32) (σ : bS) : Option bS :=
  r50 x1 (x4 + ci_1) σ
def cGame_play_b101 (n : Nat) (r50 : Int32 → Int32 → bS → Option bS) (x1 : Int32) (x4 : Int32) (s1 : Int32) (s3 : Int32) (s4 : Int32) (σ : bS) : Option bS :=
  bin_ x4 7 (
  ob (cGoing_gainAs n s3 s4 (sA σ 70 x4) σ) fun q1 =>
  bin_ s1 896 (
  cGame_play_b112 n r50 x1 x4 (uA q1.2 69 s1 q1.1)))
def cGame_play_b50 (n : Nat) : Nat → Int32 → Int32 → bS → Option bS
  | 0, _, _, _ => none
  | k + 1, x1, x4, σ =>
  if cb_7 ≤ x4 then
    some σ
  else
  ob (cGame_takesPart n x4 σ) fun q2 =>
  if q2.1 = 0 then
    cGame_play_b112 n (cGame_play_b50 n k) x1 x4 q2.2
  else
  if (((sI q2.2 68 5) >>> (x4 &&& 31)) &&& ci_1) = ci_1 then
    cGame_play_b101 n (cGame_play_b50 n k) x1 x4 ((x1 * cb_7) + x4) x4 ci_1 q2.2
  else
  cGame_play_b101 n (cGame_play_b50 n k) x1 x4 ((x1 * cb_7) + x4) x4 ci_0 q2.2
def cGame_play (n : Nat) (x1 : Int32) (σ : bS) : Option bS :=
  ob (cGame_crossAll n ((sI (uI (uI σ 68 4 ci_0) 68 5 ci_0) 59 10) &&& (x1 ^^^ ci_m1)) (sI (uI (uI σ 68 4 ci_0) 68 5 ci_0) 59 12) ci_0 (uI (uI σ 68 4 ci_0) 68 5 ci_0)) fun q3 =>
  ob (cj_bitCount n ((sI (uI (uI σ 68 4 ci_0) 68 5 ci_0) 59 10) &&& (x1 ^^^ ci_m1)) q3.2) fun q4 =>
  ob (cGame_crossAll n x1 q3.1 q4.1 q4.2) fun q5 =>
  cGame_play_b50 n n x1 ci_0 q5.2
def cGame_gainOf (n : Nat) (x1 : Int32) (x2 : Int32) (σ : bS) : Option (Int32 × bS) :=
  bin_ ((x1 * cb_7) + x2) 896 (
  some ((sA σ 69 ((x1 * cb_7) + x2)), σ))
def cTop_gain_b35 (n : Nat) (σ : bS) : Option (Int32 × bS) :=
  some (cs_m1000, σ)
def cTop_gain (n : Nat) (x1 : Int32) (x2 : Int32) (x3 : Int32) (x4 : Int32) (σ : bS) : Option (Int32 × bS) :=
  ob (cTop_isGame n x1 x2 σ) fun q1 =>
  if q1.1 = 0 then
    cTop_gain_b35 n q1.2
  else
  if (x3 &&& (x2 ^^^ ci_m1)) = 0 then
    ob (cTop_isMan n x4 q1.2) fun q2 =>
    if q2.1 = 0 then
      cTop_gain_b35 n q2.2
    else
    if ((x2 >>> (x4 &&& 31)) &&& ci_1) = 0 then
      cTop_gain_b35 n q2.2
    else
    ob (cRows_prepare n x1 x2 ci_1 q2.2) fun q3 =>
    ob (cGame_play n x3 q3) fun q4 =>
    ob (cGame_gainOf n x3 x4 q4) fun q5 =>
    some (q5.1, q5.2)
  else
  cTop_gain_b35 n q1.2
def cGame_worthOf_b27 (n : Nat) (r4 : Int32 → Int32 → Int32 → bS → Option (Int32 × bS)) (x1 : Int32) (x2 : Int32) (x3 : Int32) (σ : bS) : Option (Int32 × bS) :=
  r4 x1 x2 (x3 + ci_1) σ
def cGame_worthOf_b4 (n : Nat) : Nat → Int32 → Int32 → Int32 → bS → Option (Int32 × bS)
  | 0, _, _, _, _ => none
  | k + 1, x1, x2, x3, σ =>
  if cb_7 ≤ x3 then
    some (x2, σ)
  else
  ob (cGame_takesPart n x3 σ) fun q1 =>
  if q1.1 = 0 then
    cGame_worthOf_b27 n (cGame_worthOf_b4 n k) x1 x2 x3 q1.2
  else
  ob (cGame_gainOf n x1 x3 q1.2) fun q2 =>
  cGame_worthOf_b27 n (cGame_worthOf_b4 n k) x1 (x2 + q2.1) x3 q2.2
def cGame_worthOf (n : Nat) (x1 : Int32) (σ : bS) : Option (Int32 × bS) :=
  cGame_worthOf_b4 n n x1 ci_0 ci_0 σ
def cTop_worth_b17 (n : Nat) (σ : bS) : Option (Int32 × bS) :=
  some (cs_m1000, σ)
def cTop_worth (n : Nat) (x1 : Int32) (x2 : Int32) (x3 : Int32) (σ : bS) : Option (Int32 × bS) :=
  ob (cTop_isGame n x1 x2 σ) fun q1 =>
  if q1.1 = 0 then
    cTop_worth_b17 n q1.2
  else
  if (x3 &&& (x2 ^^^ ci_m1)) = 0 then
    ob (cRows_prepare n x1 x2 ci_1 q1.2) fun q2 =>
    ob (cGame_play n x3 q2) fun q3 =>
    ob (cGame_worthOf n x3 q3) fun q4 =>
    some (q4.1, q4.2)
  else
  cTop_worth_b17 n q1.2
def cGame_isChoice_b19 (n : Nat) (s0 : Int32) (σ : bS) : Option (Int32 × bS) :=
  bz s0 σ
def cGame_isChoice (n : Nat) (x1 : Int32) (σ : bS) : Option (Int32 × bS) :=
  if (x1 &&& ((sI σ 59 10) ^^^ ci_m1)) = 0 then
    cGame_isChoice_b19 n ci_1 σ
  else
  cGame_isChoice_b19 n ci_0 σ
def cGame_playAll_b26 (n : Nat) (r2 : Int32 → bS → Option bS) (x1 : Int32) (σ : bS) : Option bS :=
  r2 (x1 + ci_1) σ
def cGame_playAll_b2 (n : Nat) : Nat → Int32 → bS → Option bS
  | 0, _, _ => none
  | k + 1, x1, σ =>
  if (sI σ 59 10) < x1 then
    some σ
  else
  ob (cGame_isChoice n x1 σ) fun q1 =>
  if q1.1 = 0 then
    cGame_playAll_b26 n (cGame_playAll_b2 n k) x1 q1.2
  else
  ob (cGame_play n x1 q1.2) fun q2 =>
  cGame_playAll_b26 n (cGame_playAll_b2 n k) x1 q2
def cGame_playAll (n : Nat) (σ : bS) : Option bS :=
  cGame_playAll_b2 n n ci_0 σ
def cGame_isRest_b37 (n : Nat) (r2 : Int32 → Int32 → bS → Option (Int32 × bS)) (x1 : Int32) (x2 : Int32) (σ : bS) : Option (Int32 × bS) :=
  r2 x1 (x2 + ci_1) σ
def cGame_isRest_b2 (n : Nat) : Nat → Int32 → Int32 → bS → Option (Int32 × bS)
  | 0, _, _, _ => none
  | k + 1, x1, x2, σ =>
  if cb_7 ≤ x2 then
    bz ci_1 σ
  else
  ob (cGame_takesPart n x2 σ) fun q1 =>
  if q1.1 = 0 then
    cGame_isRest_b37 n (cGame_isRest_b2 n k) x1 x2 q1.2
  else
  ob (cGame_gainOf n (x1 ^^^ (ci_1 <<< (x2 &&& 31))) x2 q1.2) fun q2 =>
  ob (cGame_gainOf n x1 x2 q2.2) fun q3 =>
  if q2.1 ≤ q3.1 then
    cGame_isRest_b37 n (cGame_isRest_b2 n k) x1 x2 q3.2
  else
  bz ci_0 q3.2
def cGame_isRest (n : Nat) (x1 : Int32) (σ : bS) : Option (Int32 × bS) :=
  cGame_isRest_b2 n n x1 ci_0 σ
def cGame_restAt_b41 (n : Nat) (r4 : Int32 → Int32 → Int32 → bS → Option (Int32 × bS)) (x1 : Int32) (x2 : Int32) (x3 : Int32) (σ : bS) : Option (Int32 × bS) :=
  r4 x1 x2 (x3 + ci_1) σ
def cGame_restAt_b4 (n : Nat) : Nat → Int32 → Int32 → Int32 → bS → Option (Int32 × bS)
  | 0, _, _, _, _ => none
  | k + 1, x1, x2, x3, σ =>
  if (sI σ 59 10) < x3 then
    some (ci_m1, σ)
  else
  ob (cGame_isChoice n x3 σ) fun q1 =>
  if q1.1 = 0 then
    cGame_restAt_b41 n (cGame_restAt_b4 n k) x1 x2 x3 q1.2
  else
  ob (cGame_isRest n x3 q1.2) fun q2 =>
  if q2.1 = 0 then
    cGame_restAt_b41 n (cGame_restAt_b4 n k) x1 x2 x3 q2.2
  else
  if x2 = x1 then
    some (x3, q2.2)
  else
  cGame_restAt_b41 n (cGame_restAt_b4 n k) x1 (x2 + ci_1) x3 q2.2
def cGame_restAt (n : Nat) (x1 : Int32) (σ : bS) : Option (Int32 × bS) :=
  cGame_restAt_b4 n n x1 ci_0 ci_0 σ
def cGame_countRests_b34 (n : Nat) (r4 : Int32 → Int32 → bS → Option (Int32 × bS)) (x1 : Int32) (x2 : Int32) (σ : bS) : Option (Int32 × bS) :=
  r4 x1 (x2 + ci_1) σ
def cGame_countRests_b4 (n : Nat) : Nat → Int32 → Int32 → bS → Option (Int32 × bS)
  | 0, _, _, _ => none
  | k + 1, x1, x2, σ =>
  if (sI σ 59 10) < x2 then
    some (x1, σ)
  else
  ob (cGame_isChoice n x2 σ) fun q1 =>
  if q1.1 = 0 then
    cGame_countRests_b34 n (cGame_countRests_b4 n k) x1 x2 q1.2
  else
  ob (cGame_isRest n x2 q1.2) fun q2 =>
  if q2.1 = 0 then
    cGame_countRests_b34 n (cGame_countRests_b4 n k) x1 x2 q2.2
  else
  cGame_countRests_b34 n (cGame_countRests_b4 n k) (x1 + ci_1) x2 q2.2
def cGame_countRests (n : Nat) (σ : bS) : Option (Int32 × bS) :=
  cGame_countRests_b4 n n ci_0 ci_0 σ
def cTop_rests_b65 (n : Nat) (s0 : Int32) (σ : bS) : Option (Int32 × bS) :=
  some (s0, σ)
def cTop_rests_b15 (n : Nat) (x1 : Int32) (x2 : Int32) (x3 : Int32) (s0 : Int32) (σ : bS) : Option (Int32 × bS) :=
  if s0 = 0 then
    ob (cRows_prepare n x1 x2 ci_1 σ) fun q1 =>
    ob (cGame_playAll n q1) fun q2 =>
    if x3 = ci_m1 then
      ob (cGame_countRests n q2) fun q3 =>
      cTop_rests_b65 n q3.1 q3.2
    else
    ob (cGame_restAt n x3 q2) fun q4 =>
    cTop_rests_b65 n q4.1 q4.2
  else
  some (s0, σ)
def cTop_rests (n : Nat) (x1 : Int32) (x2 : Int32) (x3 : Int32) (σ : bS) : Option (Int32 × bS) :=
  if ci_m1 ≤ x3 then
    ob (cTop_rowFault n x1 x2 σ) fun q5 =>
    cTop_rests_b15 n x1 x2 x3 q5.1 q5.2
  else
  cTop_rests_b15 n x1 x2 x3 ci_m1 σ
def cGame_mostWorth_b37 (n : Nat) (r8 : Int32 → Int32 → bS → Option (Int32 × bS)) (x1 : Int32) (x2 : Int32) (σ : bS) : Option (Int32 × bS) :=
  r8 x1 (x2 + ci_1) σ
def cGame_mostWorth_b8 (n : Nat) : Nat → Int32 → Int32 → bS → Option (Int32 × bS)
  | 0, _, _, _ => none
  | k + 1, x1, x2, σ =>
  if (sI σ 59 10) < x2 then
    some (x1, σ)
  else
  ob (cGame_isChoice n x2 σ) fun q1 =>
  if q1.1 = 0 then
    cGame_mostWorth_b37 n (cGame_mostWorth_b8 n k) x1 x2 q1.2
  else
  ob (cGame_worthOf n x2 q1.2) fun q2 =>
  ob (cj_max n x1 q2.1 q2.2) fun q3 =>
  cGame_mostWorth_b37 n (cGame_mostWorth_b8 n k) q3.1 x2 q3.2
def cGame_mostWorth (n : Nat) (σ : bS) : Option (Int32 × bS) :=
  ob (cGame_worthOf n ci_0 σ) fun q4 =>
  cGame_mostWorth_b8 n n q4.1 ci_1 q4.2
def cGame_leastRestingWorth_b42 (n : Nat) (r5 : Int32 → Int32 → bS → Option (Int32 × bS)) (x1 : Int32) (x2 : Int32) (σ : bS) : Option (Int32 × bS) :=
  r5 x1 (x2 + ci_1) σ
def cGame_leastRestingWorth_b5 (n : Nat) : Nat → Int32 → Int32 → bS → Option (Int32 × bS)
  | 0, _, _, _ => none
  | k + 1, x1, x2, σ =>
  if (sI σ 59 10) < x2 then
    some (x1, σ)
  else
  ob (cGame_isChoice n x2 σ) fun q1 =>
  if q1.1 = 0 then
    cGame_leastRestingWorth_b42 n (cGame_leastRestingWorth_b5 n k) x1 x2 q1.2
  else
  ob (cGame_isRest n x2 q1.2) fun q2 =>
  if q2.1 = 0 then
    cGame_leastRestingWorth_b42 n (cGame_leastRestingWorth_b5 n k) x1 x2 q2.2
  else
  ob (cGame_worthOf n x2 q2.2) fun q3 =>
  ob (cj_min n x1 q3.1 q3.2) fun q4 =>
  cGame_leastRestingWorth_b42 n (cGame_leastRestingWorth_b5 n k) q4.1 x2 q4.2
def cGame_leastRestingWorth (n : Nat) (σ : bS) : Option (Int32 × bS) :=
  cGame_leastRestingWorth_b5 n n (1073741824 : Int32) ci_0 σ
def cTop_best_b73 (n : Nat) (s0 : Int32) (σ : bS) : Option (Int32 × bS) :=
  some (s0, σ)
def cTop_best (n : Nat) (x1 : Int32) (x2 : Int32) (x3 : Int32) (σ : bS) : Option (Int32 × bS) :=
  ob (cTop_isGame n x1 x2 σ) fun q1 =>
  if q1.1 = 0 then
    some (cs_m1000, q1.2)
  else
  ob (cRows_prepare n x1 x2 ci_1 q1.2) fun q2 =>
  ob (cGame_playAll n q2) fun q3 =>
  if x3 = 0 then
    ob (cGame_mostWorth n q3) fun q4 =>
    some (q4.1, q4.2)
  else
  ob (cGame_countRests n q3) fun q5 =>
  if q5.1 = 0 then
    cTop_best_b73 n cs_m1000 q5.2
  else
  ob (cGame_mostWorth n q5.2) fun q6 =>
  ob (cGame_leastRestingWorth n q6.2) fun q7 =>
  cTop_best_b73 n (q6.1 - q7.1) q7.2
def cMarket_lineUp_b42 (n : Nat) (r7 : Int32 → Int32 → bS → Option bS) (x1 : Int32) (x2 : Int32) (σ : bS) : Option bS :=
  r7 x1 (x2 + ci_1) σ
def cMarket_lineUp_b7 (n : Nat) : Nat → Int32 → Int32 → bS → Option bS
  | 0, _, _, _ => none
  | k + 1, x1, x2, σ =>
  if cb_7 ≤ x2 then
    some σ
  else
  if ((x1 >>> (x2 &&& 31)) &&& ci_1) = ci_1 then
    bin_ (sI σ 71 5) 7 (
    cMarket_lineUp_b42 n (cMarket_lineUp_b7 n k) x1 x2 (uI (uA σ 74 (sI σ 71 5) x2) 71 5 ((sI (uA σ 74 (sI σ 71 5) x2) 71 5) + ci_1)))
  else
  cMarket_lineUp_b42 n (cMarket_lineUp_b7 n k) x1 x2 σ
def cMarket_lineUp (n : Nat) (x1 : Int32) (σ : bS) : Option bS :=
  cMarket_lineUp_b7 n n x1 ci_0 (uI σ 71 5 ci_0)
def cMarket_findNeeds_b98 (n : Nat) (r61 : Int32 → bS → Option (Int32 × bS)) (x3 : Int32) (s1 : Int32) (s2 : Int32) (σ : bS) : Option (Int32 × bS) :=
  bin_ s1 7 (
  r61 (x3 + ci_1) (uA σ 73 s1 s2))
def cMarket_findNeeds_b61 (n : Nat) : Nat → Int32 → bS → Option (Int32 × bS)
  | 0, _, _ => none
  | k + 1, x3, σ =>
  if (sI σ 71 5) ≤ x3 then
    bz ci_1 σ
  else
  if (sI σ 71 5) ≤ (x3 + ci_1) then
    cMarket_findNeeds_b98 n (cMarket_findNeeds_b61 n k) x3 x3 ci_m1 σ
  else
  bin_ (x3 + ci_1) 7 (
  bin_ (sA σ 74 (x3 + ci_1)) 7 (
  cMarket_findNeeds_b98 n (cMarket_findNeeds_b61 n k) x3 x3 (sA σ 6 (sA σ 74 (x3 + ci_1))) σ))
def cMarket_findNeeds_b59 (n : Nat) (σ : bS) : Option (Int32 × bS) :=
  cMarket_findNeeds_b61 n n ci_0 σ
def cMarket_findNeeds_b57 (n : Nat) (σ : bS) : Option (Int32 × bS) :=
  bz ci_0 σ
def cMarket_findNeeds (n : Nat) (x1 : Int32) (σ : bS) : Option (Int32 × bS) :=
  if 0 ≤ x1 then
    bin_ ci_0 7 (
    bin_ (sA σ 74 ci_0) 7 (
    if (sA σ 6 (sA σ 74 ci_0)) = x1 then
      cMarket_findNeeds_b59 n σ
    else
    cMarket_findNeeds_b57 n σ))
  else
  if (sI σ 71 5) < ci_2 then
    cMarket_findNeeds_b57 n σ
  else
  bin_ ci_0 7 (
  bin_ (sA σ 74 ci_0) 7 (
  bin_ ci_1 7 (
  bin_ (sA σ 74 ci_1) 7 (
  if (sA σ 6 (sA σ 74 ci_0)) = (sA σ 6 (sA σ 74 ci_1)) then
    cMarket_findNeeds_b59 n σ
  else
  cMarket_findNeeds_b57 n σ))))
def cGoing_fancyAs (n : Nat) (x1 : Int32) (x2 : Int32) (x3 : Int32) (σ : bS) : Option (Int32 × bS) :=
  if 0 ≤ (sI σ 1 14) then
    ob (cGoing_look n x1 x2 x3 σ) fun q1 =>
    ob (cLaws_valueOf n (sI q1 1 14) q1) fun q2 =>
    ob (cGoing_held n q2.1 cb_m99 cb_99 q2.2) fun q3 =>
    some (q3.1, q3.2)
  else
  some (ci_0, σ)
def cMarket_askFancies_b12 (n : Nat) (r2 : Int32 → bS → Option bS) : Nat → Int32 → Int32 → bS → Option bS
  | 0, _, _, _ => none
  | k + 1, x1, x2, σ =>
  if (sI σ 71 6) ≤ x2 then
    r2 (x1 + ci_1) σ
  else
  bin_ x1 7 (
  ob (cGoing_fancyAs n (sA σ 74 x1) x2 ((sI σ 27 2) + x1) σ) fun q1 =>
  bin_ ((x1 * cb_6) + x2) 42 (
  (cMarket_askFancies_b12 n r2 k) x1 (x2 + ci_1) (uA q1.2 72 ((x1 * cb_6) + x2) q1.1)))
def cMarket_askFancies_b2 (n : Nat) : Nat → Int32 → bS → Option bS
  | 0, _, _ => none
  | k + 1, x1, σ =>
  if (sI σ 71 5) ≤ x1 then
    some σ
  else
  cMarket_askFancies_b12 n (cMarket_askFancies_b2 n k) n x1 ci_0 σ
def cMarket_askFancies (n : Nat) (σ : bS) : Option bS :=
  cMarket_askFancies_b2 n n ci_0 σ
def cj_fill_75_b5 (n : Nat) : Nat → Int32 → Int32 → Int32 → bS → Option bS
  | 0, _, _, _, _ => none
  | k + 1, x1, x2, x3, σ =>
  if x3 ≤ x2 then
    some σ
  else
  bin_ x2 6 (
  (cj_fill_75_b5 n k) x1 (x2 + ci_1) x3 (uA σ 75 x2 x1))
def cj_fill_75 (n : Nat) (x1 : Int32) (σ : bS) : Option bS :=
  cj_fill_75_b5 n n x1 ci_0 cn_6 σ
def cMarket_liking_b18 (n : Nat) (s0 : Int32) (σ : bS) : Option (Int32 × bS) :=
  some (s0, σ)
def cMarket_liking (n : Nat) (x1 : Int32) (x2 : Int32) (σ : bS) : Option (Int32 × bS) :=
  bin_ ((x1 * cb_6) + x2) 42 (
  bin_ x2 6 (
  cMarket_liking_b18 n ((sA σ 72 ((x1 * cb_6) + x2)) - (sA σ 75 x2)) σ))
def cMarket_favourite_b29 (n : Nat) (r4 : Int32 → Int32 → Int32 → bS → Option (Int32 × bS)) (x1 : Int32) (x2 : Int32) (x3 : Int32) (σ : bS) : Option (Int32 × bS) :=
  r4 x1 x2 (x3 + ci_1) σ
def cMarket_favourite_b4 (n : Nat) : Nat → Int32 → Int32 → Int32 → bS → Option (Int32 × bS)
  | 0, _, _, _, _ => none
  | k + 1, x1, x2, x3, σ =>
  if (sI σ 71 6) ≤ x3 then
    some (x2, σ)
  else
  ob (cMarket_liking n x1 x3 σ) fun q1 =>
  ob (cMarket_liking n x1 x2 q1.2) fun q2 =>
  if q1.1 ≤ q2.1 then
    cMarket_favourite_b29 n (cMarket_favourite_b4 n k) x1 x2 x3 q2.2
  else
  cMarket_favourite_b29 n (cMarket_favourite_b4 n k) x1 x3 x3 q2.2
def cMarket_favourite (n : Nat) (x1 : Int32) (σ : bS) : Option (Int32 × bS) :=
  cMarket_favourite_b4 n n x1 ci_0 ci_1 σ
def cMarket_allLeaveWhatIsNeeded_b35 (n : Nat) (r2 : Int32 → bS → Option (Int32 × bS)) (x1 : Int32) (σ : bS) : Option (Int32 × bS) :=
  r2 (x1 + ci_1) σ
def cMarket_allLeaveWhatIsNeeded_b2 (n : Nat) : Nat → Int32 → bS → Option (Int32 × bS)
  | 0, _, _ => none
  | k + 1, x1, σ =>
  if (sI σ 71 5) ≤ x1 then
    bz ci_1 σ
  else
  bin_ x1 7 (
  if (sA σ 73 x1) < 0 then
    cMarket_allLeaveWhatIsNeeded_b35 n (cMarket_allLeaveWhatIsNeeded_b2 n k) x1 σ
  else
  ob (cMarket_favourite n x1 σ) fun q1 =>
  bin_ x1 7 (
  if q1.1 = (sA q1.2 73 x1) then
    cMarket_allLeaveWhatIsNeeded_b35 n (cMarket_allLeaveWhatIsNeeded_b2 n k) x1 q1.2
  else
  bz ci_0 q1.2))
def cMarket_allLeaveWhatIsNeeded (n : Nat) (σ : bS) : Option (Int32 × bS) :=
  cMarket_allLeaveWhatIsNeeded_b2 n n ci_0 σ
def cMarket_tryPrices_b62 (n : Nat) (σ : bS) : Option bS :=
  some σ
def cMarket_tryPrices_b4 (n : Nat) : Nat → Int32 → Int32 → bS → Option bS
  | 0, _, _, _ => none
  | k + 1, x1, x2, σ =>
  if (sI σ 71 6) ≤ x2 then
    if (sI σ 71 8) ≤ x1 then
      cMarket_tryPrices_b62 n σ
    else
    ob (cMarket_allLeaveWhatIsNeeded n σ) fun q1 =>
    if q1.1 = 0 then
      cMarket_tryPrices_b62 n q1.2
    else
    if ci_0 < 0 ∨ ci_0 < 0 ∨ cb_6 < 0 ∨ 6 < (ci_0).toNatClampNeg + (cb_6).toNatClampNeg ∨ 6 < (ci_0).toNatClampNeg + (cb_6).toNatClampNeg then none else
    cMarket_tryPrices_b62 n (uC (uI q1.2 71 8 x1) 75 76 ci_0 ci_0 cb_6)
  else
  bin_ x2 6 (
  (cMarket_tryPrices_b4 n k) (x1 + (sA σ 75 x2)) (x2 + ci_1) σ)
def cMarket_tryPrices (n : Nat) (σ : bS) : Option bS :=
  cMarket_tryPrices_b4 n n ci_0 ci_0 σ
def cMarket_nextPrices_b42 (n : Nat) (r7 : Int32 → Int32 → bS → Option bS) (x1 : Int32) (x2 : Int32) (σ : bS) : Option bS :=
  r7 x1 x2 σ
def cMarket_nextPrices_b7 (n : Nat) : Nat → Int32 → Int32 → bS → Option bS
  | 0, _, _, _ => none
  | k + 1, x1, x2, σ =>
  if x2 < 0 then
    some σ
  else
  bin_ x2 6 (
  if x1 ≤ (sA σ 75 x2) then
    bin_ x2 6 (
    cMarket_nextPrices_b42 n (cMarket_nextPrices_b7 n k) x1 (x2 + ci_m1) (uA σ 75 x2 ci_0))
  else
  bin_ x2 6 (
  bin_ x2 6 (
  some (uA σ 75 x2 ((sA σ 75 x2) + ci_1)))))
def cMarket_nextPrices_b6 (n : Nat) (x1 : Int32) (s0 : Int32) (σ : bS) : Option bS :=
  cMarket_nextPrices_b7 n n x1 s0 σ
def cMarket_nextPrices (n : Nat) (x1 : Int32) (σ : bS) : Option bS :=
  cMarket_nextPrices_b6 n x1 ((sI σ 71 6) - ci_1) σ
def cMarket_search_b123 (n : Nat) (s0 : Int32) (σ : bS) : Option (Int32 × bS) :=
  bz s0 σ
def cMarket_search_b87 (n : Nat) : Nat → Int32 → Int32 → Int32 → bS → Option (Int32 × bS)
  | 0, _, _, _, _ => none
  | k + 1, x3, x4, x5, σ =>
  if x4 ≤ x5 then
    if (sI σ 71 8) = (1073741824 : Int32) then
      cMarket_search_b123 n ci_0 σ
    else
    cMarket_search_b123 n ci_1 σ
  else
  ob (cMarket_tryPrices n σ) fun q1 =>
  ob (cMarket_nextPrices n x3 q1) fun q2 =>
  (cMarket_search_b87 n k) x3 x4 (x5 + ci_1) q2
def cMarket_search_b61 (n : Nat) : Nat → Int32 → Int32 → Int32 → bS → Option (Int32 × bS)
  | 0, _, _, _, _ => none
  | k + 1, x3, x4, x5, σ =>
  if (sI σ 71 6) ≤ x5 then
    cMarket_search_b87 n n x3 x4 ci_0 σ
  else
  (cMarket_search_b61 n k) x3 (x4 * (x3 + ci_1)) (x5 + ci_1) σ
def cMarket_search (n : Nat) (x1 : Int32) (x2 : Int32) (x3 : Int32) (σ : bS) : Option (Int32 × bS) :=
  ob (cMarket_lineUp n x2 σ) fun q3 =>
  bin_ x1 4 (
  ob (cMarket_findNeeds n (sA (uI q3 71 6 (sI q3 1 0)) 28 x1) (uI q3 71 6 (sI q3 1 0))) fun q4 =>
  if q4.1 = 0 then
    bz ci_0 q4.2
  else
  ob (cMarket_askFancies n q4.2) fun q5 =>
  ob (cj_fill_75 n ci_0 q5) fun q6 =>
  cMarket_search_b61 n n x3 ci_1 ci_0 (uI q6 71 8 (1073741824 : Int32)))
def cTop_prices_b84 (n : Nat) (s0 : Int32) (σ : bS) : Option (Int32 × bS) :=
  some (s0, σ)
def cTop_prices_b26 (n : Nat) (x1 : Int32) (x2 : Int32) (x3 : Int32) (x4 : Int32) (σ : bS) : Option (Int32 × bS) :=
  ob (cTop_rowFault n x1 x2 σ) fun q1 =>
  if q1.1 = 0 then
    ob (cMarket_search n x1 x2 x3 q1.2) fun q2 =>
    if q2.1 = 0 then
      some (cb_m2, q2.2)
    else
    if x4 = ci_m1 then
      cTop_prices_b84 n (sI q2.2 71 8) q2.2
    else
    bin_ x4 6 (
    cTop_prices_b84 n (sA q2.2 76 x4) q2.2)
  else
  some (q1.1, q1.2)
def cTop_prices_b24 (n : Nat) (σ : bS) : Option (Int32 × bS) :=
  some (ci_m1, σ)
def cTop_prices (n : Nat) (x1 : Int32) (x2 : Int32) (x3 : Int32) (x4 : Int32) (σ : bS) : Option (Int32 × bS) :=
  if x3 < 0 then
    cTop_prices_b24 n σ
  else
  if ci_3 < x3 then
    cTop_prices_b24 n σ
  else
  if x4 = ci_m1 then
    cTop_prices_b26 n x1 x2 x3 x4 σ
  else
  ob (cTop_isBank n x4 σ) fun q3 =>
  if q3.1 = 0 then
    cTop_prices_b24 n q3.2
  else
  cTop_prices_b26 n x1 x2 x3 x4 q3.2
def cSeen_add_b47 (n : Nat) (s0 : Int32) (σ : bS) : Option (Int32 × bS) :=
  some (s0, σ)
def cSeen_add (n : Nat) (x1 : Int32) (x2 : Int32) (σ : bS) : Option (Int32 × bS) :=
  if (sI σ 77 4) < cb_12 then
    bin_ (sI σ 77 4) 12 (
    bin_ (sI (uA σ 78 (sI σ 77 4) x1) 77 4) 12 (
    cSeen_add_b47 n ((sI (uI (uA (uA σ 78 (sI σ 77 4) x1) 79 (sI (uA σ 78 (sI σ 77 4) x1) 77 4) x2) 77 4 ((sI (uA (uA σ 78 (sI σ 77 4) x1) 79 (sI (uA σ 78 (sI σ 77 4) x1) 77 4) x2) 77 4) + ci_1)) 77 4) - ci_1) (uI (uA (uA σ 78 (sI σ 77 4) x1) 79 (sI (uA σ 78 (sI σ 77 4) x1) 77 4) x2) 77 4 ((sI (uA (uA σ 78 (sI σ 77 4) x1) 79 (sI (uA σ 78 (sI σ 77 4) x1) 77 4) x2) 77 4) + ci_1))))
  else
  some (ci_m1, σ)
def cTop_see_b29 (n : Nat) (s0 : Int32) (σ : bS) : Option (Int32 × bS) :=
  some (s0, σ)
def cTop_see_b28 (n : Nat) (σ : bS) : Option (Int32 × bS) :=
  cTop_see_b29 n ci_m1 σ
def cTop_see (n : Nat) (x1 : Int32) (x2 : Int32) (σ : bS) : Option (Int32 × bS) :=
  ob (cTop_isMan n x1 σ) fun q1 =>
  if q1.1 = 0 then
    cTop_see_b28 n q1.2
  else
  ob (cTop_isBank n x2 q1.2) fun q2 =>
  if q2.1 = 0 then
    cTop_see_b28 n q2.2
  else
  ob (cSeen_add n x1 x2 q2.2) fun q3 =>
  cTop_see_b29 n q3.1 q3.2
def cTop_say_b16 (n : Nat) (σ : bS) : Option (Int32 × bS) :=
  bz ci_0 σ
def cTop_say (n : Nat) (x1 : Int32) (x2 : Int32) (σ : bS) : Option (Int32 × bS) :=
  ob (cTop_isMan n x1 σ) fun q1 =>
  if q1.1 = 0 then
    cTop_say_b16 n q1.2
  else
  ob (cTop_isBank n x2 q1.2) fun q2 =>
  if q2.1 = 0 then
    cTop_say_b16 n q2.2
  else
  bin_ x1 7 (
  bz ci_1 (uA q2.2 81 x1 x2))
def cTop_forget (n : Nat) (σ : bS) : Option (Int32 × bS) :=
  ob (cSeen_clear n σ) fun q1 =>
  some ((sI σ 77 4), q1)
def cTop_isKnown_b20 (n : Nat) (s0 : Int32) (σ : bS) : Option (Int32 × bS) :=
  bz s0 σ
def cTop_isKnown_b19 (n : Nat) (σ : bS) : Option (Int32 × bS) :=
  cTop_isKnown_b20 n ci_0 σ
def cTop_isKnown (n : Nat) (x1 : Int32) (σ : bS) : Option (Int32 × bS) :=
  if x1 < 0 then
    cTop_isKnown_b19 n σ
  else
  if (sI σ 77 4) < x1 then
    cTop_isKnown_b19 n σ
  else
  cTop_isKnown_b20 n ci_1 σ
def cj_fill_80_b5 (n : Nat) : Nat → Int32 → Int32 → Int32 → bS → Option bS
  | 0, _, _, _, _ => none
  | k + 1, x1, x2, x3, σ =>
  if x3 ≤ x2 then
    some σ
  else
  bin_ x2 7 (
  (cj_fill_80_b5 n k) x1 (x2 + ci_1) x3 (uA σ 80 x2 x1))
def cj_fill_80 (n : Nat) (x1 : Int32) (σ : bS) : Option bS :=
  cj_fill_80_b5 n n x1 ci_0 cn_7 σ
def cSeen_learn_b53 (n : Nat) (r10 : Int32 → Int32 → bS → Option (Int32 × bS)) (x1 : Int32) (x2 : Int32) (x3 : Int32) (σ : bS) : Option (Int32 × bS) :=
  bin_ (x2 + ci_1) 12 (
  bin_ x3 7 (
  r10 x1 (x2 + ci_1) (uA σ 80 x3 (sA σ 79 (x2 + ci_1)))))
def cSeen_learn_b10 (n : Nat) : Nat → Int32 → Int32 → bS → Option (Int32 × bS)
  | 0, _, _, _ => none
  | k + 1, x1, x2, σ =>
  if x1 ≤ (x2 + ci_1) then
    bz ci_1 σ
  else
  bin_ x2 12 (
  bin_ (sA σ 78 x2) 7 (
  if (sA σ 80 (sA σ 78 x2)) = ci_m1 then
    cSeen_learn_b53 n (cSeen_learn_b10 n k) x1 x2 (sA σ 78 x2) σ
  else
  bin_ (sA σ 78 x2) 7 (
  bin_ (x2 + ci_1) 12 (
  if (sA σ 80 (sA σ 78 x2)) = (sA σ 79 (x2 + ci_1)) then
    cSeen_learn_b53 n (cSeen_learn_b10 n k) x1 x2 (sA σ 78 x2) σ
  else
  bz ci_0 σ))))
def cSeen_learn (n : Nat) (x1 : Int32) (σ : bS) : Option (Int32 × bS) :=
  ob (cj_fill_80 n ci_m1 σ) fun q1 =>
  cSeen_learn_b10 n n x1 ci_0 q1
def cSeen_waysToFit_1_b53 (n : Nat) (r26 : Int32 → Int32 → bS → Option (Int32 × bS)) (x3 : Int32) (x4 : Int32) (σ : bS) : Option (Int32 × bS) :=
  r26 x3 (x4 + ci_1) σ
def cSeen_waysToFit_1_b26 (n : Nat) : Nat → Int32 → Int32 → bS → Option (Int32 × bS)
  | 0, _, _, _ => none
  | k + 1, x3, x4, σ =>
  if (sI σ 1 3) ≤ x4 then
    some (x3, σ)
  else
  bin_ x4 7 (
  if (sA σ 80 x4) = ci_m1 then
    cSeen_waysToFit_1_b53 n (cSeen_waysToFit_1_b26 n k) (x3 * (sI σ 1 0)) x4 σ
  else
  cSeen_waysToFit_1_b53 n (cSeen_waysToFit_1_b26 n k) x3 x4 σ)
def cSeen_waysToFit_1_b22 (n : Nat) (s0 : Int32) (σ : bS) : Option (Int32 × bS) :=
  cSeen_waysToFit_1_b26 n n s0 ci_0 σ
def cSeen_waysToFit_1 (n : Nat) (x1 : Int32) (σ : bS) : Option (Int32 × bS) :=
  ob (cSeen_learn n x1 σ) fun q1 =>
  if q1.1 = 0 then
    some (ci_0, q1.2)
  else
  if x1 = 0 then
    cSeen_waysToFit_1_b22 n (sI q1.2 1 0) q1.2
  else
  cSeen_waysToFit_1_b22 n ci_1 q1.2
def cTop_fits_b24 (n : Nat) (s0 : Int32) (σ : bS) : Option (Int32 × bS) :=
  some (s0, σ)
def cTop_fits (n : Nat) (x1 : Int32) (σ : bS) : Option (Int32 × bS) :=
  ob (cTop_isKnown n x1 σ) fun q1 =>
  if q1.1 = 0 then
    cTop_fits_b24 n ci_m1 q1.2
  else
  ob (cSeen_waysToFit_1 n x1 q1.2) fun q2 =>
  cTop_fits_b24 n q2.1 q2.2
def cSeen_sureWish_1_b35 (n : Nat) (s0 : Int32) (σ : bS) : Option (Int32 × bS) :=
  some (s0, σ)
def cSeen_sureWish_1 (n : Nat) (x1 : Int32) (x2 : Int32) (σ : bS) : Option (Int32 × bS) :=
  ob (cSeen_learn n x1 σ) fun q1 =>
  if q1.1 = 0 then
    some (cb_m2, q1.2)
  else
  bin_ x2 7 (
  if (sA q1.2 80 x2) = ci_m1 then
    if (sI q1.2 1 0) = ci_1 then
      cSeen_sureWish_1_b35 n ci_0 q1.2
    else
    cSeen_sureWish_1_b35 n cb_m2 q1.2
  else
  bin_ x2 7 (
  some ((sA q1.2 80 x2), q1.2)))
def cTop_sure_b33 (n : Nat) (s0 : Int32) (σ : bS) : Option (Int32 × bS) :=
  some (s0, σ)
def cTop_sure_b32 (n : Nat) (σ : bS) : Option (Int32 × bS) :=
  cTop_sure_b33 n ci_m1 σ
def cTop_sure (n : Nat) (x1 : Int32) (x2 : Int32) (σ : bS) : Option (Int32 × bS) :=
  ob (cTop_isKnown n x1 σ) fun q1 =>
  if q1.1 = 0 then
    cTop_sure_b32 n q1.2
  else
  ob (cTop_isMan n x2 q1.2) fun q2 =>
  if q2.1 = 0 then
    cTop_sure_b32 n q2.2
  else
  ob (cSeen_sureWish_1 n x1 x2 q2.2) fun q3 =>
  cTop_sure_b33 n q3.1 q3.2
def cSeen_trueOnes_1_b69 (n : Nat) (r15 : Int32 → Int32 → bS → Option (Int32 × bS)) (x3 : Int32) (x4 : Int32) (σ : bS) : Option (Int32 × bS) :=
  r15 x3 (x4 + ci_1) σ
def cSeen_trueOnes_1_b62 (n : Nat) (r15 : Int32 → Int32 → bS → Option (Int32 × bS)) (x3 : Int32) (x4 : Int32) (σ : bS) : Option (Int32 × bS) :=
  cSeen_trueOnes_1_b69 n r15 (x3 ||| (ci_1 <<< (x4 &&& 31))) x4 σ
def cSeen_trueOnes_1_b15 (n : Nat) : Nat → Int32 → Int32 → bS → Option (Int32 × bS)
  | 0, _, _, _ => none
  | k + 1, x3, x4, σ =>
  if (sI σ 1 3) ≤ x4 then
    some (x3, σ)
  else
  bin_ x4 7 (
  if (sA σ 81 x4) < 0 then
    cSeen_trueOnes_1_b69 n (cSeen_trueOnes_1_b15 n k) x3 x4 σ
  else
  bin_ x4 7 (
  if (sA σ 80 x4) = ci_m1 then
    cSeen_trueOnes_1_b62 n (cSeen_trueOnes_1_b15 n k) x3 x4 σ
  else
  bin_ x4 7 (
  bin_ x4 7 (
  if (sA σ 80 x4) = (sA σ 81 x4) then
    cSeen_trueOnes_1_b62 n (cSeen_trueOnes_1_b15 n k) x3 x4 σ
  else
  cSeen_trueOnes_1_b69 n (cSeen_trueOnes_1_b15 n k) x3 x4 σ))))
def cSeen_trueOnes_1 (n : Nat) (x1 : Int32) (σ : bS) : Option (Int32 × bS) :=
  ob (cSeen_learn n x1 σ) fun q1 =>
  if q1.1 = 0 then
    some (ci_0, q1.2)
  else
  cSeen_trueOnes_1_b15 n n ci_0 ci_0 q1.2
def cTop_trust_b24 (n : Nat) (s0 : Int32) (σ : bS) : Option (Int32 × bS) :=
  some (s0, σ)
def cTop_trust (n : Nat) (x1 : Int32) (σ : bS) : Option (Int32 × bS) :=
  ob (cTop_isKnown n x1 σ) fun q1 =>
  if q1.1 = 0 then
    cTop_trust_b24 n ci_m1 q1.2
  else
  ob (cSeen_trueOnes_1 n x1 q1.2) fun q2 =>
  cTop_trust_b24 n q2.1 q2.2
def cShelf_putInSlot_27_b9 (n : Nat) (σ : bS) : Option (Int32 × bS) :=
  bz ci_0 σ
def cShelf_putInSlot_27 (n : Nat) (x1 : Int32) (σ : bS) : Option (Int32 × bS) :=
  if x1 < 0 then
    cShelf_putInSlot_27_b9 n σ
  else
  if x1 < ci_3 then
    ob (cGoing_putInto_55 n ((cb_40 + x1) * cb_46) σ) fun q1 =>
    bz ci_1 (uI q1 54 3 ((sI q1 54 3) ||| (ci_1 <<< (x1 &&& 31))))
  else
  cShelf_putInSlot_27_b9 n σ
def cTop_hold (n : Nat) (x1 : Int32) (σ : bS) : Option (Int32 × bS) :=
  ob (cShelf_putInSlot_27 n x1 σ) fun q1 =>
  bz q1.1 q1.2
def cShelf_goOnFrom_27_b20 (n : Nat) (σ : bS) : Option (Int32 × bS) :=
  bz ci_0 σ
def cShelf_goOnFrom_27 (n : Nat) (x1 : Int32) (σ : bS) : Option (Int32 × bS) :=
  if x1 < 0 then
    cShelf_goOnFrom_27_b20 n σ
  else
  if ci_3 ≤ x1 then
    cShelf_goOnFrom_27_b20 n σ
  else
  if (((sI σ 54 3) >>> (x1 &&& 31)) &&& ci_1) = 0 then
    cShelf_goOnFrom_27_b20 n σ
  else
  ob (cGoing_takeOutOf_55 n ((cb_40 + x1) * cb_46) σ) fun q1 =>
  bz ci_1 (uI q1 54 2 ci_0)
def cTop_restore (n : Nat) (x1 : Int32) (σ : bS) : Option (Int32 × bS) :=
  ob (cShelf_goOnFrom_27 n x1 σ) fun q1 =>
  bz q1.1 q1.2
def cSeen_sayers_b25 (n : Nat) (r4 : Int32 → Int32 → bS → Option (Int32 × bS)) (x1 : Int32) (x2 : Int32) (σ : bS) : Option (Int32 × bS) :=
  r4 x1 (x2 + ci_1) σ
def cSeen_sayers_b4 (n : Nat) : Nat → Int32 → Int32 → bS → Option (Int32 × bS)
  | 0, _, _, _ => none
  | k + 1, x1, x2, σ =>
  if cb_7 ≤ x2 then
    some (x1, σ)
  else
  bin_ x2 7 (
  if (sA σ 81 x2) < 0 then
    cSeen_sayers_b25 n (cSeen_sayers_b4 n k) x1 x2 σ
  else
  cSeen_sayers_b25 n (cSeen_sayers_b4 n k) (x1 ||| (ci_1 <<< (x2 &&& 31))) x2 σ)
def cSeen_sayers (n : Nat) (σ : bS) : Option (Int32 × bS) :=
  cSeen_sayers_b4 n n ci_0 ci_0 σ
def cTop_count (n : Nat) (x1 : Int32) (σ : bS) : Option (Int32 × bS) :=
  if (x1).toInt = 0 then
    some ((sI σ 1 0), σ)
  else
  if (x1).toInt = 1 then
    some ((sI σ 1 1), σ)
  else
  if (x1).toInt = 2 then
    some ((sI σ 1 2), σ)
  else
  if (x1).toInt = 3 then
    some ((sI σ 1 3), σ)
  else
  if (x1).toInt = 4 then
    some ((sI σ 27 2), σ)
  else
  if (x1).toInt = 5 then
    some ((sI σ 27 3), σ)
  else
  if (x1).toInt = 6 then
    some ((sI σ 27 4), σ)
  else
  if (x1).toInt = 7 then
    some ((sI σ 0 1), σ)
  else
  if (x1).toInt = 8 then
    some ((sI σ 54 2), σ)
  else
  if (x1).toInt = 9 then
    some ((sI σ 77 4), σ)
  else
  if (x1).toInt = 10 then
    ob (cj_bitCount n (sI σ 54 3) σ) fun q1 =>
    some (q1.1, q1.2)
  else
  if (x1).toInt = 11 then
    ob (cSeen_sayers n σ) fun q2 =>
    some (q2.1, q2.2)
  else
  if (x1).toInt = 12 then
    ob (cTop_orNot n (sI σ 1 15) σ) fun q3 =>
    some (q3.1, q3.2)
  else
  some (ci_m1, σ)
