def cb_10 : Int32 := (Int8.ofInt (10)).toInt32
theorem cb_10_eq : cb_10 = 10 := by decide
def cb_100 : Int32 := (Int8.ofInt (100)).toInt32
theorem cb_100_eq : cb_100 = 100 := by decide
def cb_11 : Int32 := (Int8.ofInt (11)).toInt32
theorem cb_11_eq : cb_11 = 11 := by decide
def cb_12 : Int32 := (Int8.ofInt (12)).toInt32
theorem cb_12_eq : cb_12 = 12 := by decide
def cb_122 : Int32 := (Int8.ofInt (122)).toInt32
theorem cb_122_eq : cb_122 = 122 := by decide
def cb_13 : Int32 := (Int8.ofInt (13)).toInt32
theorem cb_13_eq : cb_13 = 13 := by decide
def cb_14 : Int32 := (Int8.ofInt (14)).toInt32
theorem cb_14_eq : cb_14 = 14 := by decide
def cb_15 : Int32 := (Int8.ofInt (15)).toInt32
theorem cb_15_eq : cb_15 = 15 := by decide
def cb_16 : Int32 := (Int8.ofInt (16)).toInt32
theorem cb_16_eq : cb_16 = 16 := by decide
def cb_17 : Int32 := (Int8.ofInt (17)).toInt32
theorem cb_17_eq : cb_17 = 17 := by decide
def cb_18 : Int32 := (Int8.ofInt (18)).toInt32
theorem cb_18_eq : cb_18 = 18 := by decide
def cb_19 : Int32 := (Int8.ofInt (19)).toInt32
theorem cb_19_eq : cb_19 = 19 := by decide
def cb_20 : Int32 := (Int8.ofInt (20)).toInt32
theorem cb_20_eq : cb_20 = 20 := by decide
def cb_21 : Int32 := (Int8.ofInt (21)).toInt32
theorem cb_21_eq : cb_21 = 21 := by decide
def cb_22 : Int32 := (Int8.ofInt (22)).toInt32
theorem cb_22_eq : cb_22 = 22 := by decide
def cb_23 : Int32 := (Int8.ofInt (23)).toInt32
theorem cb_23_eq : cb_23 = 23 := by decide
def cb_24 : Int32 := (Int8.ofInt (24)).toInt32
theorem cb_24_eq : cb_24 = 24 := by decide
def cb_26 : Int32 := (Int8.ofInt (26)).toInt32
theorem cb_26_eq : cb_26 = 26 := by decide
def cb_32 : Int32 := (Int8.ofInt (32)).toInt32
theorem cb_32_eq : cb_32 = 32 := by decide
def cb_33 : Int32 := (Int8.ofInt (33)).toInt32
theorem cb_33_eq : cb_33 = 33 := by decide
def cb_39 : Int32 := (Int8.ofInt (39)).toInt32
theorem cb_39_eq : cb_39 = 39 := by decide
def cb_40 : Int32 := (Int8.ofInt (40)).toInt32
theorem cb_40_eq : cb_40 = 40 := by decide
def cb_41 : Int32 := (Int8.ofInt (41)).toInt32
theorem cb_41_eq : cb_41 = 41 := by decide
def cb_42 : Int32 := (Int8.ofInt (42)).toInt32
theorem cb_42_eq : cb_42 = 42 := by decide
def cb_43 : Int32 := (Int8.ofInt (43)).toInt32
theorem cb_43_eq : cb_43 = 43 := by decide
def cb_45 : Int32 := (Int8.ofInt (45)).toInt32
theorem cb_45_eq : cb_45 = 45 := by decide
def cb_46 : Int32 := (Int8.ofInt (46)).toInt32
theorem cb_46_eq : cb_46 = 46 := by decide
def cb_47 : Int32 := (Int8.ofInt (47)).toInt32
theorem cb_47_eq : cb_47 = 47 := by decide
def cb_48 : Int32 := (Int8.ofInt (48)).toInt32
theorem cb_48_eq : cb_48 = 48 := by decide
def cb_57 : Int32 := (Int8.ofInt (57)).toInt32
theorem cb_57_eq : cb_57 = 57 := by decide
def cb_59 : Int32 := (Int8.ofInt (59)).toInt32
theorem cb_59_eq : cb_59 = 59 := by decide
def cb_6 : Int32 := (Int8.ofInt (6)).toInt32
theorem cb_6_eq : cb_6 = 6 := by decide
def cb_60 : Int32 := (Int8.ofInt (60)).toInt32
theorem cb_60_eq : cb_60 = 60 := by decide
def cb_61 : Int32 := (Int8.ofInt (61)).toInt32
theorem cb_61_eq : cb_61 = 61 := by decide
def cb_7 : Int32 := (Int8.ofInt (7)).toInt32
theorem cb_7_eq : cb_7 = 7 := by decide
def cb_8 : Int32 := (Int8.ofInt (8)).toInt32
theorem cb_8_eq : cb_8 = 8 := by decide
def cb_9 : Int32 := (Int8.ofInt (9)).toInt32
theorem cb_9_eq : cb_9 = 9 := by decide
def cb_96 : Int32 := (Int8.ofInt (96)).toInt32
theorem cb_96_eq : cb_96 = 96 := by decide
def cb_97 : Int32 := (Int8.ofInt (97)).toInt32
theorem cb_97_eq : cb_97 = 97 := by decide
def cb_99 : Int32 := (Int8.ofInt (99)).toInt32
theorem cb_99_eq : cb_99 = 99 := by decide
def cb_m2 : Int32 := (Int8.ofInt (-2)).toInt32
theorem cb_m2_eq : cb_m2 = -2 := by decide
def cb_m3 : Int32 := (Int8.ofInt (-3)).toInt32
theorem cb_m3_eq : cb_m3 = -3 := by decide
def cb_m99 : Int32 := (Int8.ofInt (-99)).toInt32
theorem cb_m99_eq : cb_m99 = -99 := by decide
def ci_0 : Int32 := Int32.ofInt (0)
theorem ci_0_eq : ci_0 = 0 := by decide
def ci_1 : Int32 := Int32.ofInt (1)
theorem ci_1_eq : ci_1 = 1 := by decide
def ci_2 : Int32 := Int32.ofInt (2)
theorem ci_2_eq : ci_2 = 2 := by decide
def ci_3 : Int32 := Int32.ofInt (3)
theorem ci_3_eq : ci_3 = 3 := by decide
def ci_4 : Int32 := Int32.ofInt (4)
theorem ci_4_eq : ci_4 = 4 := by decide
def ci_5 : Int32 := Int32.ofInt (5)
theorem ci_5_eq : ci_5 = 5 := by decide
def ci_m1 : Int32 := Int32.ofInt (-1)
theorem ci_m1_eq : ci_m1 = -1 := by decide
def cs_1000 : Int32 := (Int16.ofInt (1000)).toInt32
theorem cs_1000_eq : cs_1000 = 1000 := by decide
def cs_1001 : Int32 := (Int16.ofInt (1001)).toInt32
theorem cs_1001_eq : cs_1001 = 1001 := by decide
def cs_12345 : Int32 := (Int16.ofInt (12345)).toInt32
theorem cs_12345_eq : cs_12345 = 12345 := by decide
def cs_144 : Int32 := (Int16.ofInt (144)).toInt32
theorem cs_144_eq : cs_144 = 144 := by decide
def cs_196 : Int32 := (Int16.ofInt (196)).toInt32
theorem cs_196_eq : cs_196 = 196 := by decide
def cs_200 : Int32 := (Int16.ofInt (200)).toInt32
theorem cs_200_eq : cs_200 = 200 := by decide
def cs_2000 : Int32 := (Int16.ofInt (2000)).toInt32
theorem cs_2000_eq : cs_2000 = 2000 := by decide
def cs_255 : Int32 := (Int16.ofInt (255)).toInt32
theorem cs_255_eq : cs_255 = 255 := by decide
def cs_288 : Int32 := (Int16.ofInt (288)).toInt32
theorem cs_288_eq : cs_288 = 288 := by decide
def cs_300 : Int32 := (Int16.ofInt (300)).toInt32
theorem cs_300_eq : cs_300 = 300 := by decide
def cs_400 : Int32 := (Int16.ofInt (400)).toInt32
theorem cs_400_eq : cs_400 = 400 := by decide
def cs_500 : Int32 := (Int16.ofInt (500)).toInt32
theorem cs_500_eq : cs_500 = 500 := by decide
def cs_999 : Int32 := (Int16.ofInt (999)).toInt32
theorem cs_999_eq : cs_999 = 999 := by decide
def cs_9999 : Int32 := (Int16.ofInt (9999)).toInt32
theorem cs_9999_eq : cs_9999 = 9999 := by decide
def cs_m1000 : Int32 := (Int16.ofInt (-1000)).toInt32
theorem cs_m1000_eq : cs_m1000 = -1000 := by decide
def m_typed_b23 (n : Nat) (r2 : Int32 → Int32 → bS → Option bS) (x1 : Int32) (x2 : Int32) (s1 : Int32) (s2 : Int32) (s3 : Int32) (σ : bS) : Option bS :=
  bin_ s1 2000 (
  r2 x1 (x2 + ci_1) (uI (uA σ 1 s1 ((s2 >>> (s3 &&& 31)) &&& cs_255)) 0 0 ((sI (uA σ 1 s1 ((s2 >>> (s3 &&& 31)) &&& cs_255)) 0 0) + ci_1)))
def m_typed_b2 (n : Nat) : Nat → Int32 → Int32 → bS → Option bS
  | 0, _, _, _ => none
  | k + 1, x1, x2, σ =>
  if ci_4 ≤ x2 then
    some σ
  else
  m_typed_b23 n (m_typed_b2 n k) x1 x2 (sI σ 0 0) x1 (cb_24 - (cb_8 * x2)) σ
def m_typed (n : Nat) (x1 : Int32) (σ : bS) : Option bS :=
  m_typed_b2 n n x1 ci_0 σ
def m_feed (n : Nat) (x1 : Int32) (x2 : Int32) (x3 : Int32) (x4 : Int32) (x5 : Int32) (σ : bS) : Option (Int32 × bS) :=
  if ((sI σ 0 0) + cb_20) ≤ cs_2000 then
    ob (m_typed n x1 σ) fun q1 =>
    ob (m_typed n x2 q1) fun q2 =>
    ob (m_typed n x3 q2) fun q3 =>
    ob (m_typed n x4 q3) fun q4 =>
    ob (m_typed n x5 q4) fun q5 =>
    some ((sI q5 0 0), q5)
  else
  some (ci_m1, σ)
def m_back_b21 (n : Nat) (s1 : Int32) (σ : bS) : Option (Int32 × bS) :=
  some ((sI (uI σ 0 0 s1) 0 0), (uI σ 0 0 s1))
def m_back_b12 (n : Nat) (σ : bS) : Option (Int32 × bS) :=
  some (ci_m1, σ)
def m_back (n : Nat) (x1 : Int32) (σ : bS) : Option (Int32 × bS) :=
  if x1 < 0 then
    m_back_b12 n σ
  else
  if x1 ≤ (sI σ 0 0) then
    m_back_b21 n ((sI σ 0 0) - x1) σ
  else
  m_back_b12 n σ
def m_byteAt_b18 (n : Nat) (s0 : Int32) (σ : bS) : Option (Int32 × bS) :=
  some (s0, σ)
def m_byteAt (n : Nat) (x1 : Int32) (σ : bS) : Option (Int32 × bS) :=
  if (sI σ 0 0) ≤ x1 then
    m_byteAt_b18 n ci_0 σ
  else
  bin_ x1 2000 (
  m_byteAt_b18 n (sA σ 1 x1) σ)
def m_isLetter_b25 (n : Nat) (s0 : Int32) (σ : bS) : Option (Int32 × bS) :=
  bz s0 σ
def m_isLetter_b24 (n : Nat) (σ : bS) : Option (Int32 × bS) :=
  m_isLetter_b25 n ci_0 σ
def m_isLetter (n : Nat) (x1 : Int32) (σ : bS) : Option (Int32 × bS) :=
  ob (m_byteAt n x1 σ) fun q1 =>
  if q1.1 < cb_97 then
    m_isLetter_b24 n q1.2
  else
  ob (m_byteAt n x1 q1.2) fun q2 =>
  if cb_122 < q2.1 then
    m_isLetter_b24 n q2.2
  else
  m_isLetter_b25 n ci_1 q2.2
def m_isDigit_b25 (n : Nat) (s0 : Int32) (σ : bS) : Option (Int32 × bS) :=
  bz s0 σ
def m_isDigit_b24 (n : Nat) (σ : bS) : Option (Int32 × bS) :=
  m_isDigit_b25 n ci_0 σ
def m_isDigit (n : Nat) (x1 : Int32) (σ : bS) : Option (Int32 × bS) :=
  ob (m_byteAt n x1 σ) fun q1 =>
  if q1.1 < cb_48 then
    m_isDigit_b24 n q1.2
  else
  ob (m_byteAt n x1 q1.2) fun q2 =>
  if cb_57 < q2.1 then
    m_isDigit_b24 n q2.2
  else
  m_isDigit_b25 n ci_1 q2.2
def m_token (n : Nat) (x1 : Int32) (x2 : Int32) (x3 : Int32) (σ : bS) : Option bS :=
  bin_ (sI σ 0 2) 2001 (
  bin_ (sI (uA σ 2 (sI σ 0 2) x1) 0 2) 2001 (
  bin_ (sI (uA (uA σ 2 (sI σ 0 2) x1) 3 (sI (uA σ 2 (sI σ 0 2) x1) 0 2) x2) 0 2) 2001 (
  some (uI (uA (uA (uA σ 2 (sI σ 0 2) x1) 3 (sI (uA σ 2 (sI σ 0 2) x1) 0 2) x2) 4 (sI (uA (uA σ 2 (sI σ 0 2) x1) 3 (sI (uA σ 2 (sI σ 0 2) x1) 0 2) x2) 0 2) x3) 0 2 ((sI (uA (uA (uA σ 2 (sI σ 0 2) x1) 3 (sI (uA σ 2 (sI σ 0 2) x1) 0 2) x2) 4 (sI (uA (uA σ 2 (sI σ 0 2) x1) 3 (sI (uA σ 2 (sI σ 0 2) x1) 0 2) x2) 0 2) x3) 0 2) + ci_1)))))
def m_wordOf (n : Nat) (x0 : Int64) (σ : bS) : Option (Int32 × bS) :=
  if (lg_cmp x0 (40484 : Int64)) = 0 then
    some (ci_0, σ)
  else
  if (lg_cmp x0 (316205 : Int64)) = 0 then
    some (ci_1, σ)
  else
  if (lg_cmp x0 (38444009 : Int64)) = 0 then
    some (ci_2, σ)
  else
  if (lg_cmp x0 (9518 : Int64)) = 0 then
    some (ci_3, σ)
  else
  if (lg_cmp x0 (335187793 : Int64)) = 0 then
    some (ci_4, σ)
  else
  if (lg_cmp x0 (404931 : Int64)) = 0 then
    some (ci_5, σ)
  else
  if (lg_cmp x0 (148870 : Int64)) = 0 then
    some (cb_6, σ)
  else
  if (lg_cmp x0 (138767 : Int64)) = 0 then
    some (cb_7, σ)
  else
  if (lg_cmp x0 (3218641 : Int64)) = 0 then
    some (cb_8, σ)
  else
  if (lg_cmp x0 (80096 : Int64)) = 0 then
    some (cb_9, σ)
  else
  if (lg_cmp x0 (171028703845 : Int64)) = 0 then
    some (cb_10, σ)
  else
  if (lg_cmp x0 (164516 : Int64)) = 0 then
    some (cb_11, σ)
  else
  if (lg_cmp x0 (377761 : Int64)) = 0 then
    some (cb_12, σ)
  else
  if (lg_cmp x0 (249 : Int64)) = 0 then
    some (cb_13, σ)
  else
  if (lg_cmp x0 (399641 : Int64)) = 0 then
    some (cb_14, σ)
  else
  if (lg_cmp x0 (107681 : Int64)) = 0 then
    some (cb_15, σ)
  else
  if (lg_cmp x0 (168984 : Int64)) = 0 then
    some (cb_16, σ)
  else
  if (lg_cmp x0 (237458 : Int64)) = 0 then
    some (cb_17, σ)
  else
  if (lg_cmp x0 (10815598 : Int64)) = 0 then
    some (cb_18, σ)
  else
  if (lg_cmp x0 (8930039 : Int64)) = 0 then
    some (cb_19, σ)
  else
  if (lg_cmp x0 (168755 : Int64)) = 0 then
    some (cb_20, σ)
  else
  if (lg_cmp x0 (16998 : Int64)) = 0 then
    some (cb_21, σ)
  else
  if (lg_cmp x0 (161600 : Int64)) = 0 then
    some (cb_22, σ)
  else
  if (lg_cmp x0 (330748168 : Int64)) = 0 then
    some (cb_23, σ)
  else
  some (ci_m1, σ)
def m_signAt_b67 (n : Nat) (s0 : Int32) (σ : bS) : Option (Int32 × bS) :=
  some (s0, σ)
def m_signAt_b62 (n : Nat) (x2 : Int32) (σ : bS) : Option (Int32 × bS) :=
  m_signAt_b67 n x2 σ
def m_signAt_b36 (n : Nat) (x2 : Int32) (σ : bS) : Option (Int32 × bS) :=
  some (x2, σ)
def m_signAt (n : Nat) (x1 : Int32) (σ : bS) : Option (Int32 × bS) :=
  ob (m_byteAt n x1 σ) fun q1 =>
  if q1.1 = cb_59 then
    m_signAt_b36 n q1.1 q1.2
  else
  if q1.1 = cb_61 then
    m_signAt_b36 n q1.1 q1.2
  else
  if q1.1 = cb_43 then
    m_signAt_b36 n q1.1 q1.2
  else
  if q1.1 = cb_45 then
    m_signAt_b36 n q1.1 q1.2
  else
  if q1.1 = cb_42 then
    m_signAt_b36 n q1.1 q1.2
  else
  if q1.1 = cb_47 then
    m_signAt_b62 n q1.1 q1.2
  else
  if q1.1 = cb_60 then
    m_signAt_b62 n q1.1 q1.2
  else
  if q1.1 = cb_40 then
    m_signAt_b62 n q1.1 q1.2
  else
  if q1.1 = cb_41 then
    m_signAt_b62 n q1.1 q1.2
  else
  m_signAt_b67 n ci_0 q1.2
def m_scan_b191 (n : Nat) (x1 : Int32) (x3 : Int32) (s1 : Int32) (σ : bS) : Option (Int32 × bS) :=
  ob (m_token n s1 x1 x3 σ) fun q1 =>
  some ((x1 + ci_1), q1)
def m_scan_b168 (n : Nat) (x1 : Int32) (x2 : Int32) (x3 : Int32) (s1 : Int32) (σ : bS) : Option (Int32 × bS) :=
  ob (m_token n s1 x1 x3 σ) fun q2 =>
  some (x2, q2)
def m_scan_b159 (n : Nat) (x1 : Int32) (x2 : Int32) (x3 : Int32) (s1 : Int32) (σ : bS) : Option (Int32 × bS) :=
  if s1 ≤ ci_4 then
    m_scan_b168 n x1 x2 x3 ci_1 σ
  else
  m_scan_b168 n x1 x2 x3 ci_5 σ
def m_scan_b149 (n : Nat) (r120 : Int32 → Int32 → Int32 → bS → Option (Int32 × bS)) (x1 : Int32) (x2 : Int32) (x3 : Int32) (σ : bS) : Option (Int32 × bS) :=
  r120 x1 (x2 + ci_1) x3 σ
def m_scan_b148 (n : Nat) (r120 : Int32 → Int32 → Int32 → bS → Option (Int32 × bS)) (x1 : Int32) (x2 : Int32) (s0 : Int32) (σ : bS) : Option (Int32 × bS) :=
  m_scan_b149 n r120 x1 x2 s0 σ
def m_scan_b131 (n : Nat) (r120 : Int32 → Int32 → Int32 → bS → Option (Int32 × bS)) (x1 : Int32) (x2 : Int32) (x3 : Int32) (s0 : Int32) (σ : bS) : Option (Int32 × bS) :=
  if ci_4 ≤ s0 then
    m_scan_b149 n r120 x1 x2 x3 σ
  else
  ob (m_byteAt n x2 σ) fun q3 =>
  m_scan_b148 n r120 x1 x2 (((cb_10 * x3) + q3.1) - cb_48) q3.2
def m_scan_b120 (n : Nat) : Nat → Int32 → Int32 → Int32 → bS → Option (Int32 × bS)
  | 0, _, _, _, _ => none
  | k + 1, x1, x2, x3, σ =>
  ob (m_isDigit n x2 σ) fun q4 =>
  if q4.1 = 0 then
    m_scan_b159 n x1 x2 x3 (x2 - x1) q4.2
  else
  m_scan_b131 n (m_scan_b120 n k) x1 x2 x3 (x2 - x1) q4.2
def m_scan_b102 (n : Nat) (x1 : Int32) (x2 : Int32) (x5 : Int32) (s1 : Int32) (σ : bS) : Option (Int32 × bS) :=
  ob (m_token n s1 x1 x5 σ) fun q5 =>
  some (x2, q5)
def m_scan_b83 (n : Nat) (x1 : Int32) (x2 : Int32) (x5 : Int32) (s1 : Int32) (σ : bS) : Option (Int32 × bS) :=
  if s1 ≤ cb_8 then
    if x5 < 0 then
      m_scan_b102 n x1 x2 x5 ci_0 σ
    else
    m_scan_b102 n x1 x2 x5 ci_3 σ
  else
  m_scan_b102 n x1 x2 x5 ci_5 σ
def m_scan_b67 (n : Nat) (x1 : Int32) (x2 : Int32) (x3 : Int64) (s0 : Int32) (σ : bS) : Option (Int32 × bS) :=
  bin_ (sI σ 0 2) 2001 (
  m_scan_b83 n x1 x2 s0 (x2 - x1) (uJ σ 5 (sI σ 0 2) x3))
def m_scan_b54 (n : Nat) (x1 : Int32) (x2 : Int32) (x3 : Int64) (s0 : Int32) (σ : bS) : Option (Int32 × bS) :=
  if s0 ≤ cb_8 then
    ob (m_wordOf n x3 σ) fun q6 =>
    m_scan_b67 n x1 x2 x3 q6.1 q6.2
  else
  m_scan_b67 n x1 x2 x3 ci_m1 σ
def m_scan_b45 (n : Nat) (r12 : Int32 → Int32 → Int64 → bS → Option (Int32 × bS)) (x1 : Int32) (x2 : Int32) (x3 : Int64) (σ : bS) : Option (Int32 × bS) :=
  r12 x1 (x2 + ci_1) x3 σ
def m_scan_b23 (n : Nat) (r12 : Int32 → Int32 → Int64 → bS → Option (Int32 × bS)) (x1 : Int32) (x2 : Int32) (x3 : Int64) (s0 : Int32) (σ : bS) : Option (Int32 × bS) :=
  if cb_8 ≤ s0 then
    m_scan_b45 n r12 x1 x2 x3 σ
  else
  ob (m_byteAt n x2 σ) fun q7 =>
  m_scan_b45 n r12 x1 x2 (((x3 * (27 : Int64)) + (q7.1).toInt64) - (96 : Int64)) q7.2
def m_scan_b12 (n : Nat) : Nat → Int32 → Int32 → Int64 → bS → Option (Int32 × bS)
  | 0, _, _, _, _ => none
  | k + 1, x1, x2, x3, σ =>
  ob (m_isLetter n x2 σ) fun q8 =>
  if q8.1 = 0 then
    m_scan_b54 n x1 x2 x3 (x2 - x1) q8.2
  else
  m_scan_b23 n (m_scan_b12 n k) x1 x2 x3 (x2 - x1) q8.2
def m_scan (n : Nat) (x1 : Int32) (σ : bS) : Option (Int32 × bS) :=
  ob (m_isLetter n x1 σ) fun q9 =>
  if q9.1 = 0 then
    ob (m_isDigit n x1 q9.2) fun q10 =>
    if q10.1 = 0 then
      ob (m_signAt n x1 q10.2) fun q11 =>
      if q11.1 = 0 then
        m_scan_b191 n x1 q11.1 ci_5 q11.2
      else
      m_scan_b191 n x1 q11.1 ci_2 q11.2
    else
    m_scan_b120 n n x1 x1 ci_0 q10.2
  else
  m_scan_b12 n n x1 x1 (0 : Int64) q9.2
def m_scanAll_b101 (n : Nat) (σ : bS) : Option bS :=
  some σ
def m_scanAll_b87 (n : Nat) (x2 : Int32) (σ : bS) : Option bS :=
  if x2 = 0 then
    m_scanAll_b101 n σ
  else
  ob (m_token n ci_4 (sI σ 0 0) ci_0 σ) fun q1 =>
  m_scanAll_b101 n q1
def m_scanAll_b83 (n : Nat) (r9 : Int32 → Int32 → bS → Option bS) (x1 : Int32) (s0 : Int32) (σ : bS) : Option bS :=
  r9 x1 s0 σ
def m_scanAll_b73 (n : Nat) (r9 : Int32 → Int32 → bS → Option bS) (x1 : Int32) (s1 : Int32) (σ : bS) : Option bS :=
  bin_ s1 2001 (
  if (sA σ 2 s1) = ci_5 then
    m_scanAll_b83 n r9 x1 ci_0 σ
  else
  m_scanAll_b83 n r9 x1 ci_1 σ)
def m_scanAll_b51 (n : Nat) (r9 : Int32 → Int32 → bS → Option bS) (x1 : Int32) (x2 : Int32) (σ : bS) : Option bS :=
  r9 (x1 + ci_1) x2 σ
def m_scanAll_b9 (n : Nat) : Nat → Int32 → Int32 → bS → Option bS
  | 0, _, _, _ => none
  | k + 1, x1, x2, σ =>
  if (sI σ 0 0) ≤ x1 then
    m_scanAll_b87 n x2 σ
  else
  if x2 = 0 then
    m_scanAll_b87 n x2 σ
  else
  ob (m_byteAt n x1 σ) fun q2 =>
  if q2.1 = cb_32 then
    m_scanAll_b51 n (m_scanAll_b9 n k) x1 x2 q2.2
  else
  if q2.1 = cb_9 then
    m_scanAll_b51 n (m_scanAll_b9 n k) x1 x2 q2.2
  else
  if q2.1 = cb_10 then
    m_scanAll_b51 n (m_scanAll_b9 n k) x1 x2 q2.2
  else
  if q2.1 = cb_13 then
    m_scanAll_b51 n (m_scanAll_b9 n k) x1 x2 q2.2
  else
  ob (m_scan n x1 q2.2) fun q3 =>
  m_scanAll_b73 n (m_scanAll_b9 n k) q3.1 ((sI q3.2 0 2) - ci_1) q3.2
def m_scanAll (n : Nat) (σ : bS) : Option bS :=
  m_scanAll_b9 n n ci_0 ci_1 (uI σ 0 2 ci_0)
def m_wrong (n : Nat) (x1 : Int32) (σ : bS) : Option (Int32 × bS) :=
  bin_ (sI (uI σ 0 8 x1) 0 7) 2001 (
  bz ci_0 (uI (uI σ 0 8 x1) 0 9 (sA (uI σ 0 8 x1) 3 (sI (uI σ 0 8 x1) 0 7))))
def m_tells_b39 (n : Nat) (x1 : Int32) (x3 : Int32) (σ : bS) : Option bS :=
  some (uI (uI σ 0 10 x1) 0 11 x3)
def m_tells_b38 (n : Nat) (σ : bS) : Option bS :=
  some σ
def m_tells (n : Nat) (x1 : Int32) (x2 : Int32) (σ : bS) : Option bS :=
  bin_ x2 2001 (
  if (sI σ 0 10) = 0 then
    m_tells_b39 n x1 (sA σ 3 x2) σ
  else
  if (sI σ 0 11) < (sA σ 3 x2) then
    m_tells_b38 n σ
  else
  if (sA σ 3 x2) = (sI σ 0 11) then
    if x1 < (sI σ 0 10) then
      m_tells_b39 n x1 (sA σ 3 x2) σ
    else
    m_tells_b38 n σ
  else
  m_tells_b39 n x1 (sA σ 3 x2) σ)
def m_pass (n : Nat) (σ : bS) : Option (Int32 × bS) :=
  if (sI σ 0 7) < cs_400 then
    bz ci_1 (uI σ 0 7 ((sI σ 0 7) + ci_1))
  else
  ob (m_wrong n ci_2 σ) fun q1 =>
  bz q1.1 q1.2
def m_isSign_b31 (n : Nat) (s0 : Int32) (σ : bS) : Option (Int32 × bS) :=
  bz s0 σ
def m_isSign_b30 (n : Nat) (σ : bS) : Option (Int32 × bS) :=
  m_isSign_b31 n ci_0 σ
def m_isSign (n : Nat) (x1 : Int32) (σ : bS) : Option (Int32 × bS) :=
  bin_ (sI σ 0 7) 2001 (
  if (sA σ 2 (sI σ 0 7)) = ci_2 then
    bin_ (sI σ 0 7) 2001 (
    if (sA σ 4 (sI σ 0 7)) = x1 then
      m_isSign_b31 n ci_1 σ
    else
    m_isSign_b30 n σ)
  else
  m_isSign_b30 n σ)
def m_isWord_b31 (n : Nat) (s0 : Int32) (σ : bS) : Option (Int32 × bS) :=
  bz s0 σ
def m_isWord_b30 (n : Nat) (σ : bS) : Option (Int32 × bS) :=
  m_isWord_b31 n ci_0 σ
def m_isWord (n : Nat) (x1 : Int32) (σ : bS) : Option (Int32 × bS) :=
  bin_ (sI σ 0 7) 2001 (
  if (sA σ 2 (sI σ 0 7)) = ci_3 then
    bin_ (sI σ 0 7) 2001 (
    if (sA σ 4 (sI σ 0 7)) = x1 then
      m_isWord_b31 n ci_1 σ
    else
    m_isWord_b30 n σ)
  else
  m_isWord_b30 n σ)
def m_takes_b25 (n : Nat) (s0 : Int32) (σ : bS) : Option (Int32 × bS) :=
  bz s0 σ
def m_takes (n : Nat) (x1 : Int32) (σ : bS) : Option (Int32 × bS) :=
  bin_ (sI σ 0 7) 2001 (
  if (sA σ 2 (sI σ 0 7)) = x1 then
    ob (m_pass n σ) fun q1 =>
    m_takes_b25 n q1.1 q1.2
  else
  ob (m_wrong n ci_1 σ) fun q2 =>
  m_takes_b25 n q2.1 q2.2)
def m_takesSign_b20 (n : Nat) (s0 : Int32) (σ : bS) : Option (Int32 × bS) :=
  bz s0 σ
def m_takesSign (n : Nat) (x1 : Int32) (σ : bS) : Option (Int32 × bS) :=
  ob (m_isSign n x1 σ) fun q1 =>
  if q1.1 = 0 then
    ob (m_wrong n ci_1 q1.2) fun q2 =>
    m_takesSign_b20 n q2.1 q2.2
  else
  ob (m_pass n q1.2) fun q3 =>
  m_takesSign_b20 n q3.1 q3.2
def m_takesWord_b20 (n : Nat) (s0 : Int32) (σ : bS) : Option (Int32 × bS) :=
  bz s0 σ
def m_takesWord (n : Nat) (x1 : Int32) (σ : bS) : Option (Int32 × bS) :=
  ob (m_isWord n x1 σ) fun q1 =>
  if q1.1 = 0 then
    ob (m_wrong n ci_1 q1.2) fun q2 =>
    m_takesWord_b20 n q2.1 q2.2
  else
  ob (m_pass n q1.2) fun q3 =>
  m_takesWord_b20 n q3.1 q3.2
def m_takesInt_b47 (n : Nat) (σ : bS) : Option (Int32 × bS) :=
  bz ci_1 σ
def m_takesInt_b41 (n : Nat) (x3 : Int32) (σ : bS) : Option (Int32 × bS) :=
  ob (m_tells n ci_5 x3 σ) fun q1 =>
  m_takesInt_b47 n q1
def m_takesInt (n : Nat) (x1 : Int32) (x2 : Int32) (σ : bS) : Option (Int32 × bS) :=
  ob (m_takes n ci_1 σ) fun q2 =>
  if q2.1 = 0 then
    bz ci_0 q2.2
  else
  bin_ (sI σ 0 7) 2001 (
  if (sI (uI q2.2 0 35 (sA q2.2 4 (sI σ 0 7))) 0 35) < x1 then
    m_takesInt_b41 n (sI σ 0 7) (uI q2.2 0 35 (sA q2.2 4 (sI σ 0 7)))
  else
  if (sI (uI q2.2 0 35 (sA q2.2 4 (sI σ 0 7))) 0 35) ≤ x2 then
    m_takesInt_b47 n (uI q2.2 0 35 (sA q2.2 4 (sI σ 0 7)))
  else
  m_takesInt_b41 n (sI σ 0 7) (uI q2.2 0 35 (sA q2.2 4 (sI σ 0 7))))
def m_names_b50 (n : Nat) (r18 : Int32 → Int32 → Int32 → Int32 → bS → Option (Int32 × bS)) (x1 : Int32) (x2 : Int32) (x3 : Int32) (x4 : Int32) (σ : bS) : Option (Int32 × bS) :=
  r18 x1 x2 x3 (x4 + ci_1) σ
def m_names_b18 (n : Nat) : Nat → Int32 → Int32 → Int32 → Int32 → bS → Option (Int32 × bS)
  | 0, _, _, _, _, _ => none
  | k + 1, x1, x2, x3, x4, σ =>
  if (sI σ 0 31) ≤ x4 then
    bin_ x3 2001 (
    bin_ (sI σ 0 31) 20 (
    bin_ (sI (uJ σ 25 (sI σ 0 31) (sJ σ 5 x3)) 0 31) 20 (
    bin_ (sI (uA (uJ σ 25 (sI σ 0 31) (sJ σ 5 x3)) 26 (sI (uJ σ 25 (sI σ 0 31) (sJ σ 5 x3)) 0 31) x1) 0 31) 20 (
    bz ci_1 (uI (uA (uA (uJ σ 25 (sI σ 0 31) (sJ σ 5 x3)) 26 (sI (uJ σ 25 (sI σ 0 31) (sJ σ 5 x3)) 0 31) x1) 27 (sI (uA (uJ σ 25 (sI σ 0 31) (sJ σ 5 x3)) 26 (sI (uJ σ 25 (sI σ 0 31) (sJ σ 5 x3)) 0 31) x1) 0 31) x2) 0 31 ((sI (uA (uA (uJ σ 25 (sI σ 0 31) (sJ σ 5 x3)) 26 (sI (uJ σ 25 (sI σ 0 31) (sJ σ 5 x3)) 0 31) x1) 27 (sI (uA (uJ σ 25 (sI σ 0 31) (sJ σ 5 x3)) 26 (sI (uJ σ 25 (sI σ 0 31) (sJ σ 5 x3)) 0 31) x1) 0 31) x2) 0 31) + ci_1))))))
  else
  bin_ x4 20 (
  bin_ x3 2001 (
  if (lg_cmp (sJ σ 25 x4) (sJ σ 5 x3)) = 0 then
    ob (m_tells n ci_3 x3 σ) fun q1 =>
    m_names_b50 n (m_names_b18 n k) x1 x2 x3 x4 q1
  else
  m_names_b50 n (m_names_b18 n k) x1 x2 x3 x4 σ))
def m_names (n : Nat) (x1 : Int32) (x2 : Int32) (σ : bS) : Option (Int32 × bS) :=
  ob (m_takes n ci_0 σ) fun q2 =>
  if q2.1 = 0 then
    bz ci_0 q2.2
  else
  m_names_b18 n n x1 x2 (sI σ 0 7) ci_0 q2.2
def m_takesName_b86 (n : Nat) (σ : bS) : Option (Int32 × bS) :=
  bz ci_1 σ
def m_takesName_b70 (n : Nat) (r27 : Int32 → Int32 → Int32 → bS → Option (Int32 × bS)) (x1 : Int32) (x2 : Int32) (x3 : Int32) (σ : bS) : Option (Int32 × bS) :=
  r27 x1 x2 x3 σ
def m_takesName_b67 (n : Nat) (r27 : Int32 → Int32 → Int32 → bS → Option (Int32 × bS)) (x1 : Int32) (x2 : Int32) (x3 : Int32) (σ : bS) : Option (Int32 × bS) :=
  m_takesName_b70 n r27 x1 x2 (x3 + ci_m1) σ
def m_takesName_b27 (n : Nat) : Nat → Int32 → Int32 → Int32 → bS → Option (Int32 × bS)
  | 0, _, _, _, _ => none
  | k + 1, x1, x2, x3, σ =>
  if x3 < 0 then
    if 0 ≤ (sI σ 0 35) then
      m_takesName_b86 n σ
    else
    ob (m_tells n ci_4 x2 σ) fun q1 =>
    m_takesName_b86 n q1
  else
  bin_ x3 20 (
  bin_ x2 2001 (
  if (lg_cmp (sJ σ 25 x3) (sJ σ 5 x2)) = 0 then
    bin_ x3 20 (
    if (sA σ 26 x3) = x1 then
      bin_ x3 20 (
      m_takesName_b67 n (m_takesName_b27 n k) x1 x2 x3 (uI σ 0 35 (sA σ 27 x3)))
    else
    m_takesName_b67 n (m_takesName_b27 n k) x1 x2 x3 σ)
  else
  m_takesName_b67 n (m_takesName_b27 n k) x1 x2 x3 σ))
def m_takesName_b26 (n : Nat) (x1 : Int32) (x2 : Int32) (s0 : Int32) (σ : bS) : Option (Int32 × bS) :=
  m_takesName_b27 n n x1 x2 s0 σ
def m_takesName (n : Nat) (x1 : Int32) (σ : bS) : Option (Int32 × bS) :=
  ob (m_takes n ci_0 σ) fun q2 =>
  if q2.1 = 0 then
    bz ci_0 q2.2
  else
  m_takesName_b26 n x1 (sI σ 0 7) ((sI (uI q2.2 0 35 ci_m1) 0 31) - ci_1) (uI q2.2 0 35 ci_m1)
def m_emit (n : Nat) (x1 : Int32) (x2 : Int32) (σ : bS) : Option bS :=
  bin_ ci_1 2 (
  bin_ (cs_500 + (sA σ 6 ci_1)) 1000 (
  bin_ ci_1 2 (
  bin_ (cs_500 + (sA (uA σ 7 (cs_500 + (sA σ 6 ci_1)) x1) 6 ci_1)) 1000 (
  bin_ ci_1 2 (
  bin_ ci_1 2 (
  some (uA (uA (uA σ 7 (cs_500 + (sA σ 6 ci_1)) x1) 8 (cs_500 + (sA (uA σ 7 (cs_500 + (sA σ 6 ci_1)) x1) 6 ci_1)) x2) 6 ci_1 ((sA (uA (uA σ 7 (cs_500 + (sA σ 6 ci_1)) x1) 8 (cs_500 + (sA (uA σ 7 (cs_500 + (sA σ 6 ci_1)) x1) 6 ci_1)) x2) 6 ci_1) + ci_1))))))))
def m_rank_b19 (n : Nat) (s0 : Int32) (σ : bS) : Option (Int32 × bS) :=
  some (s0, σ)
def m_rank (n : Nat) (x0 : Int32) (σ : bS) : Option (Int32 × bS) :=
  if x0 ≤ ci_3 then
    if x0 ≤ ci_1 then
      m_rank_b19 n ci_0 σ
    else
    m_rank_b19 n ci_1 σ
  else
  m_rank_b19 n ci_2 σ
def m_reduce_b52 (n : Nat) (σ : bS) : Option bS :=
  some σ
def m_reduce_b32 (n : Nat) (r0 : Int32 → bS → Option bS) (x1 : Int32) (s1 : Int32) (σ : bS) : Option bS :=
  bin_ (sI (uI σ 0 36 s1) 0 36) 500 (
  ob (m_emit n (sA (uI σ 0 36 s1) 28 (sI (uI σ 0 36 s1) 0 36)) ci_0 (uI σ 0 36 s1)) fun q1 =>
  r0 x1 q1)
def m_reduce_b17 (n : Nat) (r0 : Int32 → bS → Option bS) (x1 : Int32) (s1 : Int32) (σ : bS) : Option bS :=
  bin_ s1 500 (
  ob (m_rank n (sA σ 28 s1) σ) fun q2 =>
  if q2.1 < x1 then
    m_reduce_b52 n q2.2
  else
  m_reduce_b32 n r0 x1 ((sI q2.2 0 36) - ci_1) q2.2)
def m_reduce_b0 (n : Nat) : Nat → Int32 → bS → Option bS
  | 0, _, _ => none
  | k + 1, x1, σ =>
  if (sI σ 0 36) ≤ 0 then
    m_reduce_b52 n σ
  else
  m_reduce_b17 n (m_reduce_b0 n k) x1 ((sI σ 0 36) - ci_1) σ
def m_reduce (n : Nat) (x1 : Int32) (σ : bS) : Option bS := m_reduce_b0 n n x1 σ
def m_await (n : Nat) (x1 : Int32) (σ : bS) : Option bS :=
  bin_ (sI σ 0 36) 500 (
  some (uI (uA σ 28 (sI σ 0 36) x1) 0 36 ((sI (uA σ 28 (sI σ 0 36) x1) 0 36) + ci_1)))
def m_takesUnit_b175 (n : Nat) (s0 : Int32) (σ : bS) : Option (Int32 × bS) :=
  some (s0, σ)
def m_takesUnit_b160 (n : Nat) (s1 : Int32) (s2 : Int32) (σ : bS) : Option (Int32 × bS) :=
  ob (m_emit n s1 s2 σ) fun q1 =>
  ob (m_pass n q1) fun q2 =>
  if q2.1 = 0 then
    m_takesUnit_b175 n ci_m1 q2.2
  else
  m_takesUnit_b175 n ci_0 q2.2
def m_takesUnit_b148 (n : Nat) (s1 : Int32) (s2 : Int32) (σ : bS) : Option (Int32 × bS) :=
  m_takesUnit_b160 n s1 s2 σ
def m_takesUnit_b132 (n : Nat) (x1 : Int32) (s1 : Int32) (σ : bS) : Option (Int32 × bS) :=
  if x1 = 0 then
    bin_ (sI σ 0 7) 2001 (
    m_takesUnit_b160 n s1 (sA σ 4 (sI σ 0 7)) σ)
  else
  bin_ (sI σ 0 7) 2001 (
  m_takesUnit_b148 n s1 ((sA σ 4 (sI σ 0 7)) - cb_16) σ)
def m_takesUnit_b122 (n : Nat) (x1 : Int32) (σ : bS) : Option (Int32 × bS) :=
  if x1 = 0 then
    m_takesUnit_b132 n x1 ci_0 σ
  else
  m_takesUnit_b132 n x1 ci_1 σ
def m_takesUnit_b121 (n : Nat) (s0 : Int32) (σ : bS) : Option (Int32 × bS) :=
  some (s0, σ)
def m_takesUnit_b90 (n : Nat) (s0 : Int32) (σ : bS) : Option (Int32 × bS) :=
  bin_ (sI σ 0 7) 2001 (
  if (sA σ 2 (sI σ 0 7)) = ci_1 then
    m_takesUnit_b122 n s0 σ
  else
  if s0 = 0 then
    ob (m_wrong n ci_1 σ) fun q3 =>
    if q3.1 = 0 then
      m_takesUnit_b121 n ci_m1 q3.2
    else
    m_takesUnit_b121 n ci_0 q3.2
  else
  m_takesUnit_b122 n s0 σ)
def m_takesUnit_b89 (n : Nat) (σ : bS) : Option (Int32 × bS) :=
  m_takesUnit_b90 n ci_0 σ
def m_takesUnit_b31 (n : Nat) (s0 : Int32) (σ : bS) : Option (Int32 × bS) :=
  some (s0, σ)
def m_takesUnit (n : Nat) (σ : bS) : Option (Int32 × bS) :=
  ob (m_isSign n cb_40 σ) fun q4 =>
  if q4.1 = 0 then
    bin_ (sI q4.2 0 7) 2001 (
    if (sA q4.2 2 (sI q4.2 0 7)) = ci_3 then
      bin_ (sI q4.2 0 7) 2001 (
      if (sA q4.2 4 (sI q4.2 0 7)) ≤ cb_15 then
        m_takesUnit_b89 n q4.2
      else
      m_takesUnit_b90 n ci_1 q4.2)
    else
    m_takesUnit_b89 n q4.2)
  else
  if (sI q4.2 0 38) = cb_6 then
    ob (m_wrong n ci_2 q4.2) fun q5 =>
    if q5.1 = 0 then
      m_takesUnit_b31 n ci_m1 q5.2
    else
    m_takesUnit_b31 n ci_0 q5.2
  else
  ob (m_pass n q4.2) fun q6 =>
  if q6.1 = 0 then
    some (ci_m1, q6.2)
  else
  ob (m_await n ci_0 (uI q6.2 0 38 ((sI q6.2 0 38) + ci_1))) fun q7 =>
  some (ci_1, q7)
def m_joiner_b53 (n : Nat) (s0 : Int32) (σ : bS) : Option (Int32 × bS) :=
  some (s0, σ)
def m_joiner (n : Nat) (σ : bS) : Option (Int32 × bS) :=
  ob (m_isSign n cb_43 σ) fun q1 =>
  if q1.1 = 0 then
    ob (m_isSign n cb_45 q1.2) fun q2 =>
    if q2.1 = 0 then
      ob (m_isSign n cb_42 q2.2) fun q3 =>
      if q3.1 = 0 then
        ob (m_isSign n cb_47 q3.2) fun q4 =>
        if q4.1 = 0 then
          m_joiner_b53 n ci_0 q4.2
        else
        m_joiner_b53 n ci_5 q4.2
      else
      m_joiner_b53 n ci_4 q3.2
    else
    m_joiner_b53 n ci_3 q2.2
  else
  m_joiner_b53 n ci_2 q1.2
def m_expr_b134 (n : Nat) (r14 : Int32 → Int32 → bS → Option (Int32 × bS)) (x1 : Int32) (x2 : Int32) (σ : bS) : Option (Int32 × bS) :=
  r14 x1 x2 σ
def m_expr_b126 (n : Nat) (r14 : Int32 → Int32 → bS → Option (Int32 × bS)) (x1 : Int32) (x2 : Int32) (s1 : Int32) (σ : bS) : Option (Int32 × bS) :=
  m_expr_b134 n r14 x1 x2 (uI σ 0 38 s1)
def m_expr_b116 (n : Nat) (r14 : Int32 → Int32 → bS → Option (Int32 × bS)) (x1 : Int32) (x2 : Int32) (s1 : Int32) (σ : bS) : Option (Int32 × bS) :=
  m_expr_b126 n r14 x1 x2 ((sI (uI σ 0 36 s1) 0 38) - ci_1) (uI σ 0 36 s1)
def m_expr_b51 (n : Nat) (r14 : Int32 → Int32 → bS → Option (Int32 × bS)) (x2 : Int32) (s0 : Int32) (σ : bS) : Option (Int32 × bS) :=
  m_expr_b134 n r14 s0 x2 σ
def m_expr_b14 (n : Nat) : Nat → Int32 → Int32 → bS → Option (Int32 × bS)
  | 0, _, _, _ => none
  | k + 1, x1, x2, σ =>
  if x2 = 0 then
    ob (m_reduce n ci_1 σ) fun q1 =>
    bz ci_1 q1
  else
  ob (m_joiner n σ) fun q2 =>
  if x1 = 0 then
    if q2.1 ≤ 0 then
      if (sI q2.2 0 38) ≤ 0 then
        m_expr_b134 n (m_expr_b14 n k) x1 ci_0 q2.2
      else
      ob (m_takesSign n cb_41 q2.2) fun q3 =>
      if q3.1 = 0 then
        bz ci_0 q3.2
      else
      ob (m_reduce n ci_1 q3.2) fun q4 =>
      m_expr_b116 n (m_expr_b14 n k) x1 x2 ((sI q4 0 36) - ci_1) q4
    else
    ob (m_rank n q2.1 q2.2) fun q5 =>
    ob (m_reduce n q5.1 q5.2) fun q6 =>
    ob (m_await n q2.1 q6) fun q7 =>
    ob (m_pass n q7) fun q8 =>
    if q8.1 = 0 then
      bz ci_0 q8.2
    else
    m_expr_b134 n (m_expr_b14 n k) ci_1 x2 q8.2
  else
  ob (m_takesUnit n q2.2) fun q9 =>
  if 0 ≤ q9.1 then
    if q9.1 = ci_1 then
      m_expr_b51 n (m_expr_b14 n k) x2 ci_1 q9.2
    else
    m_expr_b51 n (m_expr_b14 n k) x2 ci_0 q9.2
  else
  bz ci_0 q9.2
def m_expr (n : Nat) (σ : bS) : Option (Int32 × bS) :=
  m_expr_b14 n n ci_1 ci_1 (uI (uI σ 0 36 ci_0) 0 38 ci_0)
def m_sumOf_b57 (n : Nat) (σ : bS) : Option (Int32 × bS) :=
  bz ci_1 σ
def m_sumOf (n : Nat) (x1 : Int32) (x2 : Int32) (σ : bS) : Option (Int32 × bS) :=
  bin_ ci_1 2 (
  ob (m_expr n σ) fun q1 =>
  if q1.1 = 0 then
    bz ci_0 q1.2
  else
  if x1 < 0 then
    m_sumOf_b57 n q1.2
  else
  bin_ ((cs_196 + (cb_14 * x1)) + x2) 392 (
  bin_ ci_1 2 (
  bin_ ((cs_196 + (cb_14 * x1)) + x2) 392 (
  m_sumOf_b57 n (uA (uA q1.2 10 ((cs_196 + (cb_14 * x1)) + x2) (sA σ 6 ci_1)) 11 ((cs_196 + (cb_14 * x1)) + x2) (sA (uA q1.2 10 ((cs_196 + (cb_14 * x1)) + x2) (sA σ 6 ci_1)) 6 ci_1))))))
def m_lawTold_b145 (n : Nat) (σ : bS) : Option (Int32 × bS) :=
  bz ci_1 σ
def m_lawTold_b99 (n : Nat) (r13 : Int32 → Int32 → bS → Option (Int32 × bS)) (σ : bS) : Option (Int32 × bS) :=
  bz ci_0 σ
def m_lawTold_b75 (n : Nat) (r13 : Int32 → Int32 → bS → Option (Int32 × bS)) (σ : bS) : Option (Int32 × bS) :=
  bz ci_0 σ
def m_lawTold_b51 (n : Nat) (r13 : Int32 → Int32 → bS → Option (Int32 × bS)) (σ : bS) : Option (Int32 × bS) :=
  bz ci_0 σ
def m_lawTold_b13 (n : Nat) : Nat → Int32 → Int32 → bS → Option (Int32 × bS)
  | 0, _, _, _ => none
  | k + 1, x1, x2, σ =>
  ob (m_isWord n cb_13 σ) fun q1 =>
  if q1.1 = 0 then
    ob (m_sumOf n x1 (ci_3 * x2) q1.2) fun q2 =>
    if q2.1 = 0 then
      bz ci_0 q2.2
    else
    if x1 < 0 then
      m_lawTold_b145 n q2.2
    else
    bin_ (cb_14 + x1) 28 (
    m_lawTold_b145 n (uA q2.2 9 (cb_14 + x1) x2))
  else
  if x2 = ci_4 then
    ob (m_wrong n ci_2 q1.2) fun q3 =>
    bz q3.1 q3.2
  else
  ob (m_pass n q1.2) fun q4 =>
  if q4.1 = 0 then
    m_lawTold_b51 n (m_lawTold_b13 n k) q4.2
  else
  ob (m_sumOf n x1 (ci_3 * x2) q4.2) fun q5 =>
  if q5.1 = 0 then
    m_lawTold_b51 n (m_lawTold_b13 n k) q5.2
  else
  ob (m_takesSign n cb_60 q5.2) fun q6 =>
  if q6.1 = 0 then
    m_lawTold_b75 n (m_lawTold_b13 n k) q6.2
  else
  ob (m_sumOf n x1 ((ci_3 * x2) + ci_1) q6.2) fun q7 =>
  if q7.1 = 0 then
    m_lawTold_b75 n (m_lawTold_b13 n k) q7.2
  else
  ob (m_takesWord n cb_14 q7.2) fun q8 =>
  if q8.1 = 0 then
    m_lawTold_b99 n (m_lawTold_b13 n k) q8.2
  else
  ob (m_sumOf n x1 ((ci_3 * x2) + ci_2) q8.2) fun q9 =>
  if q9.1 = 0 then
    m_lawTold_b99 n (m_lawTold_b13 n k) q9.2
  else
  ob (m_takesWord n cb_15 q9.2) fun q10 =>
  if q10.1 = 0 then
    bz ci_0 q10.2
  else
  (m_lawTold_b13 n k) x1 (x2 + ci_1) q10.2
def m_lawTold (n : Nat) (x1 : Int32) (σ : bS) : Option (Int32 × bS) :=
  ob (m_takesSign n cb_61 σ) fun q11 =>
  if q11.1 = 0 then
    bz ci_0 q11.2
  else
  m_lawTold_b13 n n x1 ci_0 q11.2
def m_tellBank_b38 (n : Nat) (σ : bS) : Option (Int32 × bS) :=
  bz ci_0 σ
def m_tellBank (n : Nat) (σ : bS) : Option (Int32 × bS) :=
  bin_ ci_1 2 (
  if (sA σ 12 ci_1) = cb_6 then
    ob (m_wrong n ci_2 σ) fun q1 =>
    bz q1.1 q1.2
  else
  ob (m_pass n σ) fun q2 =>
  if q2.1 = 0 then
    m_tellBank_b38 n q2.2
  else
  bin_ ci_1 2 (
  ob (m_names n ci_0 (sA q2.2 12 ci_1) q2.2) fun q3 =>
  if q3.1 = 0 then
    m_tellBank_b38 n q3.2
  else
  bin_ ci_1 2 (
  bin_ ci_1 2 (
  bz ci_1 (uA q3.2 12 ci_1 ((sA q3.2 12 ci_1) + ci_1))))))
def m_tellPath_b105 (n : Nat) (x1 : Int32) (σ : bS) : Option (Int32 × bS) :=
  ob (m_takesInt n ci_1 cb_9 σ) fun q1 =>
  if q1.1 = 0 then
    bz ci_0 q1.2
  else
  bin_ x1 20 (
  bin_ ci_1 2 (
  bin_ ci_1 2 (
  bz ci_1 (uA (uA q1.2 16 x1 (sI q1.2 0 35)) 13 ci_1 ((sA (uA q1.2 16 x1 (sI q1.2 0 35)) 13 ci_1) + ci_1)))))
def m_tellPath_b42 (n : Nat) (σ : bS) : Option (Int32 × bS) :=
  bz ci_0 σ
def m_tellPath (n : Nat) (σ : bS) : Option (Int32 × bS) :=
  bin_ ci_1 2 (
  bin_ ci_1 2 (
  if (sA σ 13 ci_1) = cb_10 then
    ob (m_wrong n ci_2 σ) fun q2 =>
    bz q2.1 q2.2
  else
  ob (m_pass n σ) fun q3 =>
  if q3.1 = 0 then
    m_tellPath_b42 n q3.2
  else
  ob (m_takesName n ci_0 q3.2) fun q4 =>
  if q4.1 = 0 then
    m_tellPath_b42 n q4.2
  else
  bin_ (cb_10 + (sA σ 13 ci_1)) 20 (
  ob (m_takesName n ci_0 (uA q4.2 14 (cb_10 + (sA σ 13 ci_1)) (sI q4.2 0 35))) fun q5 =>
  if q5.1 = 0 then
    bz ci_0 q5.2
  else
  bin_ (cb_10 + (sA σ 13 ci_1)) 20 (
  if (sI (uA q5.2 15 (cb_10 + (sA σ 13 ci_1)) (sI q5.2 0 35)) 0 35) < 0 then
    m_tellPath_b105 n (cb_10 + (sA σ 13 ci_1)) (uA q5.2 15 (cb_10 + (sA σ 13 ci_1)) (sI q5.2 0 35))
  else
  bin_ (cb_10 + (sA σ 13 ci_1)) 20 (
  if (sA (uA q5.2 15 (cb_10 + (sA σ 13 ci_1)) (sI q5.2 0 35)) 14 (cb_10 + (sA σ 13 ci_1))) = (sI (uA q5.2 15 (cb_10 + (sA σ 13 ci_1)) (sI q5.2 0 35)) 0 35) then
    ob (m_tells n ci_3 (sI (uA q4.2 14 (cb_10 + (sA σ 13 ci_1)) (sI q4.2 0 35)) 0 7) (uA q5.2 15 (cb_10 + (sA σ 13 ci_1)) (sI q5.2 0 35))) fun q6 =>
    m_tellPath_b105 n (cb_10 + (sA σ 13 ci_1)) q6
  else
  m_tellPath_b105 n (cb_10 + (sA σ 13 ci_1)) (uA q5.2 15 (cb_10 + (sA σ 13 ci_1)) (sI q5.2 0 35)))))))
def m_tellBridge_b106 (n : Nat) (σ : bS) : Option (Int32 × bS) :=
  bin_ ci_1 2 (
  bin_ ci_1 2 (
  bz ci_1 (uA σ 17 ci_1 ((sA σ 17 ci_1) + ci_1))))
def m_tellBridge_b54 (n : Nat) (σ : bS) : Option (Int32 × bS) :=
  bz ci_0 σ
def m_tellBridge (n : Nat) (σ : bS) : Option (Int32 × bS) :=
  bin_ ci_1 2 (
  bin_ ci_1 2 (
  if (sA σ 17 ci_1) = ci_4 then
    ob (m_wrong n ci_2 σ) fun q1 =>
    bz q1.1 q1.2
  else
  ob (m_pass n σ) fun q2 =>
  if q2.1 = 0 then
    m_tellBridge_b54 n q2.2
  else
  bin_ ci_1 2 (
  ob (m_names n ci_1 (sA q2.2 17 ci_1) q2.2) fun q3 =>
  if q3.1 = 0 then
    m_tellBridge_b54 n q3.2
  else
  ob (m_takesName n ci_0 q3.2) fun q4 =>
  if q4.1 = 0 then
    m_tellBridge_b54 n q4.2
  else
  bin_ (ci_4 + (sA σ 17 ci_1)) 8 (
  bin_ (ci_4 + (sA σ 17 ci_1)) 8 (
  bin_ (sI (uA (uA q4.2 18 (ci_4 + (sA σ 17 ci_1)) (sI q4.2 0 35)) 19 (ci_4 + (sA σ 17 ci_1)) cb_m2) 0 7) 2001 (
  if (sA (uA (uA q4.2 18 (ci_4 + (sA σ 17 ci_1)) (sI q4.2 0 35)) 19 (ci_4 + (sA σ 17 ci_1)) cb_m2) 2 (sI (uA (uA q4.2 18 (ci_4 + (sA σ 17 ci_1)) (sI q4.2 0 35)) 19 (ci_4 + (sA σ 17 ci_1)) cb_m2) 0 7)) = 0 then
    ob (m_takesName n ci_0 (uA (uA q4.2 18 (ci_4 + (sA σ 17 ci_1)) (sI q4.2 0 35)) 19 (ci_4 + (sA σ 17 ci_1)) cb_m2)) fun q5 =>
    if q5.1 = 0 then
      bz ci_0 q5.2
    else
    bin_ (ci_4 + (sA σ 17 ci_1)) 8 (
    m_tellBridge_b106 n (uA q5.2 19 (ci_4 + (sA σ 17 ci_1)) (sI q5.2 0 35)))
  else
  m_tellBridge_b106 n (uA (uA q4.2 18 (ci_4 + (sA σ 17 ci_1)) (sI q4.2 0 35)) 19 (ci_4 + (sA σ 17 ci_1)) cb_m2)))))))
def m_tellMan_b56 (n : Nat) (σ : bS) : Option (Int32 × bS) :=
  bz ci_0 σ
def m_tellMan (n : Nat) (σ : bS) : Option (Int32 × bS) :=
  bin_ ci_1 2 (
  bin_ ci_1 2 (
  if (sA σ 20 ci_1) = cb_7 then
    ob (m_wrong n ci_2 σ) fun q1 =>
    bz q1.1 q1.2
  else
  ob (m_pass n σ) fun q2 =>
  if q2.1 = 0 then
    m_tellMan_b56 n q2.2
  else
  bin_ ci_1 2 (
  ob (m_names n ci_2 (sA q2.2 20 ci_1) q2.2) fun q3 =>
  if q3.1 = 0 then
    m_tellMan_b56 n q3.2
  else
  ob (m_takesName n ci_0 q3.2) fun q4 =>
  if q4.1 = 0 then
    m_tellMan_b56 n q4.2
  else
  bin_ (cb_7 + (sA σ 20 ci_1)) 14 (
  ob (m_takesName n ci_0 (uA q4.2 21 (cb_7 + (sA σ 20 ci_1)) (sI q4.2 0 35))) fun q5 =>
  if q5.1 = 0 then
    bz ci_0 q5.2
  else
  bin_ (cb_7 + (sA σ 20 ci_1)) 14 (
  ob (m_takesInt n ci_0 cs_999 (uA q5.2 22 (cb_7 + (sA σ 20 ci_1)) (sI q5.2 0 35))) fun q6 =>
  if q6.1 = 0 then
    bz ci_0 q6.2
  else
  bin_ (cb_7 + (sA σ 20 ci_1)) 14 (
  bin_ ci_1 2 (
  bin_ ci_1 2 (
  bz ci_1 (uA (uA q6.2 23 (cb_7 + (sA σ 20 ci_1)) (sI q6.2 0 35)) 20 ci_1 ((sA (uA q6.2 23 (cb_7 + (sA σ 20 ci_1)) (sI q6.2 0 35)) 20 ci_1) + ci_1))))))))))
def m_tellLawOf_b35 (n : Nat) (s1 : Int32) (σ : bS) : Option (Int32 × bS) :=
  ob (m_lawTold n s1 σ) fun q1 =>
  bz q1.1 q1.2
def m_tellLawOf_b15 (n : Nat) (σ : bS) : Option (Int32 × bS) :=
  bz ci_0 σ
def m_tellLawOf (n : Nat) (x1 : Int32) (x2 : Int32) (σ : bS) : Option (Int32 × bS) :=
  ob (m_pass n σ) fun q2 =>
  if q2.1 = 0 then
    m_tellLawOf_b15 n q2.2
  else
  ob (m_takesName n x1 q2.2) fun q3 =>
  if q3.1 = 0 then
    m_tellLawOf_b15 n q3.2
  else
  if 0 ≤ (sI q3.2 0 35) then
    m_tellLawOf_b35 n (x2 + (sI q3.2 0 35)) q3.2
  else
  m_tellLawOf_b35 n ci_m1 q3.2
def m_tellRest_b16 (n : Nat) (σ : bS) : Option (Int32 × bS) :=
  bz ci_0 σ
def m_tellRest (n : Nat) (x1 : Int32) (x2 : Int32) (σ : bS) : Option (Int32 × bS) :=
  ob (m_pass n σ) fun q1 =>
  if q1.1 = 0 then
    m_tellRest_b16 n q1.2
  else
  ob (m_takesInt n ci_0 x2 q1.2) fun q2 =>
  if q2.1 = 0 then
    m_tellRest_b16 n q2.2
  else
  bin_ (ci_4 + x1) 8 (
  bz ci_1 (uA q2.2 24 (ci_4 + x1) (sI q2.2 0 35)))
def m_tellOne_b189 (n : Nat) (s0 : Int32) (σ : bS) : Option (Int32 × bS) :=
  bz s0 σ
def m_tellOne_b125 (n : Nat) (x1 : Int32) (σ : bS) : Option (Int32 × bS) :=
  if x1 = cb_9 then
    ob (m_tellRest n ci_0 cb_23 σ) fun q1 =>
    bz q1.1 q1.2
  else
  if x1 = cb_10 then
    ob (m_tellRest n ci_1 cb_100 σ) fun q2 =>
    bz q2.1 q2.2
  else
  if x1 = cb_11 then
    ob (m_tellRest n ci_2 cb_99 σ) fun q3 =>
    bz q3.1 q3.2
  else
  if x1 = cb_12 then
    ob (m_tellRest n ci_3 cs_9999 σ) fun q4 =>
    m_tellOne_b189 n q4.1 q4.2
  else
  ob (m_wrong n ci_1 σ) fun q5 =>
  m_tellOne_b189 n q5.1 q5.2
def m_tellOne_b124 (n : Nat) (s0 : Int32) (σ : bS) : Option (Int32 × bS) :=
  bz s0 σ
def m_tellOne_b123 (n : Nat) (σ : bS) : Option (Int32 × bS) :=
  m_tellOne_b124 n ci_0 σ
def m_tellOne_b26 (n : Nat) (s0 : Int32) (σ : bS) : Option (Int32 × bS) :=
  if s0 = 0 then
    ob (m_tellBank n σ) fun q6 =>
    bz q6.1 q6.2
  else
  if s0 = ci_1 then
    ob (m_tellPath n σ) fun q7 =>
    bz q7.1 q7.2
  else
  if s0 = ci_2 then
    ob (m_tellBridge n σ) fun q8 =>
    bz q8.1 q8.2
  else
  if s0 = ci_3 then
    ob (m_tellMan n σ) fun q9 =>
    bz q9.1 q9.2
  else
  if s0 = ci_4 then
    ob (m_tellLawOf n ci_2 ci_0 σ) fun q10 =>
    bz q10.1 q10.2
  else
  if s0 = ci_5 then
    ob (m_tellLawOf n ci_1 cb_7 σ) fun q11 =>
    bz q11.1 q11.2
  else
  if s0 ≤ ci_5 then
    m_tellOne_b125 n s0 σ
  else
  if cb_9 ≤ s0 then
    m_tellOne_b125 n s0 σ
  else
  ob (m_pass n σ) fun q12 =>
  if q12.1 = 0 then
    m_tellOne_b123 n q12.2
  else
  ob (m_lawTold n (s0 + ci_5) q12.2) fun q13 =>
  if q13.1 = 0 then
    m_tellOne_b123 n q13.2
  else
  m_tellOne_b124 n ci_1 q13.2
def m_tellOne (n : Nat) (σ : bS) : Option (Int32 × bS) :=
  bin_ (sI σ 0 7) 2001 (
  if (sA σ 2 (sI σ 0 7)) = ci_3 then
    bin_ (sI σ 0 7) 2001 (
    m_tellOne_b26 n (sA σ 4 (sI σ 0 7)) σ)
  else
  m_tellOne_b26 n ci_m1 σ)
def m_clears_b78 (n : Nat) : Nat → Int32 → bS → Option bS
  | 0, _, _ => none
  | k + 1, x1, σ =>
  if cb_14 ≤ x1 then
    some σ
  else
  bin_ (cb_14 + x1) 28 (
  (m_clears_b78 n k) (x1 + ci_1) (uA σ 9 (cb_14 + x1) ci_m1))
def m_clears (n : Nat) (σ : bS) : Option bS :=
  bin_ ci_1 2 (
  bin_ ci_1 2 (
  bin_ ci_1 2 (
  bin_ ci_1 2 (
  bin_ ci_1 2 (
  bin_ ci_4 8 (
  bin_ ci_5 8 (
  bin_ cb_6 8 (
  bin_ cb_7 8 (
  m_clears_b78 n n ci_0 (uA (uA (uA (uA (uA (uA (uA (uA (uA (uI (uI σ 0 7 ci_0) 0 31 ci_0) 6 ci_1 ci_0) 12 ci_1 ci_0) 13 ci_1 ci_0) 17 ci_1 ci_0) 20 ci_1 ci_0) 24 ci_4 cb_m2) 24 ci_5 ci_0) 24 cb_6 ci_5) 24 cb_7 ci_0))))))))))
def m_parses_b33 (n : Nat) (σ : bS) : Option (Int32 × bS) :=
  bz ci_0 σ
def m_parses_b4 (n : Nat) : Nat → bS → Option (Int32 × bS)
  | 0, _ => none
  | k + 1, σ =>
  bin_ (sI σ 0 7) 2001 (
  if (sA σ 2 (sI σ 0 7)) = ci_4 then
    bz ci_1 σ
  else
  ob (m_tellOne n σ) fun q1 =>
  if q1.1 = 0 then
    m_parses_b33 n q1.2
  else
  ob (m_takesSign n cb_59 q1.2) fun q2 =>
  if q2.1 = 0 then
    m_parses_b33 n q2.2
  else
  (m_parses_b4 n k) q2.2)
def m_parses (n : Nat) (σ : bS) : Option (Int32 × bS) :=
  ob (m_clears n σ) fun q3 =>
  m_parses_b4 n n q3
def m_lays_b239 (n : Nat) : Nat → Int32 → bS → Option bS
  | 0, _, _ => none
  | k + 1, x1, σ =>
  if cb_7 ≤ x1 then
    bin_ ci_1 2 (
    bin_ ci_0 2 (
    bin_ ci_1 2 (
    bin_ ci_0 2 (
    bin_ ci_1 2 (
    bin_ ci_0 2 (
    bin_ ci_1 2 (
    bin_ ci_0 2 (
    some (uA (uA (uA (uA σ 12 ci_0 (sA σ 12 ci_1)) 13 ci_0 (sA (uA σ 12 ci_0 (sA σ 12 ci_1)) 13 ci_1)) 17 ci_0 (sA (uA (uA σ 12 ci_0 (sA σ 12 ci_1)) 13 ci_0 (sA (uA σ 12 ci_0 (sA σ 12 ci_1)) 13 ci_1)) 17 ci_1)) 20 ci_0 (sA (uA (uA (uA σ 12 ci_0 (sA σ 12 ci_1)) 13 ci_0 (sA (uA σ 12 ci_0 (sA σ 12 ci_1)) 13 ci_1)) 17 ci_0 (sA (uA (uA σ 12 ci_0 (sA σ 12 ci_1)) 13 ci_0 (sA (uA σ 12 ci_0 (sA σ 12 ci_1)) 13 ci_1)) 17 ci_1)) 20 ci_1))))))))))
  else
  bin_ (cb_7 + x1) 14 (
  bin_ x1 14 (
  bin_ (cb_7 + x1) 14 (
  bin_ x1 14 (
  bin_ (cb_7 + x1) 14 (
  bin_ x1 14 (
  (m_lays_b239 n k) (x1 + ci_1) (uA (uA (uA σ 21 x1 (sA σ 21 (cb_7 + x1))) 22 x1 (sA (uA σ 21 x1 (sA σ 21 (cb_7 + x1))) 22 (cb_7 + x1))) 23 x1 (sA (uA (uA σ 21 x1 (sA σ 21 (cb_7 + x1))) 22 x1 (sA (uA σ 21 x1 (sA σ 21 (cb_7 + x1))) 22 (cb_7 + x1))) 23 (cb_7 + x1)))))))))
def m_lays_b184 (n : Nat) : Nat → Int32 → bS → Option bS
  | 0, _, _ => none
  | k + 1, x1, σ =>
  if ci_4 ≤ x1 then
    m_lays_b239 n n ci_0 σ
  else
  bin_ (ci_4 + x1) 8 (
  bin_ x1 8 (
  bin_ (ci_4 + x1) 8 (
  bin_ x1 8 (
  bin_ (ci_4 + x1) 8 (
  bin_ x1 8 (
  (m_lays_b184 n k) (x1 + ci_1) (uA (uA (uA σ 18 x1 (sA σ 18 (ci_4 + x1))) 19 x1 (sA (uA σ 18 x1 (sA σ 18 (ci_4 + x1))) 19 (ci_4 + x1))) 24 x1 (sA (uA (uA σ 18 x1 (sA σ 18 (ci_4 + x1))) 19 x1 (sA (uA σ 18 x1 (sA σ 18 (ci_4 + x1))) 19 (ci_4 + x1))) 24 (ci_4 + x1)))))))))
def m_lays_b125 (n : Nat) : Nat → Int32 → bS → Option bS
  | 0, _, _ => none
  | k + 1, x1, σ =>
  if cb_10 ≤ x1 then
    m_lays_b184 n n ci_0 σ
  else
  bin_ (cb_10 + x1) 20 (
  bin_ x1 20 (
  bin_ (cb_10 + x1) 20 (
  bin_ x1 20 (
  bin_ (cb_10 + x1) 20 (
  bin_ x1 20 (
  (m_lays_b125 n k) (x1 + ci_1) (uA (uA (uA σ 14 x1 (sA σ 14 (cb_10 + x1))) 15 x1 (sA (uA σ 14 x1 (sA σ 14 (cb_10 + x1))) 15 (cb_10 + x1))) 16 x1 (sA (uA (uA σ 14 x1 (sA σ 14 (cb_10 + x1))) 15 x1 (sA (uA σ 14 x1 (sA σ 14 (cb_10 + x1))) 15 (cb_10 + x1))) 16 (cb_10 + x1)))))))))
def m_lays_b78 (n : Nat) : Nat → Int32 → bS → Option bS
  | 0, _, _ => none
  | k + 1, x1, σ =>
  if cs_196 ≤ x1 then
    m_lays_b125 n n ci_0 σ
  else
  bin_ (cs_196 + x1) 392 (
  bin_ x1 392 (
  bin_ (cs_196 + x1) 392 (
  bin_ x1 392 (
  (m_lays_b78 n k) (x1 + ci_1) (uA (uA σ 10 x1 (sA σ 10 (cs_196 + x1))) 11 x1 (sA (uA σ 10 x1 (sA σ 10 (cs_196 + x1))) 11 (cs_196 + x1)))))))
def m_lays_b49 (n : Nat) : Nat → Int32 → bS → Option bS
  | 0, _, _ => none
  | k + 1, x1, σ =>
  if cb_14 ≤ x1 then
    m_lays_b78 n n ci_0 σ
  else
  bin_ (cb_14 + x1) 28 (
  bin_ x1 28 (
  (m_lays_b49 n k) (x1 + ci_1) (uA σ 9 x1 (sA σ 9 (cb_14 + x1)))))
def m_lays_b2 (n : Nat) : Nat → Int32 → bS → Option bS
  | 0, _, _ => none
  | k + 1, x1, σ =>
  if cs_500 ≤ x1 then
    m_lays_b49 n n ci_0 σ
  else
  bin_ (cs_500 + x1) 1000 (
  bin_ x1 1000 (
  bin_ (cs_500 + x1) 1000 (
  bin_ x1 1000 (
  (m_lays_b2 n k) (x1 + ci_1) (uA (uA σ 7 x1 (sA σ 7 (cs_500 + x1))) 8 x1 (sA (uA σ 7 x1 (sA σ 7 (cs_500 + x1))) 8 (cs_500 + x1)))))))
def m_lays (n : Nat) (σ : bS) : Option bS :=
  m_lays_b2 n n ci_0 σ
def m_begins_b187 (n : Nat) : Nat → Int32 → bS → Option bS
  | 0, _, _ => none
  | k + 1, x1, σ =>
  if ci_3 ≤ x1 then
    some σ
  else
  bin_ x1 3 (
  (m_begins_b187 n k) (x1 + ci_1) (uA σ 30 x1 (vp_nar .boolean ci_0)))
def m_begins_b166 (n : Nat) : Nat → Int32 → bS → Option bS
  | 0, _, _ => none
  | k + 1, x1, σ =>
  if cb_7 ≤ x1 then
    m_begins_b187 n n ci_0 σ
  else
  bin_ x1 7 (
  (m_begins_b166 n k) (x1 + ci_1) (uA σ 46 x1 ci_m1))
def m_begins_b134 (n : Nat) (r60 : Int32 → bS → Option bS) (x1 : Int32) (s1 : Int32) (s2 : Int32) (σ : bS) : Option bS :=
  bin_ s1 2208 (
  r60 (x1 + ci_1) (uA σ 29 s1 s2))
def m_begins_b94 (n : Nat) (r60 : Int32 → bS → Option bS) (x1 : Int32) (s1 : Int32) (s2 : Int32) (σ : bS) : Option bS :=
  bin_ s1 2208 (
  bin_ (cb_12 + x1) 2208 (
  bin_ ci_0 2 (
  if (sA (uA (uA σ 29 s1 s2) 29 (cb_12 + x1) cb_m2) 20 ci_0) ≤ x1 then
    m_begins_b134 n r60 x1 (cb_19 + x1) ci_0 (uA (uA σ 29 s1 s2) 29 (cb_12 + x1) cb_m2)
  else
  bin_ x1 14 (
  m_begins_b134 n r60 x1 (cb_19 + x1) (sA (uA (uA σ 29 s1 s2) 29 (cb_12 + x1) cb_m2) 23 x1) (uA (uA σ 29 s1 s2) 29 (cb_12 + x1) cb_m2)))))
def m_begins_b60 (n : Nat) : Nat → Int32 → bS → Option bS
  | 0, _, _ => none
  | k + 1, x1, σ =>
  if cb_7 ≤ x1 then
    bin_ ci_3 8 (
    bin_ cb_46 2208 (
    m_begins_b166 n n ci_0 (uI (uI (uA σ 29 cb_46 (sA σ 24 ci_3)) 0 41 ci_0) 0 62 ci_0)))
  else
  bin_ ci_0 2 (
  if (sA σ 20 ci_0) ≤ x1 then
    m_begins_b94 n (m_begins_b60 n k) x1 (ci_5 + x1) cb_m2 σ
  else
  bin_ x1 14 (
  m_begins_b94 n (m_begins_b60 n k) x1 (ci_5 + x1) (sA σ 21 x1) σ))
def m_begins_b28 (n : Nat) : Nat → Int32 → bS → Option bS
  | 0, _, _ => none
  | k + 1, x1, σ =>
  bin_ ci_0 2 (
  if (sA σ 17 ci_0) ≤ x1 then
    m_begins_b60 n n ci_0 σ
  else
  bin_ x1 8 (
  bin_ (ci_1 + x1) 2208 (
  (m_begins_b28 n k) (x1 + ci_1) (uA σ 29 (ci_1 + x1) (sA σ 19 x1)))))
def m_begins_b7 (n : Nat) : Nat → Int32 → bS → Option bS
  | 0, _, _ => none
  | k + 1, x1, σ =>
  if cb_48 ≤ x1 then
    m_begins_b28 n n ci_0 σ
  else
  bin_ x1 2208 (
  (m_begins_b7 n k) (x1 + ci_1) (uA σ 29 x1 ci_0))
def m_begins (n : Nat) (σ : bS) : Option bS :=
  m_begins_b7 n n ci_0 (uI σ 0 40 ci_0)
def m_read_b69 (n : Nat) (σ : bS) : Option (Int32 × bS) :=
  some ((sI σ 0 8), σ)
def m_read_b49 (n : Nat) (σ : bS) : Option (Int32 × bS) :=
  if (sI (uI σ 0 0 ci_0) 0 8) = 0 then
    ob (m_lays n (uI σ 0 0 ci_0)) fun q1 =>
    ob (m_begins n q1) fun q2 =>
    m_read_b69 n q2
  else
  m_read_b69 n (uI σ 0 0 ci_0)
def m_read (n : Nat) (σ : bS) : Option (Int32 × bS) :=
  ob (m_scanAll n σ) fun q3 =>
  ob (m_parses n (uI (uI (uI q3 0 8 ci_0) 0 9 ci_m1) 0 10 ci_0)) fun q4 =>
  if q4.1 = 0 then
    m_read_b49 n q4.2
  else
  if (sI q4.2 0 10) = 0 then
    m_read_b49 n q4.2
  else
  m_read_b49 n (uI (uI q4.2 0 8 (sI q4.2 0 10)) 0 9 (sI (uI q4.2 0 8 (sI q4.2 0 10)) 0 11))
def m_place (n : Nat) (σ : bS) : Option (Int32 × bS) :=
  some ((sI σ 0 9), σ)
def m_copies_b2 (n : Nat) : Nat → Int32 → Int32 → Int32 → bS → Option bS
  | 0, _, _, _, _ => none
  | k + 1, x1, x2, x3, σ =>
  if cb_48 ≤ x3 then
    some σ
  else
  bin_ (x1 + x3) 2208 (
  bin_ (x2 + x3) 2208 (
  (m_copies_b2 n k) x1 x2 (x3 + ci_1) (uA σ 29 (x2 + x3) (sA σ 29 (x1 + x3)))))
def m_copies (n : Nat) (x1 : Int32) (x2 : Int32) (σ : bS) : Option bS :=
  m_copies_b2 n n x1 x2 ci_0 σ
def m_tries (n : Nat) (σ : bS) : Option bS :=
  ob (m_copies n ci_0 cb_48 σ) fun q1 =>
  some (uI q1 0 40 cb_48)
def m_isIn_b15 (n : Nat) (s0 : Int32) (σ : bS) : Option (Int32 × bS) :=
  bz s0 σ
def m_isIn_b14 (n : Nat) (σ : bS) : Option (Int32 × bS) :=
  m_isIn_b15 n ci_0 σ
def m_isIn (n : Nat) (x0 : Int32) (x1 : Int32) (x2 : Int32) (σ : bS) : Option (Int32 × bS) :=
  if x0 < x1 then
    m_isIn_b14 n σ
  else
  if x2 < x0 then
    m_isIn_b14 n σ
  else
  m_isIn_b15 n ci_1 σ
def m_within_b19 (n : Nat) (s0 : Int32) (σ : bS) : Option (Int32 × bS) :=
  some (s0, σ)
def m_within (n : Nat) (x0 : Int32) (x1 : Int32) (x2 : Int32) (σ : bS) : Option (Int32 × bS) :=
  if x1 ≤ x0 then
    if x0 ≤ x2 then
      m_within_b19 n x0 σ
    else
    m_within_b19 n x2 σ
  else
  m_within_b19 n x1 σ
def m_isBank_b19 (n : Nat) (s0 : Int32) (σ : bS) : Option (Int32 × bS) :=
  bz s0 σ
def m_isBank_b18 (n : Nat) (σ : bS) : Option (Int32 × bS) :=
  m_isBank_b19 n ci_0 σ
def m_isBank (n : Nat) (x1 : Int32) (σ : bS) : Option (Int32 × bS) :=
  if x1 < 0 then
    m_isBank_b18 n σ
  else
  bin_ ci_0 2 (
  if (sA σ 12 ci_0) ≤ x1 then
    m_isBank_b18 n σ
  else
  m_isBank_b19 n ci_1 σ)
def m_isBridge_b19 (n : Nat) (s0 : Int32) (σ : bS) : Option (Int32 × bS) :=
  bz s0 σ
def m_isBridge_b18 (n : Nat) (σ : bS) : Option (Int32 × bS) :=
  m_isBridge_b19 n ci_0 σ
def m_isBridge (n : Nat) (x1 : Int32) (σ : bS) : Option (Int32 × bS) :=
  if x1 < 0 then
    m_isBridge_b18 n σ
  else
  bin_ ci_0 2 (
  if (sA σ 17 ci_0) ≤ x1 then
    m_isBridge_b18 n σ
  else
  m_isBridge_b19 n ci_1 σ)
def m_isMan_b19 (n : Nat) (s0 : Int32) (σ : bS) : Option (Int32 × bS) :=
  bz s0 σ
def m_isMan_b18 (n : Nat) (σ : bS) : Option (Int32 × bS) :=
  m_isMan_b19 n ci_0 σ
def m_isMan (n : Nat) (x1 : Int32) (σ : bS) : Option (Int32 × bS) :=
  if x1 < 0 then
    m_isMan_b18 n σ
  else
  bin_ ci_0 2 (
  if (sA σ 20 ci_0) ≤ x1 then
    m_isMan_b18 n σ
  else
  m_isMan_b19 n ci_1 σ)
def m_joined_b47 (n : Nat) (s0 : Int32) (σ : bS) : Option (Int32 × bS) :=
  some (s0, σ)
def m_joined_b36 (n : Nat) (x2 : Int32) (x3 : Int32) (σ : bS) : Option (Int32 × bS) :=
  if x3 = 0 then
    m_joined_b47 n ci_0 σ
  else
  if x3 = 0 then none else
  m_joined_b47 n (x2 / x3) σ
def m_joined_b17 (n : Nat) (s0 : Int32) (σ : bS) : Option (Int32 × bS) :=
  some (s0, σ)
def m_joined (n : Nat) (x1 : Int32) (x2 : Int32) (x3 : Int32) (σ : bS) : Option (Int32 × bS) :=
  if x1 = ci_2 then
    some ((x2 + x3), σ)
  else
  if x1 = ci_3 then
    m_joined_b17 n (x2 - x3) σ
  else
  if x1 = ci_4 then
    some ((x2 * x3), σ)
  else
  if x3 = 0 then
    m_joined_b36 n x2 x3 (uI σ 0 46 ci_1)
  else
  m_joined_b36 n x2 x3 σ
def m_sumTold_b120 (n : Nat) (r28 : Int32 → Int32 → Int32 → bS → Option (Int32 × bS)) (x3 : Int32) (x4 : Int32) (x5 : Int32) (σ : bS) : Option (Int32 × bS) :=
  r28 x3 x4 (x5 + ci_1) σ
def m_sumTold_b116 (n : Nat) (r28 : Int32 → Int32 → Int32 → bS → Option (Int32 × bS)) (x3 : Int32) (x4 : Int32) (x5 : Int32) (s1 : Int32) (s2 : Int32) (σ : bS) : Option (Int32 × bS) :=
  bin_ s1 500 (
  m_sumTold_b120 n r28 (x3 + ci_1) x4 x5 (uA σ 32 s1 s2))
def m_sumTold_b70 (n : Nat) (r28 : Int32 → Int32 → Int32 → bS → Option (Int32 × bS)) (x3 : Int32) (x4 : Int32) (x5 : Int32) (s1 : Int32) (s3 : Int32) (s5 : Int32) (σ : bS) : Option (Int32 × bS) :=
  bin_ s5 500 (
  bin_ x3 500 (
  ob (m_joined n s3 (sA σ 32 s5) (sA σ 32 x3) σ) fun q1 =>
  bin_ s1 500 (
  m_sumTold_b120 n r28 x3 x4 x5 (uA q1.2 32 s1 q1.1))))
def m_sumTold_b60 (n : Nat) (r28 : Int32 → Int32 → Int32 → bS → Option (Int32 × bS)) (x3 : Int32) (x4 : Int32) (x5 : Int32) (x6 : Int32) (s1 : Int32) (σ : bS) : Option (Int32 × bS) :=
  m_sumTold_b70 n r28 x3 x4 x5 s1 x6 (x3 - ci_1) σ
def m_sumTold_b53 (n : Nat) (r28 : Int32 → Int32 → Int32 → bS → Option (Int32 × bS)) (x3 : Int32) (x4 : Int32) (x5 : Int32) (x6 : Int32) (σ : bS) : Option (Int32 × bS) :=
  m_sumTold_b60 n r28 x3 x4 x5 x6 (x3 - ci_1) σ
def m_sumTold_b28 (n : Nat) : Nat → Int32 → Int32 → Int32 → bS → Option (Int32 × bS)
  | 0, _, _, _, _ => none
  | k + 1, x3, x4, x5, σ =>
  if x4 ≤ x5 then
    bin_ ci_0 500 (
    some ((sA σ 32 ci_0), σ))
  else
  bin_ x5 1000 (
  if (sA σ 7 x5) ≤ ci_1 then
    if (sA σ 7 x5) = 0 then
      bin_ x5 1000 (
      m_sumTold_b116 n (m_sumTold_b28 n k) x3 x4 x5 x3 (sA σ 8 x5) σ)
    else
    bin_ x5 1000 (
    bin_ (sA σ 8 x5) 8 (
    m_sumTold_b116 n (m_sumTold_b28 n k) x3 x4 x5 x3 (sA σ 31 (sA σ 8 x5)) σ))
  else
  m_sumTold_b53 n (m_sumTold_b28 n k) (x3 + ci_m1) x4 x5 (sA σ 7 x5) σ)
def m_sumTold (n : Nat) (x1 : Int32) (x2 : Int32) (σ : bS) : Option (Int32 × bS) :=
  bin_ ((cb_14 * x1) + x2) 392 (
  bin_ ((cb_14 * x1) + x2) 392 (
  m_sumTold_b28 n n ci_0 (sA σ 11 ((cb_14 * x1) + x2)) (sA σ 10 ((cb_14 * x1) + x2)) σ))
def m_lawOf_b117 (n : Nat) (s0 : Int32) (σ : bS) : Option (Int32 × bS) :=
  some (s0, σ)
def m_lawOf_b99 (n : Nat) (s1 : Int32) (s2 : Int32) (σ : bS) : Option (Int32 × bS) :=
  ob (m_sumTold n s1 s2 σ) fun q1 =>
  if (sI q1.2 0 46) = 0 then
    m_lawOf_b117 n q1.1 q1.2
  else
  m_lawOf_b117 n ci_0 q1.2
def m_lawOf_b63 (n : Nat) (r22 : Int32 → Int32 → Int32 → bS → Option (Int32 × bS)) (x1 : Int32) (x3 : Int32) (s0 : Int32) (σ : bS) : Option (Int32 × bS) :=
  if s0 = 0 then
    r22 x1 x3 s0 σ
  else
  r22 x1 (x3 + ci_1) s0 σ
def m_lawOf_b62 (n : Nat) (r22 : Int32 → Int32 → Int32 → bS → Option (Int32 × bS)) (x1 : Int32) (x3 : Int32) (σ : bS) : Option (Int32 × bS) :=
  m_lawOf_b63 n r22 x1 x3 ci_0 σ
def m_lawOf_b22 (n : Nat) : Nat → Int32 → Int32 → Int32 → bS → Option (Int32 × bS)
  | 0, _, _, _, _ => none
  | k + 1, x1, x3, x4, σ =>
  if x4 = 0 then
    bin_ x1 28 (
    if (sA σ 9 x1) ≤ x3 then
      m_lawOf_b99 n x1 (ci_3 * x3) σ
    else
    m_lawOf_b99 n x1 ((ci_3 * x3) + ci_2) σ)
  else
  bin_ x1 28 (
  if (sA σ 9 x1) ≤ x3 then
    m_lawOf_b62 n (m_lawOf_b22 n k) x1 x3 σ
  else
  ob (m_sumTold n x1 (ci_3 * x3) σ) fun q2 =>
  ob (m_sumTold n x1 ((ci_3 * x3) + ci_1) q2.2) fun q3 =>
  if q2.1 < q3.1 then
    m_lawOf_b62 n (m_lawOf_b22 n k) x1 x3 q3.2
  else
  m_lawOf_b63 n (m_lawOf_b22 n k) x1 x3 ci_1 q3.2)
def m_lawOf (n : Nat) (x1 : Int32) (x2 : Int32) (σ : bS) : Option (Int32 × bS) :=
  bin_ x1 28 (
  if (sA σ 9 x1) = ci_m1 then
    some (x2, σ)
  else
  m_lawOf_b22 n n x1 ci_0 ci_1 (uI σ 0 46 ci_0))
def m_asks_b32 (n : Nat) (x1 : Int32) (s1 : Int32) (s2 : Int32) (σ : bS) : Option bS :=
  bin_ s1 8 (
  bin_ (((sI (uA σ 31 s1 s2) 0 40) + cb_26) + x1) 2208 (
  bin_ ci_2 8 (
  bin_ (((sI (uA (uA σ 31 s1 s2) 31 ci_2 (sA (uA σ 31 s1 s2) 29 (((sI (uA σ 31 s1 s2) 0 40) + cb_26) + x1))) 0 40) + cb_19) + x1) 2208 (
  bin_ ci_3 8 (
  bin_ x1 14 (
  bin_ ci_4 8 (
  bin_ ci_5 8 (
  bin_ (((sI (uA (uA (uA (uA (uA σ 31 s1 s2) 31 ci_2 (sA (uA σ 31 s1 s2) 29 (((sI (uA σ 31 s1 s2) 0 40) + cb_26) + x1))) 31 ci_3 (sA (uA (uA σ 31 s1 s2) 31 ci_2 (sA (uA σ 31 s1 s2) 29 (((sI (uA σ 31 s1 s2) 0 40) + cb_26) + x1))) 29 (((sI (uA (uA σ 31 s1 s2) 31 ci_2 (sA (uA σ 31 s1 s2) 29 (((sI (uA σ 31 s1 s2) 0 40) + cb_26) + x1))) 0 40) + cb_19) + x1))) 31 ci_4 (sA (uA (uA (uA σ 31 s1 s2) 31 ci_2 (sA (uA σ 31 s1 s2) 29 (((sI (uA σ 31 s1 s2) 0 40) + cb_26) + x1))) 31 ci_3 (sA (uA (uA σ 31 s1 s2) 31 ci_2 (sA (uA σ 31 s1 s2) 29 (((sI (uA σ 31 s1 s2) 0 40) + cb_26) + x1))) 29 (((sI (uA (uA σ 31 s1 s2) 31 ci_2 (sA (uA σ 31 s1 s2) 29 (((sI (uA σ 31 s1 s2) 0 40) + cb_26) + x1))) 0 40) + cb_19) + x1))) 22 x1)) 31 ci_5 x1) 0 40) + ci_5) + x1) 2208 (
  bin_ cb_6 8 (
  bin_ (((sI (uA (uA (uA (uA (uA (uA σ 31 s1 s2) 31 ci_2 (sA (uA σ 31 s1 s2) 29 (((sI (uA σ 31 s1 s2) 0 40) + cb_26) + x1))) 31 ci_3 (sA (uA (uA σ 31 s1 s2) 31 ci_2 (sA (uA σ 31 s1 s2) 29 (((sI (uA σ 31 s1 s2) 0 40) + cb_26) + x1))) 29 (((sI (uA (uA σ 31 s1 s2) 31 ci_2 (sA (uA σ 31 s1 s2) 29 (((sI (uA σ 31 s1 s2) 0 40) + cb_26) + x1))) 0 40) + cb_19) + x1))) 31 ci_4 (sA (uA (uA (uA σ 31 s1 s2) 31 ci_2 (sA (uA σ 31 s1 s2) 29 (((sI (uA σ 31 s1 s2) 0 40) + cb_26) + x1))) 31 ci_3 (sA (uA (uA σ 31 s1 s2) 31 ci_2 (sA (uA σ 31 s1 s2) 29 (((sI (uA σ 31 s1 s2) 0 40) + cb_26) + x1))) 29 (((sI (uA (uA σ 31 s1 s2) 31 ci_2 (sA (uA σ 31 s1 s2) 29 (((sI (uA σ 31 s1 s2) 0 40) + cb_26) + x1))) 0 40) + cb_19) + x1))) 22 x1)) 31 ci_5 x1) 31 cb_6 (sA (uA (uA (uA (uA (uA σ 31 s1 s2) 31 ci_2 (sA (uA σ 31 s1 s2) 29 (((sI (uA σ 31 s1 s2) 0 40) + cb_26) + x1))) 31 ci_3 (sA (uA (uA σ 31 s1 s2) 31 ci_2 (sA (uA σ 31 s1 s2) 29 (((sI (uA σ 31 s1 s2) 0 40) + cb_26) + x1))) 29 (((sI (uA (uA σ 31 s1 s2) 31 ci_2 (sA (uA σ 31 s1 s2) 29 (((sI (uA σ 31 s1 s2) 0 40) + cb_26) + x1))) 0 40) + cb_19) + x1))) 31 ci_4 (sA (uA (uA (uA σ 31 s1 s2) 31 ci_2 (sA (uA σ 31 s1 s2) 29 (((sI (uA σ 31 s1 s2) 0 40) + cb_26) + x1))) 31 ci_3 (sA (uA (uA σ 31 s1 s2) 31 ci_2 (sA (uA σ 31 s1 s2) 29 (((sI (uA σ 31 s1 s2) 0 40) + cb_26) + x1))) 29 (((sI (uA (uA σ 31 s1 s2) 31 ci_2 (sA (uA σ 31 s1 s2) 29 (((sI (uA σ 31 s1 s2) 0 40) + cb_26) + x1))) 0 40) + cb_19) + x1))) 22 x1)) 31 ci_5 x1) 29 (((sI (uA (uA (uA (uA (uA σ 31 s1 s2) 31 ci_2 (sA (uA σ 31 s1 s2) 29 (((sI (uA σ 31 s1 s2) 0 40) + cb_26) + x1))) 31 ci_3 (sA (uA (uA σ 31 s1 s2) 31 ci_2 (sA (uA σ 31 s1 s2) 29 (((sI (uA σ 31 s1 s2) 0 40) + cb_26) + x1))) 29 (((sI (uA (uA σ 31 s1 s2) 31 ci_2 (sA (uA σ 31 s1 s2) 29 (((sI (uA σ 31 s1 s2) 0 40) + cb_26) + x1))) 0 40) + cb_19) + x1))) 31 ci_4 (sA (uA (uA (uA σ 31 s1 s2) 31 ci_2 (sA (uA σ 31 s1 s2) 29 (((sI (uA σ 31 s1 s2) 0 40) + cb_26) + x1))) 31 ci_3 (sA (uA (uA σ 31 s1 s2) 31 ci_2 (sA (uA σ 31 s1 s2) 29 (((sI (uA σ 31 s1 s2) 0 40) + cb_26) + x1))) 29 (((sI (uA (uA σ 31 s1 s2) 31 ci_2 (sA (uA σ 31 s1 s2) 29 (((sI (uA σ 31 s1 s2) 0 40) + cb_26) + x1))) 0 40) + cb_19) + x1))) 22 x1)) 31 ci_5 x1) 0 40) + ci_5) + x1))) 0 40) + cb_33) + x1) 2208 (
  bin_ cb_7 8 (
  some (uA (uA (uA (uA (uA (uA (uA σ 31 s1 s2) 31 ci_2 (sA (uA σ 31 s1 s2) 29 (((sI (uA σ 31 s1 s2) 0 40) + cb_26) + x1))) 31 ci_3 (sA (uA (uA σ 31 s1 s2) 31 ci_2 (sA (uA σ 31 s1 s2) 29 (((sI (uA σ 31 s1 s2) 0 40) + cb_26) + x1))) 29 (((sI (uA (uA σ 31 s1 s2) 31 ci_2 (sA (uA σ 31 s1 s2) 29 (((sI (uA σ 31 s1 s2) 0 40) + cb_26) + x1))) 0 40) + cb_19) + x1))) 31 ci_4 (sA (uA (uA (uA σ 31 s1 s2) 31 ci_2 (sA (uA σ 31 s1 s2) 29 (((sI (uA σ 31 s1 s2) 0 40) + cb_26) + x1))) 31 ci_3 (sA (uA (uA σ 31 s1 s2) 31 ci_2 (sA (uA σ 31 s1 s2) 29 (((sI (uA σ 31 s1 s2) 0 40) + cb_26) + x1))) 29 (((sI (uA (uA σ 31 s1 s2) 31 ci_2 (sA (uA σ 31 s1 s2) 29 (((sI (uA σ 31 s1 s2) 0 40) + cb_26) + x1))) 0 40) + cb_19) + x1))) 22 x1)) 31 ci_5 x1) 31 cb_6 (sA (uA (uA (uA (uA (uA σ 31 s1 s2) 31 ci_2 (sA (uA σ 31 s1 s2) 29 (((sI (uA σ 31 s1 s2) 0 40) + cb_26) + x1))) 31 ci_3 (sA (uA (uA σ 31 s1 s2) 31 ci_2 (sA (uA σ 31 s1 s2) 29 (((sI (uA σ 31 s1 s2) 0 40) + cb_26) + x1))) 29 (((sI (uA (uA σ 31 s1 s2) 31 ci_2 (sA (uA σ 31 s1 s2) 29 (((sI (uA σ 31 s1 s2) 0 40) + cb_26) + x1))) 0 40) + cb_19) + x1))) 31 ci_4 (sA (uA (uA (uA σ 31 s1 s2) 31 ci_2 (sA (uA σ 31 s1 s2) 29 (((sI (uA σ 31 s1 s2) 0 40) + cb_26) + x1))) 31 ci_3 (sA (uA (uA σ 31 s1 s2) 31 ci_2 (sA (uA σ 31 s1 s2) 29 (((sI (uA σ 31 s1 s2) 0 40) + cb_26) + x1))) 29 (((sI (uA (uA σ 31 s1 s2) 31 ci_2 (sA (uA σ 31 s1 s2) 29 (((sI (uA σ 31 s1 s2) 0 40) + cb_26) + x1))) 0 40) + cb_19) + x1))) 22 x1)) 31 ci_5 x1) 29 (((sI (uA (uA (uA (uA (uA σ 31 s1 s2) 31 ci_2 (sA (uA σ 31 s1 s2) 29 (((sI (uA σ 31 s1 s2) 0 40) + cb_26) + x1))) 31 ci_3 (sA (uA (uA σ 31 s1 s2) 31 ci_2 (sA (uA σ 31 s1 s2) 29 (((sI (uA σ 31 s1 s2) 0 40) + cb_26) + x1))) 29 (((sI (uA (uA σ 31 s1 s2) 31 ci_2 (sA (uA σ 31 s1 s2) 29 (((sI (uA σ 31 s1 s2) 0 40) + cb_26) + x1))) 0 40) + cb_19) + x1))) 31 ci_4 (sA (uA (uA (uA σ 31 s1 s2) 31 ci_2 (sA (uA σ 31 s1 s2) 29 (((sI (uA σ 31 s1 s2) 0 40) + cb_26) + x1))) 31 ci_3 (sA (uA (uA σ 31 s1 s2) 31 ci_2 (sA (uA σ 31 s1 s2) 29 (((sI (uA σ 31 s1 s2) 0 40) + cb_26) + x1))) 29 (((sI (uA (uA σ 31 s1 s2) 31 ci_2 (sA (uA σ 31 s1 s2) 29 (((sI (uA σ 31 s1 s2) 0 40) + cb_26) + x1))) 0 40) + cb_19) + x1))) 22 x1)) 31 ci_5 x1) 0 40) + ci_5) + x1))) 31 cb_7 (sA (uA (uA (uA (uA (uA (uA σ 31 s1 s2) 31 ci_2 (sA (uA σ 31 s1 s2) 29 (((sI (uA σ 31 s1 s2) 0 40) + cb_26) + x1))) 31 ci_3 (sA (uA (uA σ 31 s1 s2) 31 ci_2 (sA (uA σ 31 s1 s2) 29 (((sI (uA σ 31 s1 s2) 0 40) + cb_26) + x1))) 29 (((sI (uA (uA σ 31 s1 s2) 31 ci_2 (sA (uA σ 31 s1 s2) 29 (((sI (uA σ 31 s1 s2) 0 40) + cb_26) + x1))) 0 40) + cb_19) + x1))) 31 ci_4 (sA (uA (uA (uA σ 31 s1 s2) 31 ci_2 (sA (uA σ 31 s1 s2) 29 (((sI (uA σ 31 s1 s2) 0 40) + cb_26) + x1))) 31 ci_3 (sA (uA (uA σ 31 s1 s2) 31 ci_2 (sA (uA σ 31 s1 s2) 29 (((sI (uA σ 31 s1 s2) 0 40) + cb_26) + x1))) 29 (((sI (uA (uA σ 31 s1 s2) 31 ci_2 (sA (uA σ 31 s1 s2) 29 (((sI (uA σ 31 s1 s2) 0 40) + cb_26) + x1))) 0 40) + cb_19) + x1))) 22 x1)) 31 ci_5 x1) 31 cb_6 (sA (uA (uA (uA (uA (uA σ 31 s1 s2) 31 ci_2 (sA (uA σ 31 s1 s2) 29 (((sI (uA σ 31 s1 s2) 0 40) + cb_26) + x1))) 31 ci_3 (sA (uA (uA σ 31 s1 s2) 31 ci_2 (sA (uA σ 31 s1 s2) 29 (((sI (uA σ 31 s1 s2) 0 40) + cb_26) + x1))) 29 (((sI (uA (uA σ 31 s1 s2) 31 ci_2 (sA (uA σ 31 s1 s2) 29 (((sI (uA σ 31 s1 s2) 0 40) + cb_26) + x1))) 0 40) + cb_19) + x1))) 31 ci_4 (sA (uA (uA (uA σ 31 s1 s2) 31 ci_2 (sA (uA σ 31 s1 s2) 29 (((sI (uA σ 31 s1 s2) 0 40) + cb_26) + x1))) 31 ci_3 (sA (uA (uA σ 31 s1 s2) 31 ci_2 (sA (uA σ 31 s1 s2) 29 (((sI (uA σ 31 s1 s2) 0 40) + cb_26) + x1))) 29 (((sI (uA (uA σ 31 s1 s2) 31 ci_2 (sA (uA σ 31 s1 s2) 29 (((sI (uA σ 31 s1 s2) 0 40) + cb_26) + x1))) 0 40) + cb_19) + x1))) 22 x1)) 31 ci_5 x1) 29 (((sI (uA (uA (uA (uA (uA σ 31 s1 s2) 31 ci_2 (sA (uA σ 31 s1 s2) 29 (((sI (uA σ 31 s1 s2) 0 40) + cb_26) + x1))) 31 ci_3 (sA (uA (uA σ 31 s1 s2) 31 ci_2 (sA (uA σ 31 s1 s2) 29 (((sI (uA σ 31 s1 s2) 0 40) + cb_26) + x1))) 29 (((sI (uA (uA σ 31 s1 s2) 31 ci_2 (sA (uA σ 31 s1 s2) 29 (((sI (uA σ 31 s1 s2) 0 40) + cb_26) + x1))) 0 40) + cb_19) + x1))) 31 ci_4 (sA (uA (uA (uA σ 31 s1 s2) 31 ci_2 (sA (uA σ 31 s1 s2) 29 (((sI (uA σ 31 s1 s2) 0 40) + cb_26) + x1))) 31 ci_3 (sA (uA (uA σ 31 s1 s2) 31 ci_2 (sA (uA σ 31 s1 s2) 29 (((sI (uA σ 31 s1 s2) 0 40) + cb_26) + x1))) 29 (((sI (uA (uA σ 31 s1 s2) 31 ci_2 (sA (uA σ 31 s1 s2) 29 (((sI (uA σ 31 s1 s2) 0 40) + cb_26) + x1))) 0 40) + cb_19) + x1))) 22 x1)) 31 ci_5 x1) 0 40) + ci_5) + x1))) 29 (((sI (uA (uA (uA (uA (uA (uA σ 31 s1 s2) 31 ci_2 (sA (uA σ 31 s1 s2) 29 (((sI (uA σ 31 s1 s2) 0 40) + cb_26) + x1))) 31 ci_3 (sA (uA (uA σ 31 s1 s2) 31 ci_2 (sA (uA σ 31 s1 s2) 29 (((sI (uA σ 31 s1 s2) 0 40) + cb_26) + x1))) 29 (((sI (uA (uA σ 31 s1 s2) 31 ci_2 (sA (uA σ 31 s1 s2) 29 (((sI (uA σ 31 s1 s2) 0 40) + cb_26) + x1))) 0 40) + cb_19) + x1))) 31 ci_4 (sA (uA (uA (uA σ 31 s1 s2) 31 ci_2 (sA (uA σ 31 s1 s2) 29 (((sI (uA σ 31 s1 s2) 0 40) + cb_26) + x1))) 31 ci_3 (sA (uA (uA σ 31 s1 s2) 31 ci_2 (sA (uA σ 31 s1 s2) 29 (((sI (uA σ 31 s1 s2) 0 40) + cb_26) + x1))) 29 (((sI (uA (uA σ 31 s1 s2) 31 ci_2 (sA (uA σ 31 s1 s2) 29 (((sI (uA σ 31 s1 s2) 0 40) + cb_26) + x1))) 0 40) + cb_19) + x1))) 22 x1)) 31 ci_5 x1) 31 cb_6 (sA (uA (uA (uA (uA (uA σ 31 s1 s2) 31 ci_2 (sA (uA σ 31 s1 s2) 29 (((sI (uA σ 31 s1 s2) 0 40) + cb_26) + x1))) 31 ci_3 (sA (uA (uA σ 31 s1 s2) 31 ci_2 (sA (uA σ 31 s1 s2) 29 (((sI (uA σ 31 s1 s2) 0 40) + cb_26) + x1))) 29 (((sI (uA (uA σ 31 s1 s2) 31 ci_2 (sA (uA σ 31 s1 s2) 29 (((sI (uA σ 31 s1 s2) 0 40) + cb_26) + x1))) 0 40) + cb_19) + x1))) 31 ci_4 (sA (uA (uA (uA σ 31 s1 s2) 31 ci_2 (sA (uA σ 31 s1 s2) 29 (((sI (uA σ 31 s1 s2) 0 40) + cb_26) + x1))) 31 ci_3 (sA (uA (uA σ 31 s1 s2) 31 ci_2 (sA (uA σ 31 s1 s2) 29 (((sI (uA σ 31 s1 s2) 0 40) + cb_26) + x1))) 29 (((sI (uA (uA σ 31 s1 s2) 31 ci_2 (sA (uA σ 31 s1 s2) 29 (((sI (uA σ 31 s1 s2) 0 40) + cb_26) + x1))) 0 40) + cb_19) + x1))) 22 x1)) 31 ci_5 x1) 29 (((sI (uA (uA (uA (uA (uA σ 31 s1 s2) 31 ci_2 (sA (uA σ 31 s1 s2) 29 (((sI (uA σ 31 s1 s2) 0 40) + cb_26) + x1))) 31 ci_3 (sA (uA (uA σ 31 s1 s2) 31 ci_2 (sA (uA σ 31 s1 s2) 29 (((sI (uA σ 31 s1 s2) 0 40) + cb_26) + x1))) 29 (((sI (uA (uA σ 31 s1 s2) 31 ci_2 (sA (uA σ 31 s1 s2) 29 (((sI (uA σ 31 s1 s2) 0 40) + cb_26) + x1))) 0 40) + cb_19) + x1))) 31 ci_4 (sA (uA (uA (uA σ 31 s1 s2) 31 ci_2 (sA (uA σ 31 s1 s2) 29 (((sI (uA σ 31 s1 s2) 0 40) + cb_26) + x1))) 31 ci_3 (sA (uA (uA σ 31 s1 s2) 31 ci_2 (sA (uA σ 31 s1 s2) 29 (((sI (uA σ 31 s1 s2) 0 40) + cb_26) + x1))) 29 (((sI (uA (uA σ 31 s1 s2) 31 ci_2 (sA (uA σ 31 s1 s2) 29 (((sI (uA σ 31 s1 s2) 0 40) + cb_26) + x1))) 0 40) + cb_19) + x1))) 22 x1)) 31 ci_5 x1) 0 40) + ci_5) + x1))) 0 40) + cb_33) + x1)))))))))))))))
def m_asks (n : Nat) (x1 : Int32) (x2 : Int32) (σ : bS) : Option bS :=
  bin_ (sI σ 0 40) 2208 (
  if cb_24 = 0 then none else
  bin_ ci_0 8 (
  if 0 ≤ x2 then
    m_asks_b32 n x1 ci_1 x2 (uA σ 31 ci_0 (brem (sA σ 29 (sI σ 0 40)) cb_24))
  else
  m_asks_b32 n x1 ci_1 ci_m1 (uA σ 31 ci_0 (brem (sA σ 29 (sI σ 0 40)) cb_24))))
def m_wishOf_b47 (n : Nat) (s0 : Int32) (σ : bS) : Option (Int32 × bS) :=
  some (s0, σ)
def m_wishOf (n : Nat) (x1 : Int32) (x2 : Int32) (σ : bS) : Option (Int32 × bS) :=
  bin_ (((sI σ 0 40) + ci_1) + x2) 2208 (
  ob (m_asks n x1 (sA σ 29 (((sI σ 0 40) + ci_1) + x2)) σ) fun q1 =>
  bin_ x1 14 (
  ob (m_lawOf n x1 (sA q1 22 x1) q1) fun q2 =>
  if 0 ≤ q2.1 then
    bin_ ci_0 2 (
    if (sA q2.2 12 ci_0) = 0 then none else
    m_wishOf_b47 n (brem q2.1 (sA q2.2 12 ci_0)) q2.2)
  else
  m_wishOf_b47 n cb_m2 q2.2))
def m_tollOf (n : Nat) (x1 : Int32) (x2 : Int32) (σ : bS) : Option (Int32 × bS) :=
  bin_ (((sI σ 0 40) + ci_1) + x2) 2208 (
  ob (m_asks n x1 (sA σ 29 (((sI σ 0 40) + ci_1) + x2)) σ) fun q1 =>
  ob (m_lawOf n (cb_7 + x2) ci_0 q1) fun q2 =>
  ob (m_within n q2.1 ci_0 cb_99 q2.2) fun q3 =>
  some (q3.1, q3.2))
def m_goesBy_b33 (n : Nat) (s0 : Int32) (σ : bS) : Option (Int32 × bS) :=
  bz s0 σ
def m_goesBy (n : Nat) (x1 : Int32) (x2 : Int32) (σ : bS) : Option (Int32 × bS) :=
  bin_ (((sI σ 0 40) + ci_1) + x2) 2208 (
  ob (m_asks n x1 (sA σ 29 (((sI σ 0 40) + ci_1) + x2)) σ) fun q1 =>
  ob (m_lawOf n cb_11 ci_0 q1) fun q2 =>
  if q2.1 ≤ 0 then
    m_goesBy_b33 n ci_0 q2.2
  else
  m_goesBy_b33 n ci_1 q2.2)
def m_isOn_b22 (n : Nat) (s0 : Int32) (σ : bS) : Option (Int32 × bS) :=
  bz s0 σ
def m_isOn (n : Nat) (x1 : Int32) (σ : bS) : Option (Int32 × bS) :=
  bin_ (((sI σ 0 40) + cb_12) + x1) 2208 (
  if (sA σ 29 (((sI σ 0 40) + cb_12) + x1)) < 0 then
    m_isOn_b22 n ci_0 σ
  else
  m_isOn_b22 n ci_1 σ)
def m_isAtFoot_b35 (n : Nat) (s0 : Int32) (σ : bS) : Option (Int32 × bS) :=
  bz s0 σ
def m_isAtFoot_b34 (n : Nat) (σ : bS) : Option (Int32 × bS) :=
  m_isAtFoot_b35 n ci_0 σ
def m_isAtFoot (n : Nat) (x1 : Int32) (x2 : Int32) (σ : bS) : Option (Int32 × bS) :=
  ob (m_isOn n x1 σ) fun q1 =>
  if q1.1 = 0 then
    bin_ (((sI q1.2 0 40) + ci_5) + x1) 2208 (
    bin_ x2 8 (
    if (sA q1.2 29 (((sI q1.2 0 40) + ci_5) + x1)) = (sA q1.2 18 x2) then
      m_isAtFoot_b35 n ci_1 q1.2
    else
    m_isAtFoot_b34 n q1.2))
  else
  m_isAtFoot_b34 n q1.2
def m_could_b37 (n : Nat) (s0 : Int32) (σ : bS) : Option (Int32 × bS) :=
  bz s0 σ
def m_could_b36 (n : Nat) (σ : bS) : Option (Int32 × bS) :=
  m_could_b37 n ci_0 σ
def m_could (n : Nat) (x1 : Int32) (x2 : Int32) (σ : bS) : Option (Int32 × bS) :=
  ob (m_isAtFoot n x1 x2 σ) fun q1 =>
  if q1.1 = 0 then
    m_could_b36 n q1.2
  else
  ob (m_tollOf n x1 x2 q1.2) fun q2 =>
  bin_ (((sI q2.2 0 40) + cb_19) + x1) 2208 (
  if (sA q2.2 29 (((sI q2.2 0 40) + cb_19) + x1)) < q2.1 then
    m_could_b36 n q2.2
  else
  m_could_b37 n ci_1 q2.2)
def m_isHome_b35 (n : Nat) (s0 : Int32) (σ : bS) : Option (Int32 × bS) :=
  bz s0 σ
def m_isHome_b34 (n : Nat) (σ : bS) : Option (Int32 × bS) :=
  m_isHome_b35 n ci_0 σ
def m_isHome (n : Nat) (x1 : Int32) (σ : bS) : Option (Int32 × bS) :=
  ob (m_isOn n x1 σ) fun q1 =>
  if q1.1 = 0 then
    bin_ (((sI q1.2 0 40) + ci_5) + x1) 2208 (
    bin_ x1 14 (
    if (sA q1.2 29 (((sI q1.2 0 40) + ci_5) + x1)) = (sA q1.2 22 x1) then
      m_isHome_b35 n ci_1 q1.2
    else
    m_isHome_b34 n q1.2))
  else
  m_isHome_b34 n q1.2
def m_comes_b130 (n : Nat) (r68 : Int32 → Int32 → Int32 → bS → Option (Int32 × bS)) (x2 : Int32) (x3 : Int32) (x4 : Int32) (σ : bS) : Option (Int32 × bS) :=
  r68 x2 x3 (x4 + ci_1) σ
def m_comes_b68 (n : Nat) : Nat → Int32 → Int32 → Int32 → bS → Option (Int32 × bS)
  | 0, _, _, _, _ => none
  | k + 1, x2, x3, x4, σ =>
  bin_ ci_0 2 (
  if (sA σ 20 ci_0) ≤ x4 then
    some (x3, σ)
  else
  bin_ (((sI σ 0 40) + cb_12) + x4) 2208 (
  if (sA σ 29 (((sI σ 0 40) + cb_12) + x4)) = x2 then
    bin_ (((sI σ 0 40) + cb_12) + x4) 2208 (
    bin_ (((sI (uA σ 29 (((sI σ 0 40) + cb_12) + x4) cb_m2) 0 40) + ci_5) + x4) 2208 (
    m_comes_b130 n (m_comes_b68 n k) x2 x3 x4 (uA (uA σ 29 (((sI σ 0 40) + cb_12) + x4) cb_m2) 29 (((sI (uA σ 29 (((sI σ 0 40) + cb_12) + x4) cb_m2) 0 40) + ci_5) + x4) x3)))
  else
  m_comes_b130 n (m_comes_b68 n k) x2 x3 x4 σ))
def m_comes (n : Nat) (x1 : Int32) (x2 : Int32) (σ : bS) : Option (Int32 × bS) :=
  bin_ (((sI σ 0 40) + ci_1) + x2) 2208 (
  if 0 ≤ (sA σ 29 (((sI σ 0 40) + ci_1) + x2)) then
    bin_ (((sI σ 0 40) + ci_5) + x1) 2208 (
    m_comes_b68 n n x2 (sA σ 29 (((sI σ 0 40) + ci_1) + x2)) ci_0 (uA σ 29 (((sI σ 0 40) + ci_5) + x1) (sA σ 29 (((sI σ 0 40) + ci_1) + x2))))
  else
  bin_ (((sI σ 0 40) + cb_12) + x1) 2208 (
  bin_ (((sI (uA σ 29 (((sI σ 0 40) + cb_12) + x1) x2) 0 40) + ci_5) + x1) 2208 (
  some (cb_m3, (uA (uA σ 29 (((sI σ 0 40) + cb_12) + x1) x2) 29 (((sI (uA σ 29 (((sI σ 0 40) + cb_12) + x1) x2) 0 40) + ci_5) + x1) cb_m2)))))
def m_crosses_b68 (n : Nat) (x1 : Int32) (x2 : Int32) (x4 : Int32) (σ : bS) : Option (Int32 × bS) :=
  bin_ (((sI σ 0 40) + cb_26) + x1) 2208 (
  bin_ (((sI σ 0 40) + cb_26) + x1) 2208 (
  bin_ (((sI (uA σ 29 (((sI σ 0 40) + cb_26) + x1) ((sA σ 29 (((sI σ 0 40) + cb_26) + x1)) + ci_1)) 0 40) + cb_33) + x1) 2208 (
  bin_ (((sI (uA (uA σ 29 (((sI σ 0 40) + cb_26) + x1) ((sA σ 29 (((sI σ 0 40) + cb_26) + x1)) + ci_1)) 29 (((sI (uA σ 29 (((sI σ 0 40) + cb_26) + x1) ((sA σ 29 (((sI σ 0 40) + cb_26) + x1)) + ci_1)) 0 40) + cb_33) + x1) ci_0) 0 40) + cb_42) + x2) 2208 (
  bin_ (((sI (uA (uA σ 29 (((sI σ 0 40) + cb_26) + x1) ((sA σ 29 (((sI σ 0 40) + cb_26) + x1)) + ci_1)) 29 (((sI (uA σ 29 (((sI σ 0 40) + cb_26) + x1) ((sA σ 29 (((sI σ 0 40) + cb_26) + x1)) + ci_1)) 0 40) + cb_33) + x1) ci_0) 0 40) + cb_42) + x2) 2208 (
  some (x4, (uA (uA (uA σ 29 (((sI σ 0 40) + cb_26) + x1) ((sA σ 29 (((sI σ 0 40) + cb_26) + x1)) + ci_1)) 29 (((sI (uA σ 29 (((sI σ 0 40) + cb_26) + x1) ((sA σ 29 (((sI σ 0 40) + cb_26) + x1)) + ci_1)) 0 40) + cb_33) + x1) ci_0) 29 (((sI (uA (uA σ 29 (((sI σ 0 40) + cb_26) + x1) ((sA σ 29 (((sI σ 0 40) + cb_26) + x1)) + ci_1)) 29 (((sI (uA σ 29 (((sI σ 0 40) + cb_26) + x1) ((sA σ 29 (((sI σ 0 40) + cb_26) + x1)) + ci_1)) 0 40) + cb_33) + x1) ci_0) 0 40) + cb_42) + x2) ((sA (uA (uA σ 29 (((sI σ 0 40) + cb_26) + x1) ((sA σ 29 (((sI σ 0 40) + cb_26) + x1)) + ci_1)) 29 (((sI (uA σ 29 (((sI σ 0 40) + cb_26) + x1) ((sA σ 29 (((sI σ 0 40) + cb_26) + x1)) + ci_1)) 0 40) + cb_33) + x1) ci_0) 29 (((sI (uA (uA σ 29 (((sI σ 0 40) + cb_26) + x1) ((sA σ 29 (((sI σ 0 40) + cb_26) + x1)) + ci_1)) 29 (((sI (uA σ 29 (((sI σ 0 40) + cb_26) + x1) ((sA σ 29 (((sI σ 0 40) + cb_26) + x1)) + ci_1)) 0 40) + cb_33) + x1) ci_0) 0 40) + cb_42) + x2)) + ci_1))))))))
def m_crosses_b41 (n : Nat) (x1 : Int32) (x2 : Int32) (x3 : Int32) (s1 : Int32) (s2 : Int32) (σ : bS) : Option (Int32 × bS) :=
  bin_ s1 2208 (
  ob (m_comes n x1 x2 (uA σ 29 s1 s2)) fun q1 =>
  if x3 < 0 then
    m_crosses_b68 n x1 x2 q1.1 q1.2
  else
  bin_ (((sI q1.2 0 40) + ci_1) + x2) 2208 (
  m_crosses_b68 n x1 x2 q1.1 (uA q1.2 29 (((sI q1.2 0 40) + ci_1) + x2) x3)))
def m_crosses (n : Nat) (x1 : Int32) (x2 : Int32) (σ : bS) : Option (Int32 × bS) :=
  ob (m_wishOf n x1 x2 σ) fun q2 =>
  bin_ (((sI q2.2 0 40) + cb_19) + x1) 2208 (
  ob (m_tollOf n x1 x2 q2.2) fun q3 =>
  m_crosses_b41 n x1 x2 q2.1 (((sI q2.2 0 40) + cb_19) + x1) ((sA q2.2 29 (((sI q2.2 0 40) + cb_19) + x1)) - q3.1) q3.2)
def m_mixed (n : Nat) (x0 : Int32) (x1 : Int32) (σ : bS) : Option (Int32 × bS) :=
  some (((((x0 ^^^ x1) * (1103515245 : Int32)) + cs_12345) ^^^ (bush (((x0 ^^^ x1) * (1103515245 : Int32)) + cs_12345) cb_15)), σ)
def m_lot (n : Nat) (x1 : Int32) (x2 : Int32) (σ : bS) : Option (Int32 × bS) :=
  bin_ ((sI σ 0 40) + cb_46) 2208 (
  ob (m_mixed n (sA σ 29 ((sI σ 0 40) + cb_46)) cb_47 σ) fun q1 =>
  ob (m_mixed n q1.1 x1 q1.2) fun q2 =>
  if x2 = 0 then none else
  some ((brem (bush q2.1 ci_1) x2), q2.2))
def m_hourGoes_b160 (n : Nat) (r94 : Int32 → Int32 → bS → Option bS) (x1 : Int32) (x2 : Int32) (σ : bS) : Option bS :=
  r94 x1 (x2 + ci_1) σ
def m_hourGoes_b94 (n : Nat) : Nat → Int32 → Int32 → bS → Option bS
  | 0, _, _, _ => none
  | k + 1, x1, x2, σ =>
  bin_ ci_0 2 (
  if (sA σ 17 ci_0) ≤ x2 then
    some σ
  else
  ob (m_lot n (((cb_100 * x1) + cb_10) + x2) cb_100 σ) fun q1 =>
  bin_ ci_1 8 (
  if (sA q1.2 24 ci_1) ≤ q1.1 then
    m_hourGoes_b160 n (m_hourGoes_b94 n k) x1 x2 q1.2
  else
  bin_ ci_0 2 (
  ob (m_lot n (((cb_100 * x1) + cb_20) + x2) (sA q1.2 12 ci_0) q1.2) fun q2 =>
  bin_ (((sI q1.2 0 40) + ci_1) + x2) 2208 (
  m_hourGoes_b160 n (m_hourGoes_b94 n k) x1 x2 (uA q2.2 29 (((sI q1.2 0 40) + ci_1) + x2) q2.1)))))
def m_hourGoes_b92 (n : Nat) (x1 : Int32) (σ : bS) : Option bS :=
  m_hourGoes_b94 n n x1 ci_0 σ
def m_hourGoes_b47 (n : Nat) : Nat → Int32 → Int32 → bS → Option bS
  | 0, _, _, _ => none
  | k + 1, x1, x2, σ =>
  bin_ ci_0 2 (
  if (sA σ 17 ci_0) ≤ x2 then
    m_hourGoes_b92 n x1 σ
  else
  bin_ ci_0 2 (
  ob (m_lot n ((cb_100 * x1) + x2) (sA σ 12 ci_0) σ) fun q3 =>
  bin_ (((sI σ 0 40) + ci_1) + x2) 2208 (
  (m_hourGoes_b47 n k) x1 (x2 + ci_1) (uA q3.2 29 (((sI σ 0 40) + ci_1) + x2) q3.1))))
def m_hourGoes (n : Nat) (σ : bS) : Option bS :=
  bin_ (sI σ 0 40) 2208 (
  bin_ (sI σ 0 40) 2208 (
  bin_ (sI (uA σ 29 (sI σ 0 40) ((sA σ 29 (sI σ 0 40)) + ci_1)) 0 40) 2208 (
  bin_ ci_0 8 (
  if (sA (uA σ 29 (sI σ 0 40) ((sA σ 29 (sI σ 0 40)) + ci_1)) 24 ci_0) < 0 then
    m_hourGoes_b92 n (sA (uA σ 29 (sI σ 0 40) ((sA σ 29 (sI σ 0 40)) + ci_1)) 29 (sI (uA σ 29 (sI σ 0 40) ((sA σ 29 (sI σ 0 40)) + ci_1)) 0 40)) (uA σ 29 (sI σ 0 40) ((sA σ 29 (sI σ 0 40)) + ci_1))
  else
  if cb_24 = 0 then none else
  bin_ ci_0 8 (
  if (brem (sA (uA σ 29 (sI σ 0 40) ((sA σ 29 (sI σ 0 40)) + ci_1)) 29 (sI (uA σ 29 (sI σ 0 40) ((sA σ 29 (sI σ 0 40)) + ci_1)) 0 40)) cb_24) = (sA (uA σ 29 (sI σ 0 40) ((sA σ 29 (sI σ 0 40)) + ci_1)) 24 ci_0) then
    m_hourGoes_b47 n n (sA (uA σ 29 (sI σ 0 40) ((sA σ 29 (sI σ 0 40)) + ci_1)) 29 (sI (uA σ 29 (sI σ 0 40) ((sA σ 29 (sI σ 0 40)) + ci_1)) 0 40)) ci_0 (uA σ 29 (sI σ 0 40) ((sA σ 29 (sI σ 0 40)) + ci_1))
  else
  m_hourGoes_b92 n (sA (uA σ 29 (sI σ 0 40) ((sA σ 29 (sI σ 0 40)) + ci_1)) 29 (sI (uA σ 29 (sI σ 0 40) ((sA σ 29 (sI σ 0 40)) + ci_1)) 0 40)) (uA σ 29 (sI σ 0 40) ((sA σ 29 (sI σ 0 40)) + ci_1)))))))
def m_hoursGo_b2 (n : Nat) : Nat → Int32 → Int32 → bS → Option bS
  | 0, _, _, _ => none
  | k + 1, x1, x2, σ =>
  if x1 ≤ x2 then
    some σ
  else
  ob (m_hourGoes n σ) fun q1 =>
  (m_hoursGo_b2 n k) x1 (x2 + ci_1) q1
def m_hoursGo (n : Nat) (x1 : Int32) (σ : bS) : Option bS :=
  m_hoursGo_b2 n n x1 ci_0 σ
def m_taken_b76 (n : Nat) (r2 : Int32 → Int32 → Int32 → bS → Option (Int32 × bS)) (x1 : Int32) (x2 : Int32) (x3 : Int32) (σ : bS) : Option (Int32 × bS) :=
  r2 x1 x2 (x3 + ci_1) σ
def m_taken_b74 (n : Nat) (r2 : Int32 → Int32 → Int32 → bS → Option (Int32 × bS)) (x3 : Int32) (σ : bS) : Option (Int32 × bS) :=
  some (x3, σ)
def m_taken_b2 (n : Nat) : Nat → Int32 → Int32 → Int32 → bS → Option (Int32 × bS)
  | 0, _, _, _, _ => none
  | k + 1, x1, x2, x3, σ =>
  bin_ ci_0 2 (
  if (sA σ 17 ci_0) ≤ x3 then
    some (ci_m1, σ)
  else
  if (((sI σ 0 47) >>> (x3 &&& 31)) &&& ci_1) = ci_1 then
    m_taken_b76 n (m_taken_b2 n k) x1 x2 x3 σ
  else
  ob (m_could n x1 x3 σ) fun q1 =>
  if q1.1 = 0 then
    m_taken_b76 n (m_taken_b2 n k) x1 x2 x3 q1.2
  else
  if x2 = 0 then
    ob (m_goesBy n x1 x3 q1.2) fun q2 =>
    if q2.1 = 0 then
      m_taken_b76 n (m_taken_b2 n k) x1 x2 x3 q2.2
    else
    m_taken_b74 n (m_taken_b2 n k) x3 q2.2
  else
  bin_ (((sI q1.2 0 40) + ci_1) + x3) 2208 (
  bin_ x1 14 (
  if (sA q1.2 29 (((sI q1.2 0 40) + ci_1) + x3)) = (sA q1.2 22 x1) then
    m_taken_b74 n (m_taken_b2 n k) x3 q1.2
  else
  m_taken_b76 n (m_taken_b2 n k) x1 x2 x3 q1.2)))
def m_taken (n : Nat) (x1 : Int32) (x2 : Int32) (σ : bS) : Option (Int32 × bS) :=
  m_taken_b2 n n x1 x2 ci_0 σ
def m_ruleGoes_b104 (n : Nat) (r7 : Int32 → Int32 → bS → Option bS) (x1 : Int32) (x2 : Int32) (σ : bS) : Option bS :=
  r7 x1 (x2 + ci_1) σ
def m_ruleGoes_b59 (n : Nat) (r7 : Int32 → Int32 → bS → Option bS) (x1 : Int32) (x2 : Int32) (x3 : Int32) (σ : bS) : Option bS :=
  if 0 ≤ x3 then
    ob (m_crosses n x2 x3 σ) fun q1 =>
    m_ruleGoes_b104 n r7 x1 x2 (uI q1.2 0 47 ((sI q1.2 0 47) ||| (ci_1 <<< (x3 &&& 31))))
  else
  bin_ (((sI σ 0 40) + cb_33) + x2) 2208 (
  bin_ (((sI σ 0 40) + cb_33) + x2) 2208 (
  m_ruleGoes_b104 n r7 x1 x2 (uA σ 29 (((sI σ 0 40) + cb_33) + x2) ((sA σ 29 (((sI σ 0 40) + cb_33) + x2)) + ci_1))))
def m_ruleGoes_b7 (n : Nat) : Nat → Int32 → Int32 → bS → Option bS
  | 0, _, _, _ => none
  | k + 1, x1, x2, σ =>
  bin_ ci_0 2 (
  if (sA σ 20 ci_0) ≤ x2 then
    ob (m_hourGoes n σ) fun q2 =>
    some q2
  else
  if x2 = x1 then
    m_ruleGoes_b104 n (m_ruleGoes_b7 n k) x1 x2 σ
  else
  ob (m_isOn n x2 σ) fun q3 =>
  if q3.1 = 0 then
    ob (m_isHome n x2 q3.2) fun q4 =>
    if q4.1 = 0 then
      ob (m_taken n x2 ci_1 q4.2) fun q5 =>
      if 0 ≤ q5.1 then
        m_ruleGoes_b59 n (m_ruleGoes_b7 n k) x1 x2 q5.1 q5.2
      else
      ob (m_taken n x2 ci_0 q5.2) fun q6 =>
      m_ruleGoes_b59 n (m_ruleGoes_b7 n k) x1 x2 q6.1 q6.2
    else
    m_ruleGoes_b104 n (m_ruleGoes_b7 n k) x1 x2 q4.2
  else
  m_ruleGoes_b104 n (m_ruleGoes_b7 n k) x1 x2 q3.2)
def m_ruleGoes (n : Nat) (x1 : Int32) (σ : bS) : Option bS :=
  m_ruleGoes_b7 n n x1 ci_0 (uI σ 0 47 ci_0)
def m_rulesGo_b2 (n : Nat) : Nat → Int32 → Int32 → bS → Option bS
  | 0, _, _, _ => none
  | k + 1, x1, x2, σ =>
  if x1 ≤ x2 then
    some σ
  else
  ob (m_ruleGoes n ci_m1 σ) fun q1 =>
  (m_rulesGo_b2 n k) x1 (x2 + ci_1) q1
def m_rulesGo (n : Nat) (x1 : Int32) (σ : bS) : Option bS :=
  m_rulesGo_b2 n n x1 ci_0 σ
def m_bank_b55 (n : Nat) (r19 : Int32 → Int32 → Int32 → bS → Option (Int32 × bS)) (x1 : Int32) (x2 : Int32) (x3 : Int32) (σ : bS) : Option (Int32 × bS) :=
  r19 x1 x2 (x3 + ci_1) σ
def m_bank_b19 (n : Nat) : Nat → Int32 → Int32 → Int32 → bS → Option (Int32 × bS)
  | 0, _, _, _, _ => none
  | k + 1, x1, x2, x3, σ =>
  bin_ ci_0 2 (
  if (sA σ 20 ci_0) ≤ x3 then
    some (x2, σ)
  else
  ob (m_isOn n x3 σ) fun q1 =>
  if q1.1 = 0 then
    bin_ (ci_5 + x3) 2208 (
    if (sA q1.2 29 (ci_5 + x3)) = x1 then
      m_bank_b55 n (m_bank_b19 n k) x1 (x2 ||| (ci_1 <<< (x3 &&& 31))) x3 q1.2
    else
    m_bank_b55 n (m_bank_b19 n k) x1 x2 x3 q1.2)
  else
  m_bank_b55 n (m_bank_b19 n k) x1 x2 x3 q1.2)
def m_bank (n : Nat) (x1 : Int32) (σ : bS) : Option (Int32 × bS) :=
  ob (m_isBank n x1 σ) fun q2 =>
  if q2.1 = 0 then
    some (ci_m1, q2.2)
  else
  m_bank_b19 n n x1 ci_0 ci_0 (uI q2.2 0 40 ci_0)
def m_bridge_b101 (n : Nat) (r69 : Int32 → Int32 → Int32 → bS → Option (Int32 × bS)) (x1 : Int32) (x3 : Int32) (x4 : Int32) (σ : bS) : Option (Int32 × bS) :=
  r69 x1 x3 (x4 + ci_1) σ
def m_bridge_b69 (n : Nat) : Nat → Int32 → Int32 → Int32 → bS → Option (Int32 × bS)
  | 0, _, _, _, _ => none
  | k + 1, x1, x3, x4, σ =>
  bin_ ci_0 2 (
  if (sA σ 20 ci_0) ≤ x4 then
    some (x3, σ)
  else
  bin_ (cb_12 + x4) 2208 (
  if (sA σ 29 (cb_12 + x4)) = x1 then
    m_bridge_b101 n (m_bridge_b69 n k) x1 (x3 ||| (ci_1 <<< (x4 &&& 31))) x4 σ
  else
  m_bridge_b101 n (m_bridge_b69 n k) x1 x3 x4 σ))
def m_bridge_b17 (n : Nat) (σ : bS) : Option (Int32 × bS) :=
  some (ci_m1, σ)
def m_bridge (n : Nat) (x1 : Int32) (x2 : Int32) (σ : bS) : Option (Int32 × bS) :=
  ob (m_isBridge n x1 σ) fun q1 =>
  if q1.1 = 0 then
    m_bridge_b17 n q1.2
  else
  ob (m_isIn n x2 ci_0 ci_3 q1.2) fun q2 =>
  if q2.1 = 0 then
    m_bridge_b17 n q2.2
  else
  if x2 = 0 then
    bin_ x1 8 (
    some ((sA (uI q2.2 0 40 ci_0) 18 x1), (uI q2.2 0 40 ci_0)))
  else
  if x2 = ci_1 then
    bin_ (ci_1 + x1) 2208 (
    some ((sA (uI q2.2 0 40 ci_0) 29 (ci_1 + x1)), (uI q2.2 0 40 ci_0)))
  else
  if x2 = ci_3 then
    bin_ (cb_42 + x1) 2208 (
    some ((sA (uI q2.2 0 40 ci_0) 29 (cb_42 + x1)), (uI q2.2 0 40 ci_0)))
  else
  m_bridge_b69 n n x1 ci_0 ci_0 (uI q2.2 0 40 ci_0)
def m_man_b100 (n : Nat) (s0 : Int32) (σ : bS) : Option (Int32 × bS) :=
  some (s0, σ)
def m_man_b17 (n : Nat) (σ : bS) : Option (Int32 × bS) :=
  some (ci_m1, σ)
def m_man (n : Nat) (x1 : Int32) (x2 : Int32) (σ : bS) : Option (Int32 × bS) :=
  ob (m_isMan n x1 σ) fun q1 =>
  if q1.1 = 0 then
    m_man_b17 n q1.2
  else
  ob (m_isIn n x2 ci_0 ci_5 q1.2) fun q2 =>
  if q2.1 = 0 then
    m_man_b17 n q2.2
  else
  if x2 = 0 then
    bin_ (ci_5 + x1) 2208 (
    some ((sA q2.2 29 (ci_5 + x1)), q2.2))
  else
  if x2 = ci_1 then
    bin_ x1 14 (
    some ((sA q2.2 22 x1), q2.2))
  else
  if x2 = ci_2 then
    bin_ (cb_19 + x1) 2208 (
    some ((sA q2.2 29 (cb_19 + x1)), q2.2))
  else
  if x2 = ci_3 then
    bin_ (cb_26 + x1) 2208 (
    some ((sA q2.2 29 (cb_26 + x1)), q2.2))
  else
  if x2 = ci_4 then
    bin_ (cb_33 + x1) 2208 (
    m_man_b100 n (sA q2.2 29 (cb_33 + x1)) q2.2)
  else
  bin_ (cb_12 + x1) 2208 (
  m_man_b100 n (sA q2.2 29 (cb_12 + x1)) q2.2)
def m_wish_b42 (n : Nat) (s0 : Int32) (σ : bS) : Option (Int32 × bS) :=
  some (s0, σ)
def m_wish_b16 (n : Nat) (σ : bS) : Option (Int32 × bS) :=
  some (ci_m1, σ)
def m_wish (n : Nat) (x1 : Int32) (x2 : Int32) (σ : bS) : Option (Int32 × bS) :=
  ob (m_isMan n x1 σ) fun q1 =>
  if q1.1 = 0 then
    m_wish_b16 n q1.2
  else
  ob (m_isBridge n x2 q1.2) fun q2 =>
  if q2.1 = 0 then
    m_wish_b16 n q2.2
  else
  ob (m_isOn n x1 (uI q2.2 0 40 ci_0)) fun q3 =>
  if q3.1 = 0 then
    ob (m_wishOf n x1 x2 q3.2) fun q4 =>
    m_wish_b42 n q4.1 q4.2
  else
  m_wish_b42 n cb_m2 q3.2
def m_toll_b42 (n : Nat) (s0 : Int32) (σ : bS) : Option (Int32 × bS) :=
  some (s0, σ)
def m_toll_b16 (n : Nat) (σ : bS) : Option (Int32 × bS) :=
  some (ci_m1, σ)
def m_toll (n : Nat) (x1 : Int32) (x2 : Int32) (σ : bS) : Option (Int32 × bS) :=
  ob (m_isMan n x1 σ) fun q1 =>
  if q1.1 = 0 then
    m_toll_b16 n q1.2
  else
  ob (m_isBridge n x2 q1.2) fun q2 =>
  if q2.1 = 0 then
    m_toll_b16 n q2.2
  else
  ob (m_isOn n x1 (uI q2.2 0 40 ci_0)) fun q3 =>
  if q3.1 = 0 then
    ob (m_tollOf n x1 x2 q3.2) fun q4 =>
    m_toll_b42 n q4.1 q4.2
  else
  m_toll_b42 n cb_m2 q3.2
def m_keeps_b53 (n : Nat) (σ : bS) : Option bS :=
  some σ
def m_keeps (n : Nat) (σ : bS) : Option bS :=
  ob (m_copies n ci_0 (cs_288 + (cb_48 * (sI (uI σ 0 40 ci_0) 0 42))) (uI σ 0 40 ci_0)) fun q1 =>
  if cb_40 = 0 then none else
  if cb_40 ≤ (sI (uI q1 0 42 (brem ((sI q1 0 42) + ci_1) cb_40)) 0 41) then
    m_keeps_b53 n (uI q1 0 42 (brem ((sI q1 0 42) + ci_1) cb_40))
  else
  m_keeps_b53 n (uI (uI q1 0 42 (brem ((sI q1 0 42) + ci_1) cb_40)) 0 41 ((sI (uI q1 0 42 (brem ((sI q1 0 42) + ci_1) cb_40)) 0 41) + ci_1))
def m_cross_b16 (n : Nat) (σ : bS) : Option (Int32 × bS) :=
  some (ci_m1, σ)
def m_cross (n : Nat) (x1 : Int32) (x2 : Int32) (σ : bS) : Option (Int32 × bS) :=
  ob (m_isMan n x1 σ) fun q1 =>
  if q1.1 = 0 then
    m_cross_b16 n q1.2
  else
  ob (m_isBridge n x2 q1.2) fun q2 =>
  if q2.1 = 0 then
    m_cross_b16 n q2.2
  else
  ob (m_could n x1 x2 (uI q2.2 0 40 ci_0)) fun q3 =>
  if q3.1 = 0 then
    some (cb_m2, q3.2)
  else
  ob (m_keeps n q3.2) fun q4 =>
  ob (m_crosses n x1 x2 q4) fun q5 =>
  ob (m_hourGoes n q5.2) fun q6 =>
  some (q5.1, q6)
def m_pair_b29 (n : Nat) (σ : bS) : Option (Int32 × bS) :=
  some (ci_m1, σ)
def m_pair (n : Nat) (x1 : Int32) (x2 : Int32) (x3 : Int32) (σ : bS) : Option (Int32 × bS) :=
  ob (m_isMan n x1 σ) fun q1 =>
  if q1.1 = 0 then
    m_pair_b29 n q1.2
  else
  ob (m_isMan n x2 q1.2) fun q2 =>
  if q2.1 = 0 then
    m_pair_b29 n q2.2
  else
  if x1 = x2 then
    m_pair_b29 n q2.2
  else
  ob (m_isBridge n x3 q2.2) fun q3 =>
  if q3.1 = 0 then
    m_pair_b29 n q3.2
  else
  ob (m_tries n q3.2) fun q4 =>
  ob (m_could n x1 x3 q4) fun q5 =>
  if q5.1 = 0 then
    some (cb_m2, q5.2)
  else
  ob (m_crosses n x1 x3 q5.2) fun q6 =>
  ob (m_could n x2 x3 q6.2) fun q7 =>
  if q7.1 = 0 then
    some (cb_m2, q7.2)
  else
  ob (m_crosses n x2 x3 q7.2) fun q8 =>
  ob (m_hourGoes n q8.2) fun q9 =>
  ob (m_keeps n q9) fun q10 =>
  ob (m_copies n cb_48 ci_0 q10) fun q11 =>
  some (q8.1, q11)
def m_hire_b16 (n : Nat) (σ : bS) : Option (Int32 × bS) :=
  bz ci_0 σ
def m_hire (n : Nat) (x1 : Int32) (x2 : Int32) (σ : bS) : Option (Int32 × bS) :=
  ob (m_isBridge n x1 σ) fun q1 =>
  if q1.1 = 0 then
    m_hire_b16 n q1.2
  else
  ob (m_isBank n x2 q1.2) fun q2 =>
  if q2.1 = 0 then
    m_hire_b16 n q2.2
  else
  ob (m_keeps n q2.2) fun q3 =>
  bin_ (ci_1 + x1) 2208 (
  bin_ cb_40 2208 (
  bin_ ci_2 8 (
  bin_ cb_40 2208 (
  bin_ cb_41 2208 (
  bin_ cb_41 2208 (
  ob (m_hourGoes n (uA (uA (uA q3 29 (ci_1 + x1) x2) 29 cb_40 ((sA (uA q3 29 (ci_1 + x1) x2) 29 cb_40) + (sA (uA q3 29 (ci_1 + x1) x2) 24 ci_2))) 29 cb_41 ((sA (uA (uA q3 29 (ci_1 + x1) x2) 29 cb_40 ((sA (uA q3 29 (ci_1 + x1) x2) 29 cb_40) + (sA (uA q3 29 (ci_1 + x1) x2) 24 ci_2))) 29 cb_41) + ci_1))) fun q4 =>
  bz ci_1 q4))))))
def m_pathOf_b95 (n : Nat) (r5 : Int32 → Int32 → Int32 → Int32 → bS → Option (Int32 × bS)) (x1 : Int32) (x2 : Int32) (x3 : Int32) (x4 : Int32) (σ : bS) : Option (Int32 × bS) :=
  r5 x1 x2 x3 (x4 + ci_1) σ
def m_pathOf_b87 (n : Nat) (r5 : Int32 → Int32 → Int32 → Int32 → bS → Option (Int32 × bS)) (x1 : Int32) (x2 : Int32) (x4 : Int32) (σ : bS) : Option (Int32 × bS) :=
  bin_ x4 20 (
  m_pathOf_b95 n r5 x1 x2 (sA σ 16 x4) x4 σ)
def m_pathOf_b65 (n : Nat) (r5 : Int32 → Int32 → Int32 → Int32 → bS → Option (Int32 × bS)) (x1 : Int32) (x2 : Int32) (x3 : Int32) (x4 : Int32) (s0 : Int32) (σ : bS) : Option (Int32 × bS) :=
  if s0 = 0 then
    m_pathOf_b95 n r5 x1 x2 x3 x4 σ
  else
  if x3 = 0 then
    m_pathOf_b87 n r5 x1 x2 x4 σ
  else
  bin_ x4 20 (
  if x3 ≤ (sA σ 16 x4) then
    m_pathOf_b95 n r5 x1 x2 x3 x4 σ
  else
  m_pathOf_b87 n r5 x1 x2 x4 σ)
def m_pathOf_b64 (n : Nat) (r5 : Int32 → Int32 → Int32 → Int32 → bS → Option (Int32 × bS)) (x1 : Int32) (x2 : Int32) (x3 : Int32) (x4 : Int32) (σ : bS) : Option (Int32 × bS) :=
  m_pathOf_b65 n r5 x1 x2 x3 x4 ci_0 σ
def m_pathOf_b60 (n : Nat) (r5 : Int32 → Int32 → Int32 → Int32 → bS → Option (Int32 × bS)) (x1 : Int32) (x2 : Int32) (x3 : Int32) (x4 : Int32) (σ : bS) : Option (Int32 × bS) :=
  m_pathOf_b65 n r5 x1 x2 x3 x4 ci_1 σ
def m_pathOf_b38 (n : Nat) (r5 : Int32 → Int32 → Int32 → Int32 → bS → Option (Int32 × bS)) (x1 : Int32) (x2 : Int32) (x3 : Int32) (x4 : Int32) (σ : bS) : Option (Int32 × bS) :=
  bin_ x4 20 (
  if (sA σ 14 x4) = x2 then
    bin_ x4 20 (
    if (sA σ 15 x4) = x1 then
      m_pathOf_b60 n r5 x1 x2 x3 x4 σ
    else
    m_pathOf_b64 n r5 x1 x2 x3 x4 σ)
  else
  m_pathOf_b64 n r5 x1 x2 x3 x4 σ)
def m_pathOf_b5 (n : Nat) : Nat → Int32 → Int32 → Int32 → Int32 → bS → Option (Int32 × bS)
  | 0, _, _, _, _, _ => none
  | k + 1, x1, x2, x3, x4, σ =>
  bin_ ci_0 2 (
  if (sA σ 13 ci_0) ≤ x4 then
    some (x3, σ)
  else
  bin_ x4 20 (
  if (sA σ 14 x4) = x1 then
    bin_ x4 20 (
    if (sA σ 15 x4) = x2 then
      m_pathOf_b60 n (m_pathOf_b5 n k) x1 x2 x3 x4 σ
    else
    m_pathOf_b38 n (m_pathOf_b5 n k) x1 x2 x3 x4 σ)
  else
  m_pathOf_b38 n (m_pathOf_b5 n k) x1 x2 x3 x4 σ))
def m_pathOf (n : Nat) (x1 : Int32) (x2 : Int32) (σ : bS) : Option (Int32 × bS) :=
  m_pathOf_b5 n n x1 x2 ci_0 ci_0 σ
def m_walk_b48 (n : Nat) (x1 : Int32) (x2 : Int32) (s0 : Int32) (σ : bS) : Option (Int32 × bS) :=
  if s0 = 0 then
    some (cb_m2, σ)
  else
  ob (m_keeps n σ) fun q1 =>
  bin_ (ci_5 + x1) 2208 (
  bin_ (cb_33 + x1) 2208 (
  ob (m_hoursGo n s0 (uA (uA q1 29 (ci_5 + x1) x2) 29 (cb_33 + x1) ci_0)) fun q2 =>
  some (s0, q2)))
def m_walk_b16 (n : Nat) (σ : bS) : Option (Int32 × bS) :=
  some (ci_m1, σ)
def m_walk (n : Nat) (x1 : Int32) (x2 : Int32) (σ : bS) : Option (Int32 × bS) :=
  ob (m_isMan n x1 σ) fun q3 =>
  if q3.1 = 0 then
    m_walk_b16 n q3.2
  else
  ob (m_isBank n x2 q3.2) fun q4 =>
  if q4.1 = 0 then
    m_walk_b16 n q4.2
  else
  ob (m_isOn n x1 (uI q4.2 0 40 ci_0)) fun q5 =>
  if q5.1 = 0 then
    bin_ (ci_5 + x1) 2208 (
    ob (m_pathOf n (sA q5.2 29 (ci_5 + x1)) x2 q5.2) fun q6 =>
    m_walk_b48 n x1 x2 q6.1 q6.2)
  else
  m_walk_b48 n x1 x2 ci_0 q5.2
def m_hours_b21 (n : Nat) (x1 : Int32) (σ : bS) : Option (Int32 × bS) :=
  ob (m_hoursGo n x1 (uI σ 0 40 ci_0)) fun q1 =>
  bin_ ci_0 2208 (
  some ((sA q1 29 ci_0), q1))
def m_hours (n : Nat) (x1 : Int32) (σ : bS) : Option (Int32 × bS) :=
  ob (m_isIn n x1 ci_0 cs_200 σ) fun q2 =>
  if q2.1 = 0 then
    some (ci_m1, q2.2)
  else
  if x1 ≤ 0 then
    m_hours_b21 n x1 q2.2
  else
  ob (m_keeps n q2.2) fun q3 =>
  m_hours_b21 n x1 q3
def m_rule_b21 (n : Nat) (x1 : Int32) (σ : bS) : Option (Int32 × bS) :=
  ob (m_rulesGo n x1 (uI σ 0 40 ci_0)) fun q1 =>
  bin_ ci_0 2208 (
  some ((sA q1 29 ci_0), q1))
def m_rule (n : Nat) (x1 : Int32) (σ : bS) : Option (Int32 × bS) :=
  ob (m_isIn n x1 ci_0 cs_200 σ) fun q2 =>
  if q2.1 = 0 then
    some (ci_m1, q2.2)
  else
  if x1 ≤ 0 then
    m_rule_b21 n x1 q2.2
  else
  ob (m_keeps n q2.2) fun q3 =>
  m_rule_b21 n x1 q3
def m_undo_b16 (n : Nat) (s1 : Int32) (σ : bS) : Option (Int32 × bS) :=
  if cb_40 = 0 then none else
  ob (m_copies n (cs_288 + (cb_48 * (sI (uI (uI σ 0 41 s1) 0 42 (brem ((sI (uI σ 0 41 s1) 0 42) + cb_39) cb_40)) 0 42))) ci_0 (uI (uI σ 0 41 s1) 0 42 (brem ((sI (uI σ 0 41 s1) 0 42) + cb_39) cb_40))) fun q1 =>
  bz ci_1 q1
def m_undo (n : Nat) (σ : bS) : Option (Int32 × bS) :=
  if (sI σ 0 41) = 0 then
    bz ci_0 σ
  else
  m_undo_b16 n ((sI σ 0 41) - ci_1) σ
def m_homesNow_b28 (n : Nat) (r4 : Int32 → Int32 → bS → Option (Int32 × bS)) (x1 : Int32) (x2 : Int32) (σ : bS) : Option (Int32 × bS) :=
  r4 x1 (x2 + ci_1) σ
def m_homesNow_b4 (n : Nat) : Nat → Int32 → Int32 → bS → Option (Int32 × bS)
  | 0, _, _, _ => none
  | k + 1, x1, x2, σ =>
  bin_ ci_0 2 (
  if (sA σ 20 ci_0) ≤ x2 then
    some (x1, σ)
  else
  ob (m_isHome n x2 σ) fun q1 =>
  if q1.1 = 0 then
    m_homesNow_b28 n (m_homesNow_b4 n k) x1 x2 q1.2
  else
  m_homesNow_b28 n (m_homesNow_b4 n k) (x1 ||| (ci_1 <<< (x2 &&& 31))) x2 q1.2)
def m_homesNow (n : Nat) (σ : bS) : Option (Int32 × bS) :=
  m_homesNow_b4 n n ci_0 ci_0 σ
def m_homes (n : Nat) (σ : bS) : Option (Int32 × bS) :=
  ob (m_homesNow n (uI σ 0 40 ci_0)) fun q1 =>
  some (q1.1, q1.2)
def m_where_b19 (n : Nat) (σ : bS) : Option (Int32 × bS) :=
  some (ci_m1, σ)
def m_where (n : Nat) (x1 : Int32) (x2 : Int32) (σ : bS) : Option (Int32 × bS) :=
  ob (m_isMan n x1 σ) fun q1 =>
  if q1.1 = 0 then
    m_where_b19 n q1.2
  else
  ob (m_isIn n x2 ci_0 cs_300 q1.2) fun q2 =>
  if q2.1 = 0 then
    m_where_b19 n q2.2
  else
  ob (m_tries n q2.2) fun q3 =>
  ob (m_rulesGo n x2 q3) fun q4 =>
  bin_ (((sI q4 0 40) + ci_5) + x1) 2208 (
  some ((sA q4 29 (((sI q4 0 40) + ci_5) + x1)), q4))
def m_last_b19 (n : Nat) (σ : bS) : Option (Int32 × bS) :=
  some (ci_m1, σ)
def m_last (n : Nat) (x1 : Int32) (x2 : Int32) (σ : bS) : Option (Int32 × bS) :=
  ob (m_isBridge n x1 σ) fun q1 =>
  if q1.1 = 0 then
    m_last_b19 n q1.2
  else
  ob (m_isIn n x2 ci_0 cs_300 q1.2) fun q2 =>
  if q2.1 = 0 then
    m_last_b19 n q2.2
  else
  ob (m_tries n q2.2) fun q3 =>
  ob (m_rulesGo n x2 q3) fun q4 =>
  bin_ (((sI q4 0 40) + ci_1) + x1) 2208 (
  some ((sA q4 29 (((sI q4 0 40) + ci_1) + x1)), q4))
def m_coins_b26 (n : Nat) : Nat → Int32 → Int32 → bS → Option (Int32 × bS)
  | 0, _, _, _ => none
  | k + 1, x2, x3, σ =>
  bin_ ci_0 2 (
  if (sA σ 20 ci_0) ≤ x3 then
    some (x2, σ)
  else
  bin_ (((sI σ 0 40) + cb_19) + x3) 2208 (
  (m_coins_b26 n k) (x2 + (sA σ 29 (((sI σ 0 40) + cb_19) + x3))) (x3 + ci_1) σ))
def m_coins (n : Nat) (x1 : Int32) (σ : bS) : Option (Int32 × bS) :=
  ob (m_isIn n x1 ci_0 cs_300 σ) fun q1 =>
  if q1.1 = 0 then
    some (ci_m1, q1.2)
  else
  ob (m_tries n q1.2) fun q2 =>
  ob (m_rulesGo n x1 q2) fun q3 =>
  m_coins_b26 n n ci_0 ci_0 q3
def m_homeBy_b16 (n : Nat) : Nat → Int32 → Int32 → bS → Option (Int32 × bS)
  | 0, _, _, _ => none
  | k + 1, x1, x2, σ =>
  if cs_300 < x2 then
    some (cb_m2, σ)
  else
  ob (m_isHome n x1 σ) fun q1 =>
  if q1.1 = 0 then
    ob (m_ruleGoes n ci_m1 q1.2) fun q2 =>
    (m_homeBy_b16 n k) x1 (x2 + ci_1) q2
  else
  some (x2, q1.2)
def m_homeBy (n : Nat) (x1 : Int32) (σ : bS) : Option (Int32 × bS) :=
  ob (m_isMan n x1 σ) fun q3 =>
  if q3.1 = 0 then
    some (ci_m1, q3.2)
  else
  ob (m_tries n q3.2) fun q4 =>
  m_homeBy_b16 n n x1 ci_0 q4
def m_allHome_b27 (n : Nat) (r6 : Int32 → bS → Option (Int32 × bS)) (x1 : Int32) (s0 : Int32) (s1 : Int32) (σ : bS) : Option (Int32 × bS) :=
  if s0 = s1 then
    some (x1, σ)
  else
  ob (m_ruleGoes n ci_m1 σ) fun q1 =>
  r6 (x1 + ci_1) q1
def m_allHome_b6 (n : Nat) : Nat → Int32 → bS → Option (Int32 × bS)
  | 0, _, _ => none
  | k + 1, x1, σ =>
  if cs_300 < x1 then
    some (cb_m2, σ)
  else
  ob (m_homesNow n σ) fun q2 =>
  bin_ ci_0 2 (
  m_allHome_b27 n (m_allHome_b6 n k) x1 q2.1 ((ci_1 <<< ((sA q2.2 20 ci_0) &&& 31)) - ci_1) q2.2)
def m_allHome (n : Nat) (σ : bS) : Option (Int32 × bS) :=
  ob (m_tries n σ) fun q3 =>
  m_allHome_b6 n n ci_0 q3
def m_odds_b84 (n : Nat) (r37 : Int32 → Int32 → Int32 → Int32 → Int32 → bS → Option (Int32 × bS)) (x1 : Int32) (x2 : Int32) (x3 : Int32) (x4 : Int32) (x5 : Int32) (σ : bS) : Option (Int32 × bS) :=
  r37 x1 x2 x3 x4 (x5 + ci_1) σ
def m_odds_b37 (n : Nat) : Nat → Int32 → Int32 → Int32 → Int32 → Int32 → bS → Option (Int32 × bS)
  | 0, _, _, _, _, _, _ => none
  | k + 1, x1, x2, x3, x4, x5, σ =>
  if x3 ≤ x5 then
    some (x4, σ)
  else
  ob (m_tries n σ) fun q1 =>
  bin_ ci_3 8 (
  bin_ ((sI q1 0 40) + cb_46) 2208 (
  ob (m_rulesGo n x2 (uA q1 29 ((sI q1 0 40) + cb_46) ((sA q1 24 ci_3) + x5))) fun q2 =>
  ob (m_isHome n x1 q2) fun q3 =>
  if q3.1 = 0 then
    m_odds_b84 n (m_odds_b37 n k) x1 x2 x3 x4 x5 q3.2
  else
  m_odds_b84 n (m_odds_b37 n k) x1 x2 x3 (x4 + ci_1) x5 q3.2))
def m_odds_b29 (n : Nat) (σ : bS) : Option (Int32 × bS) :=
  some (ci_m1, σ)
def m_odds (n : Nat) (x1 : Int32) (x2 : Int32) (x3 : Int32) (σ : bS) : Option (Int32 × bS) :=
  ob (m_isMan n x1 σ) fun q4 =>
  if q4.1 = 0 then
    m_odds_b29 n q4.2
  else
  ob (m_isIn n x2 ci_0 cs_300 q4.2) fun q5 =>
  if q5.1 = 0 then
    m_odds_b29 n q5.2
  else
  ob (m_isIn n x3 ci_1 cb_20 q5.2) fun q6 =>
  if q6.1 = 0 then
    m_odds_b29 n q6.2
  else
  m_odds_b37 n n x1 x2 x3 ci_0 ci_0 q6.2
def m_waiting_b75 (n : Nat) (r36 : Int32 → Int32 → Int32 → bS → Option (Int32 × bS)) (x1 : Int32) (x2 : Int32) (x3 : Int32) (σ : bS) : Option (Int32 × bS) :=
  ob (m_ruleGoes n x1 σ) fun q1 =>
  r36 x1 x2 (x3 + ci_1) q1
def m_waiting_b36 (n : Nat) : Nat → Int32 → Int32 → Int32 → bS → Option (Int32 × bS)
  | 0, _, _, _, _ => none
  | k + 1, x1, x2, x3, σ =>
  if cb_100 < x3 then
    some (cb_m2, σ)
  else
  ob (m_could n x1 x2 σ) fun q2 =>
  if q2.1 = 0 then
    m_waiting_b75 n (m_waiting_b36 n k) x1 x2 x3 q2.2
  else
  bin_ (((sI q2.2 0 40) + ci_1) + x2) 2208 (
  bin_ x1 14 (
  if (sA q2.2 29 (((sI q2.2 0 40) + ci_1) + x2)) = (sA q2.2 22 x1) then
    some (x3, q2.2)
  else
  m_waiting_b75 n (m_waiting_b36 n k) x1 x2 x3 q2.2))
def m_waiting_b16 (n : Nat) (σ : bS) : Option (Int32 × bS) :=
  some (ci_m1, σ)
def m_waiting (n : Nat) (x1 : Int32) (x2 : Int32) (σ : bS) : Option (Int32 × bS) :=
  ob (m_isMan n x1 σ) fun q3 =>
  if q3.1 = 0 then
    m_waiting_b16 n q3.2
  else
  ob (m_isBridge n x2 q3.2) fun q4 =>
  if q4.1 = 0 then
    m_waiting_b16 n q4.2
  else
  ob (m_tries n q4.2) fun q5 =>
  ob (m_isAtFoot n x1 x2 q5) fun q6 =>
  if q6.1 = 0 then
    some (cb_m2, q6.2)
  else
  m_waiting_b36 n n x1 x2 ci_0 q6.2
def m_follow_b78 (n : Nat) (r37 : Int32 → Int32 → Int32 → bS → Option (Int32 × bS)) (x1 : Int32) (x2 : Int32) (x3 : Int32) (σ : bS) : Option (Int32 × bS) :=
  r37 x1 x2 (x3 + ci_1) σ
def m_follow_b37 (n : Nat) : Nat → Int32 → Int32 → Int32 → bS → Option (Int32 × bS)
  | 0, _, _, _, _ => none
  | k + 1, x1, x2, x3, σ =>
  bin_ ci_0 2 (
  if (sA σ 20 ci_0) ≤ x3 then
    some (cb_m2, σ)
  else
  if x3 = x1 then
    m_follow_b78 n (m_follow_b37 n k) x1 x2 x3 σ
  else
  ob (m_could n x3 x2 σ) fun q1 =>
  if q1.1 = 0 then
    m_follow_b78 n (m_follow_b37 n k) x1 x2 x3 q1.2
  else
  ob (m_wishOf n x3 x2 q1.2) fun q2 =>
  bin_ x1 14 (
  if q2.1 = (sA q2.2 22 x1) then
    some (x3, q2.2)
  else
  m_follow_b78 n (m_follow_b37 n k) x1 x2 x3 q2.2))
def m_follow_b16 (n : Nat) (σ : bS) : Option (Int32 × bS) :=
  some (ci_m1, σ)
def m_follow (n : Nat) (x1 : Int32) (x2 : Int32) (σ : bS) : Option (Int32 × bS) :=
  ob (m_isMan n x1 σ) fun q3 =>
  if q3.1 = 0 then
    m_follow_b16 n q3.2
  else
  ob (m_isBridge n x2 q3.2) fun q4 =>
  if q4.1 = 0 then
    m_follow_b16 n q4.2
  else
  ob (m_isAtFoot n x1 x2 (uI q4.2 0 40 ci_0)) fun q5 =>
  if q5.1 = 0 then
    some (cb_m2, q5.2)
  else
  m_follow_b37 n n x1 x2 ci_0 q5.2
def m_nears (n : Nat) (x1 : Int32) (x2 : Int32) (σ : bS) : Option (Int32 × bS) :=
  bin_ x1 96 (
  if x2 < (sA σ 33 x1) then
    bin_ x1 96 (
    bz ci_1 (uA σ 33 x1 x2))
  else
  bz ci_0 σ)
def m_goesOn_b215 (n : Nat) (r90 : Int32 → Int32 → Int32 → Int32 → Int32 → bS → Option (Int32 × bS)) (x1 : Int32) (x2 : Int32) (x3 : Int32) (x4 : Int32) (x5 : Int32) (σ : bS) : Option (Int32 × bS) :=
  r90 x1 x2 x3 x4 (x5 + ci_1) σ
def m_goesOn_b209 (n : Nat) (r90 : Int32 → Int32 → Int32 → Int32 → Int32 → bS → Option (Int32 × bS)) (r135 : Int32 → Int32 → Int32 → Int32 → Int32 → Int32 → Int32 → bS → Option (Int32 × bS)) (x1 : Int32) (x2 : Int32) (x3 : Int32) (x4 : Int32) (x5 : Int32) (x6 : Int32) (x7 : Int32) (σ : bS) : Option (Int32 × bS) :=
  r135 x1 x2 x3 x4 x5 x6 (x7 + ci_1) σ
def m_goesOn_b170 (n : Nat) (r90 : Int32 → Int32 → Int32 → Int32 → Int32 → bS → Option (Int32 × bS)) (r135 : Int32 → Int32 → Int32 → Int32 → Int32 → Int32 → Int32 → bS → Option (Int32 × bS)) (x1 : Int32) (x2 : Int32) (x3 : Int32) (x4 : Int32) (x5 : Int32) (x6 : Int32) (x7 : Int32) (s0 : Int32) (σ : bS) : Option (Int32 × bS) :=
  if s0 = 0 then
    m_goesOn_b209 n r90 r135 x1 x2 x3 x4 x5 x6 x7 σ
  else
  bin_ x1 96 (
  ob (m_nears n ((cb_16 * x7) + (x3 ||| (ci_1 <<< (x5 &&& 31)))) ((sA σ 33 x1) + cs_1001) σ) fun q1 =>
  if q1.1 = 0 then
    m_goesOn_b209 n r90 r135 x1 x2 x3 x4 x5 x6 x7 q1.2
  else
  m_goesOn_b209 n r90 r135 x1 x2 x3 ci_1 x5 x6 x7 q1.2)
def m_goesOn_b165 (n : Nat) (r90 : Int32 → Int32 → Int32 → Int32 → Int32 → bS → Option (Int32 × bS)) (r135 : Int32 → Int32 → Int32 → Int32 → Int32 → Int32 → Int32 → bS → Option (Int32 × bS)) (x1 : Int32) (x2 : Int32) (x3 : Int32) (x4 : Int32) (x5 : Int32) (x6 : Int32) (x7 : Int32) (σ : bS) : Option (Int32 × bS) :=
  m_goesOn_b170 n r90 r135 x1 x2 x3 x4 x5 x6 x7 ci_1 σ
def m_goesOn_b135 (n : Nat) (r90 : Int32 → Int32 → Int32 → Int32 → Int32 → bS → Option (Int32 × bS)) : Nat → Int32 → Int32 → Int32 → Int32 → Int32 → Int32 → Int32 → bS → Option (Int32 × bS)
  | 0, _, _, _, _, _, _, _, _ => none
  | k + 1, x1, x2, x3, x4, x5, x6, x7, σ =>
  bin_ ci_0 2 (
  if (sA σ 12 ci_0) ≤ x7 then
    m_goesOn_b215 n r90 x1 x2 x3 x4 x5 σ
  else
  if x6 = 0 then
    bin_ (ci_1 + x5) 2208 (
    if (sA σ 29 (ci_1 + x5)) = x7 then
      m_goesOn_b165 n r90 (m_goesOn_b135 n r90 k) x1 x2 x3 x4 x5 x6 x7 σ
    else
    m_goesOn_b170 n r90 (m_goesOn_b135 n r90 k) x1 x2 x3 x4 x5 x6 x7 ci_0 σ)
  else
  m_goesOn_b165 n r90 (m_goesOn_b135 n r90 k) x1 x2 x3 x4 x5 x6 x7 σ)
def m_goesOn_b130 (n : Nat) (r90 : Int32 → Int32 → Int32 → Int32 → Int32 → bS → Option (Int32 × bS)) (x1 : Int32) (x2 : Int32) (x3 : Int32) (x4 : Int32) (x5 : Int32) (s0 : Int32) (σ : bS) : Option (Int32 × bS) :=
  m_goesOn_b135 n r90 n x1 x2 x3 x4 x5 s0 ci_0 σ
def m_goesOn_b90 (n : Nat) : Nat → Int32 → Int32 → Int32 → Int32 → Int32 → bS → Option (Int32 × bS)
  | 0, _, _, _, _, _, _ => none
  | k + 1, x1, x2, x3, x4, x5, σ =>
  bin_ ci_0 2 (
  if (sA σ 17 ci_0) ≤ x5 then
    bz x4 σ
  else
  bin_ x5 8 (
  if (sA σ 18 x5) = x2 then
    if ((x3 >>> (x5 &&& 31)) &&& ci_1) = ci_1 then
      m_goesOn_b130 n (m_goesOn_b90 n k) x1 x2 x3 x4 x5 ci_1 σ
    else
    m_goesOn_b130 n (m_goesOn_b90 n k) x1 x2 x3 x4 x5 ci_0 σ
  else
  m_goesOn_b215 n (m_goesOn_b90 n k) x1 x2 x3 x4 x5 σ))
def m_goesOn_b81 (n : Nat) (r16 : Int32 → Int32 → Int32 → Int32 → Int32 → bS → Option (Int32 × bS)) (x1 : Int32) (x2 : Int32) (x3 : Int32) (x4 : Int32) (x5 : Int32) (σ : bS) : Option (Int32 × bS) :=
  r16 x1 x2 x3 x4 (x5 + ci_1) σ
def m_goesOn_b44 (n : Nat) (r16 : Int32 → Int32 → Int32 → Int32 → Int32 → bS → Option (Int32 × bS)) (x1 : Int32) (x2 : Int32) (x3 : Int32) (x4 : Int32) (x5 : Int32) (s0 : Int32) (σ : bS) : Option (Int32 × bS) :=
  if s0 ≤ 0 then
    m_goesOn_b81 n r16 x1 x2 x3 x4 x5 σ
  else
  bin_ x1 96 (
  ob (m_nears n ((cb_16 * x5) + x3) ((sA σ 33 x1) + (cs_1000 * s0)) σ) fun q2 =>
  if q2.1 = 0 then
    m_goesOn_b81 n r16 x1 x2 x3 x4 x5 q2.2
  else
  m_goesOn_b81 n r16 x1 x2 x3 ci_1 x5 q2.2)
def m_goesOn_b16 (n : Nat) : Nat → Int32 → Int32 → Int32 → Int32 → Int32 → bS → Option (Int32 × bS)
  | 0, _, _, _, _, _, _ => none
  | k + 1, x1, x2, x3, x4, x5, σ =>
  bin_ ci_0 2 (
  if (sA σ 12 ci_0) ≤ x5 then
    m_goesOn_b90 n n x1 x2 x3 x4 ci_0 σ
  else
  if x5 = x2 then
    m_goesOn_b44 n (m_goesOn_b16 n k) x1 x2 x3 x4 x5 ci_0 σ
  else
  ob (m_pathOf n x2 x5 σ) fun q3 =>
  m_goesOn_b44 n (m_goesOn_b16 n k) x1 x2 x3 x4 x5 q3.1 q3.2)
def m_goesOn (n : Nat) (x1 : Int32) (σ : bS) : Option (Int32 × bS) :=
  if cb_16 = 0 then none else
  if cb_16 = 0 then none else
  m_goesOn_b16 n n x1 (x1 / cb_16) (brem x1 cb_16) ci_0 ci_0 σ
def m_laysFar_b71 (n : Nat) (r35 : Int32 → bS → Option bS) (r43 : Int32 → Int32 → bS → Option bS) (x2 : Int32) (x3 : Int32) (σ : bS) : Option bS :=
  r43 x2 (x3 + ci_1) σ
def m_laysFar_b43 (n : Nat) (r35 : Int32 → bS → Option bS) : Nat → Int32 → Int32 → bS → Option bS
  | 0, _, _, _ => none
  | k + 1, x2, x3, σ =>
  if cb_96 ≤ x3 then
    r35 x2 σ
  else
  bin_ x3 96 (
  if (1000000 : Int32) ≤ (sA σ 33 x3) then
    m_laysFar_b71 n r35 (m_laysFar_b43 n r35 k) x2 x3 σ
  else
  ob (m_goesOn n x3 σ) fun q1 =>
  if q1.1 = 0 then
    m_laysFar_b71 n r35 (m_laysFar_b43 n r35 k) x2 x3 q1.2
  else
  m_laysFar_b71 n r35 (m_laysFar_b43 n r35 k) ci_1 x3 q1.2)
def m_laysFar_b35 (n : Nat) : Nat → Int32 → bS → Option bS
  | 0, _, _ => none
  | k + 1, x2, σ =>
  if x2 = 0 then
    some σ
  else
  m_laysFar_b43 n (m_laysFar_b35 n k) n ci_0 ci_0 σ
def m_laysFar_b2 (n : Nat) : Nat → Int32 → Int32 → bS → Option bS
  | 0, _, _, _ => none
  | k + 1, x1, x2, σ =>
  if cb_96 ≤ x2 then
    bin_ (cb_16 * x1) 96 (
    m_laysFar_b35 n n ci_1 (uA σ 33 (cb_16 * x1) ci_0))
  else
  bin_ x2 96 (
  (m_laysFar_b2 n k) x1 (x2 + ci_1) (uA σ 33 x2 (1000000 : Int32)))
def m_laysFar (n : Nat) (x1 : Int32) (σ : bS) : Option bS :=
  m_laysFar_b2 n n x1 ci_0 σ
def m_nearest_b39 (n : Nat) (r6 : Int32 → Int32 → Int32 → bS → Option (Int32 × bS)) (x1 : Int32) (x2 : Int32) (x3 : Int32) (σ : bS) : Option (Int32 × bS) :=
  r6 x1 x2 (x3 + ci_1) σ
def m_nearest_b6 (n : Nat) : Nat → Int32 → Int32 → Int32 → bS → Option (Int32 × bS)
  | 0, _, _, _, _ => none
  | k + 1, x1, x2, x3, σ =>
  if cb_16 ≤ x3 then
    some (x2, σ)
  else
  bin_ ((cb_16 * x1) + x3) 96 (
  if x2 ≤ (sA σ 33 ((cb_16 * x1) + x3)) then
    m_nearest_b39 n (m_nearest_b6 n k) x1 x2 x3 σ
  else
  bin_ ((cb_16 * x1) + x3) 96 (
  m_nearest_b39 n (m_nearest_b6 n k) x1 (sA σ 33 ((cb_16 * x1) + x3)) x3 σ))
def m_nearest (n : Nat) (x1 : Int32) (σ : bS) : Option (Int32 × bS) :=
  m_nearest_b6 n n x1 (1000000 : Int32) ci_0 σ
def m_way_b92 (n : Nat) (s0 : Int32) (σ : bS) : Option (Int32 × bS) :=
  some (s0, σ)
def m_way_b25 (n : Nat) (σ : bS) : Option (Int32 × bS) :=
  some (ci_m1, σ)
def m_way (n : Nat) (x1 : Int32) (x2 : Int32) (x3 : Int32) (σ : bS) : Option (Int32 × bS) :=
  ob (m_isMan n x1 σ) fun q1 =>
  if q1.1 = 0 then
    m_way_b25 n q1.2
  else
  ob (m_isBank n x2 q1.2) fun q2 =>
  if q2.1 = 0 then
    m_way_b25 n q2.2
  else
  ob (m_isIn n x3 ci_0 ci_1 q2.2) fun q3 =>
  if q3.1 = 0 then
    m_way_b25 n q3.2
  else
  ob (m_isOn n x1 (uI q3.2 0 40 ci_0)) fun q4 =>
  if q4.1 = 0 then
    bin_ (ci_5 + x1) 2208 (
    ob (m_laysFar n (sA q4.2 29 (ci_5 + x1)) q4.2) fun q5 =>
    ob (m_nearest n x2 q5) fun q6 =>
    if q6.1 = (1000000 : Int32) then
      some (cb_m2, q6.2)
    else
    if x3 = 0 then
      if cs_1000 = 0 then none else
      m_way_b92 n (q6.1 / cs_1000) q6.2
    else
    if cs_1000 = 0 then none else
    m_way_b92 n (brem q6.1 cs_1000) q6.2)
  else
  some (cb_m2, q4.2)
def m_reach_b85 (n : Nat) (r53 : Int32 → Int32 → Int32 → bS → Option (Int32 × bS)) (x2 : Int32) (x3 : Int32) (x4 : Int32) (σ : bS) : Option (Int32 × bS) :=
  r53 x2 x3 (x4 + ci_1) σ
def m_reach_b53 (n : Nat) : Nat → Int32 → Int32 → Int32 → bS → Option (Int32 × bS)
  | 0, _, _, _, _ => none
  | k + 1, x2, x3, x4, σ =>
  bin_ ci_0 2 (
  if (sA σ 12 ci_0) ≤ x4 then
    some (x3, σ)
  else
  ob (m_nearest n x4 σ) fun q1 =>
  if cs_1000 = 0 then none else
  if x2 < (q1.1 / cs_1000) then
    m_reach_b85 n (m_reach_b53 n k) x2 x3 x4 q1.2
  else
  m_reach_b85 n (m_reach_b53 n k) x2 (x3 ||| (ci_1 <<< (x4 &&& 31))) x4 q1.2)
def m_reach_b18 (n : Nat) (σ : bS) : Option (Int32 × bS) :=
  some (ci_m1, σ)
def m_reach (n : Nat) (x1 : Int32) (x2 : Int32) (σ : bS) : Option (Int32 × bS) :=
  ob (m_isMan n x1 σ) fun q2 =>
  if q2.1 = 0 then
    m_reach_b18 n q2.2
  else
  ob (m_isIn n x2 ci_0 cb_99 q2.2) fun q3 =>
  if q3.1 = 0 then
    m_reach_b18 n q3.2
  else
  ob (m_isOn n x1 (uI q3.2 0 40 ci_0)) fun q4 =>
  if q4.1 = 0 then
    bin_ (ci_5 + x1) 2208 (
    ob (m_laysFar n (sA q4.2 29 (ci_5 + x1)) q4.2) fun q5 =>
    m_reach_b53 n n x2 ci_0 ci_0 q5)
  else
  some (cb_m2, q4.2)
def m_isSet_b29 (n : Nat) (s0 : Int32) (σ : bS) : Option (Int32 × bS) :=
  bz s0 σ
def m_isSet_b28 (n : Nat) (σ : bS) : Option (Int32 × bS) :=
  m_isSet_b29 n ci_0 σ
def m_isSet (n : Nat) (x1 : Int32) (x2 : Int32) (σ : bS) : Option (Int32 × bS) :=
  ob (m_isBridge n x1 σ) fun q1 =>
  if q1.1 = 0 then
    m_isSet_b28 n q1.2
  else
  if x2 ≤ 0 then
    m_isSet_b28 n q1.2
  else
  bin_ ci_0 2 (
  if (ci_1 <<< ((sA q1.2 20 ci_0) &&& 31)) ≤ x2 then
    m_isSet_b28 n q1.2
  else
  m_isSet_b29 n ci_1 q1.2)
def m_areAtFoot_b37 (n : Nat) (r7 : Int32 → Int32 → Int32 → bS → Option (Int32 × bS)) (x1 : Int32) (x2 : Int32) (x3 : Int32) (σ : bS) : Option (Int32 × bS) :=
  r7 x1 x2 (x3 + ci_1) σ
def m_areAtFoot_b7 (n : Nat) : Nat → Int32 → Int32 → Int32 → bS → Option (Int32 × bS)
  | 0, _, _, _, _ => none
  | k + 1, x1, x2, x3, σ =>
  bin_ ci_0 2 (
  if (sA σ 20 ci_0) ≤ x3 then
    bz ci_1 σ
  else
  if ((x2 >>> (x3 &&& 31)) &&& ci_1) = ci_1 then
    ob (m_isAtFoot n x3 x1 σ) fun q1 =>
    if q1.1 = 0 then
      bz ci_0 q1.2
    else
    m_areAtFoot_b37 n (m_areAtFoot_b7 n k) x1 x2 x3 q1.2
  else
  m_areAtFoot_b37 n (m_areAtFoot_b7 n k) x1 x2 x3 σ)
def m_areAtFoot (n : Nat) (x1 : Int32) (x2 : Int32) (σ : bS) : Option (Int32 × bS) :=
  m_areAtFoot_b7 n n x1 x2 ci_0 (uI σ 0 40 ci_0)
def m_laysRow_b84 (n : Nat) (r12 : Int32 → Int32 → Int32 → bS → Option bS) (r20 : Int32 → Int32 → Int32 → Int32 → bS → Option bS) (x1 : Int32) (x2 : Int32) (x3 : Int32) (x4 : Int32) (σ : bS) : Option bS :=
  r20 x1 x2 x3 (x4 + ci_1) σ
def m_laysRow_b20 (n : Nat) (r12 : Int32 → Int32 → Int32 → bS → Option bS) : Nat → Int32 → Int32 → Int32 → Int32 → bS → Option bS
  | 0, _, _, _, _, _ => none
  | k + 1, x1, x2, x3, x4, σ =>
  bin_ ci_0 2 (
  if (sA σ 20 ci_0) ≤ x4 then
    r12 x1 x2 (x3 + ci_1) σ
  else
  if ((x1 >>> (x4 &&& 31)) &&& ci_1) = 0 then
    m_laysRow_b84 n r12 (m_laysRow_b20 n r12 k) x1 x2 x3 x4 σ
  else
  if ((x2 >>> (x4 &&& 31)) &&& ci_1) = x3 then
    bin_ (sI σ 0 49) 7 (
    bin_ (sI (uA σ 34 (sI σ 0 49) x4) 0 49) 7 (
    m_laysRow_b84 n r12 (m_laysRow_b20 n r12 k) x1 x2 x3 x4 (uI (uA (uA σ 34 (sI σ 0 49) x4) 35 (sI (uA σ 34 (sI σ 0 49) x4) 0 49) (vp_nar .boolean ci_0)) 0 49 ((sI (uA (uA σ 34 (sI σ 0 49) x4) 35 (sI (uA σ 34 (sI σ 0 49) x4) 0 49) (vp_nar .boolean ci_0)) 0 49) + ci_1))))
  else
  m_laysRow_b84 n r12 (m_laysRow_b20 n r12 k) x1 x2 x3 x4 σ)
def m_laysRow_b12 (n : Nat) : Nat → Int32 → Int32 → Int32 → bS → Option bS
  | 0, _, _, _, _ => none
  | k + 1, x1, x2, x3, σ =>
  if ci_2 ≤ x3 then
    some σ
  else
  m_laysRow_b20 n (m_laysRow_b12 n k) n x1 x2 x3 ci_0 σ
def m_laysRow (n : Nat) (x1 : Int32) (x2 : Int32) (σ : bS) : Option bS :=
  m_laysRow_b12 n n x1 x2 ci_0 (uI (uI σ 0 49 ci_0) 0 53 ci_0)
def m_changes (n : Nat) (x1 : Int32) (x2 : Int32) (σ : bS) : Option bS :=
  bin_ x1 7 (
  bin_ x2 7 (
  bin_ x1 7 (
  bin_ x2 7 (
  some (uA (uA σ 34 x1 (sA σ 34 x2)) 34 x2 (sA σ 34 x1))))))
def m_turns_b105 (n : Nat) (r86 : Int32 → Int32 → bS → Option (Int32 × bS)) (x3 : Int32) (x4 : Int32) (σ : bS) : Option (Int32 × bS) :=
  r86 x3 x4 σ
def m_turns_b86 (n : Nat) : Nat → Int32 → Int32 → bS → Option (Int32 × bS)
  | 0, _, _, _ => none
  | k + 1, x3, x4, σ =>
  if x4 ≤ x3 then
    bz ci_1 σ
  else
  ob (m_changes n x3 x4 σ) fun q1 =>
  m_turns_b105 n (m_turns_b86 n k) (x3 + ci_1) (x4 + ci_m1) q1
def m_turns_b84 (n : Nat) (x3 : Int32) (s0 : Int32) (σ : bS) : Option (Int32 × bS) :=
  m_turns_b86 n n x3 s0 σ
def m_turns_b65 (n : Nat) (r47 : Int32 → Int32 → bS → Option (Int32 × bS)) (x1 : Int32) (x2 : Int32) (σ : bS) : Option (Int32 × bS) :=
  r47 x1 x2 σ
def m_turns_b47 (n : Nat) : Nat → Int32 → Int32 → bS → Option (Int32 × bS)
  | 0, _, _, _ => none
  | k + 1, x1, x2, σ =>
  bin_ x2 7 (
  bin_ x1 7 (
  if (sA σ 34 x1) ≤ (sA σ 34 x2) then
    ob (m_changes n x1 x2 σ) fun q2 =>
    m_turns_b84 n (x1 + ci_1) ((sI q2 0 49) - ci_1) q2
  else
  m_turns_b65 n (m_turns_b47 n k) x1 (x2 + ci_m1) σ))
def m_turns_b46 (n : Nat) (x1 : Int32) (s0 : Int32) (σ : bS) : Option (Int32 × bS) :=
  m_turns_b47 n n x1 s0 σ
def m_turns_b34 (n : Nat) (x1 : Int32) (σ : bS) : Option (Int32 × bS) :=
  if 0 ≤ x1 then
    m_turns_b46 n x1 ((sI σ 0 49) - ci_1) σ
  else
  bz ci_0 σ
def m_turns_b31 (n : Nat) (r7 : Int32 → bS → Option (Int32 × bS)) (x1 : Int32) (σ : bS) : Option (Int32 × bS) :=
  r7 x1 σ
def m_turns_b7 (n : Nat) : Nat → Int32 → bS → Option (Int32 × bS)
  | 0, _, _ => none
  | k + 1, x1, σ =>
  if x1 < 0 then
    m_turns_b34 n x1 σ
  else
  bin_ x1 7 (
  bin_ (x1 + ci_1) 7 (
  if (sA σ 34 x1) ≤ (sA σ 34 (x1 + ci_1)) then
    m_turns_b34 n x1 σ
  else
  m_turns_b31 n (m_turns_b7 n k) (x1 + ci_m1) σ))
def m_turns_b6 (n : Nat) (s0 : Int32) (σ : bS) : Option (Int32 × bS) :=
  m_turns_b7 n n s0 σ
def m_turns (n : Nat) (σ : bS) : Option (Int32 × bS) :=
  m_turns_b6 n ((sI σ 0 49) - ci_2) σ
def m_leaves_b66 (n : Nat) (r7 : Int32 → Int32 → Int32 → Int32 → bS → Option (Int32 × bS)) (x1 : Int32) (x2 : Int32) (x3 : Int32) (x4 : Int32) (σ : bS) : Option (Int32 × bS) :=
  r7 x1 x2 x3 (x4 + ci_1) σ
def m_leaves_b60 (n : Nat) (r7 : Int32 → Int32 → Int32 → Int32 → bS → Option (Int32 × bS)) (x1 : Int32) (x4 : Int32) (x5 : Int32) (σ : bS) : Option (Int32 × bS) :=
  m_leaves_b66 n r7 x1 x4 x5 x4 σ
def m_leaves_b47 (n : Nat) (r7 : Int32 → Int32 → Int32 → Int32 → bS → Option (Int32 × bS)) (x1 : Int32) (x2 : Int32) (x3 : Int32) (x4 : Int32) (s0 : Int32) (σ : bS) : Option (Int32 × bS) :=
  if x4 = 0 then
    m_leaves_b60 n r7 x1 x4 s0 σ
  else
  if s0 ≤ x3 then
    m_leaves_b66 n r7 x1 x2 x3 x4 σ
  else
  m_leaves_b60 n r7 x1 x4 s0 σ
def m_leaves_b7 (n : Nat) : Nat → Int32 → Int32 → Int32 → Int32 → bS → Option (Int32 × bS)
  | 0, _, _, _, _, _ => none
  | k + 1, x1, x2, x3, x4, σ =>
  bin_ ci_0 2 (
  if (sA σ 12 ci_0) ≤ x4 then
    some (x2, σ)
  else
  ob (m_asks n x1 x4 σ) fun q1 =>
  ob (m_lawOf n cb_13 ci_0 q1) fun q2 =>
  ob (m_within n q2.1 cb_m99 cb_99 q2.2) fun q3 =>
  bin_ x4 6 (
  m_leaves_b47 n (m_leaves_b7 n k) x1 x2 x3 x4 (q3.1 - (sA q3.2 36 x4)) q3.2))
def m_leaves (n : Nat) (x1 : Int32) (σ : bS) : Option (Int32 × bS) :=
  m_leaves_b7 n n x1 ci_0 ci_0 ci_0 σ
def m_rowGoes_b113 (n : Nat) (r6 : Int32 → Int32 → bS → Option bS) (x1 : Int32) (x2 : Int32) (x3 : Int32) (σ : bS) : Option bS :=
  bin_ (((sI σ 0 40) + cb_26) + x3) 2208 (
  bin_ (((sI σ 0 40) + cb_26) + x3) 2208 (
  bin_ (((sI (uA σ 29 (((sI σ 0 40) + cb_26) + x3) ((sA σ 29 (((sI σ 0 40) + cb_26) + x3)) + ci_1)) 0 40) + cb_33) + x3) 2208 (
  bin_ (sI (uA (uA σ 29 (((sI σ 0 40) + cb_26) + x3) ((sA σ 29 (((sI σ 0 40) + cb_26) + x3)) + ci_1)) 29 (((sI (uA σ 29 (((sI σ 0 40) + cb_26) + x3) ((sA σ 29 (((sI σ 0 40) + cb_26) + x3)) + ci_1)) 0 40) + cb_33) + x3) ci_0) 0 40) 2208 (
  bin_ (sI (uA (uA σ 29 (((sI σ 0 40) + cb_26) + x3) ((sA σ 29 (((sI σ 0 40) + cb_26) + x3)) + ci_1)) 29 (((sI (uA σ 29 (((sI σ 0 40) + cb_26) + x3) ((sA σ 29 (((sI σ 0 40) + cb_26) + x3)) + ci_1)) 0 40) + cb_33) + x3) ci_0) 0 40) 2208 (
  r6 x1 (x2 + ci_1) (uA (uA (uA σ 29 (((sI σ 0 40) + cb_26) + x3) ((sA σ 29 (((sI σ 0 40) + cb_26) + x3)) + ci_1)) 29 (((sI (uA σ 29 (((sI σ 0 40) + cb_26) + x3) ((sA σ 29 (((sI σ 0 40) + cb_26) + x3)) + ci_1)) 0 40) + cb_33) + x3) ci_0) 29 (sI (uA (uA σ 29 (((sI σ 0 40) + cb_26) + x3) ((sA σ 29 (((sI σ 0 40) + cb_26) + x3)) + ci_1)) 29 (((sI (uA σ 29 (((sI σ 0 40) + cb_26) + x3) ((sA σ 29 (((sI σ 0 40) + cb_26) + x3)) + ci_1)) 0 40) + cb_33) + x3) ci_0) 0 40) ((sA (uA (uA σ 29 (((sI σ 0 40) + cb_26) + x3) ((sA σ 29 (((sI σ 0 40) + cb_26) + x3)) + ci_1)) 29 (((sI (uA σ 29 (((sI σ 0 40) + cb_26) + x3) ((sA σ 29 (((sI σ 0 40) + cb_26) + x3)) + ci_1)) 0 40) + cb_33) + x3) ci_0) 29 (sI (uA (uA σ 29 (((sI σ 0 40) + cb_26) + x3) ((sA σ 29 (((sI σ 0 40) + cb_26) + x3)) + ci_1)) 29 (((sI (uA σ 29 (((sI σ 0 40) + cb_26) + x3) ((sA σ 29 (((sI σ 0 40) + cb_26) + x3)) + ci_1)) 0 40) + cb_33) + x3) ci_0) 0 40)) + ci_1)))))))
def m_rowGoes_b83 (n : Nat) (r6 : Int32 → Int32 → bS → Option bS) (x1 : Int32) (x2 : Int32) (x3 : Int32) (s0 : Int32) (σ : bS) : Option bS :=
  ob (m_comes n x3 x1 σ) fun q1 =>
  if s0 < 0 then
    m_rowGoes_b113 n r6 x1 x2 x3 q1.2
  else
  bin_ (((sI q1.2 0 40) + ci_1) + x1) 2208 (
  m_rowGoes_b113 n r6 x1 x2 x3 (uA q1.2 29 (((sI q1.2 0 40) + ci_1) + x1) s0))
def m_rowGoes_b62 (n : Nat) (r6 : Int32 → Int32 → bS → Option bS) (x1 : Int32) (x2 : Int32) (x3 : Int32) (σ : bS) : Option bS :=
  if (sI σ 0 53) = 0 then
    ob (m_wishOf n x3 x1 σ) fun q2 =>
    m_rowGoes_b83 n r6 x1 x2 x3 q2.1 q2.2
  else
  ob (m_leaves n x3 σ) fun q3 =>
  m_rowGoes_b83 n r6 x1 x2 x3 q3.1 q3.2
def m_rowGoes_b6 (n : Nat) : Nat → Int32 → Int32 → bS → Option bS
  | 0, _, _, _ => none
  | k + 1, x1, x2, σ =>
  if (sI σ 0 49) ≤ x2 then
    some σ
  else
  bin_ x2 7 (
  bin_ x2 7 (
  if (sA σ 35 x2) = 0 then
    m_rowGoes_b62 n (m_rowGoes_b6 n k) x1 x2 (sA σ 34 x2) σ
  else
  bin_ (sA σ 34 x2) 14 (
  bin_ (((sI σ 0 40) + ci_1) + x1) 2208 (
  bin_ (sI (uA σ 29 (((sI σ 0 40) + ci_1) + x1) (sA σ 22 (sA σ 34 x2))) 0 40) 2208 (
  bin_ (sI (uA σ 29 (((sI σ 0 40) + ci_1) + x1) (sA σ 22 (sA σ 34 x2))) 0 40) 2208 (
  m_rowGoes_b62 n (m_rowGoes_b6 n k) x1 x2 (sA σ 34 x2) (uA (uA σ 29 (((sI σ 0 40) + ci_1) + x1) (sA σ 22 (sA σ 34 x2))) 29 (sI (uA σ 29 (((sI σ 0 40) + ci_1) + x1) (sA σ 22 (sA σ 34 x2))) 0 40) ((sA (uA σ 29 (((sI σ 0 40) + ci_1) + x1) (sA σ 22 (sA σ 34 x2))) 29 (sI (uA σ 29 (((sI σ 0 40) + ci_1) + x1) (sA σ 22 (sA σ 34 x2))) 0 40)) + ci_1))))))))
def m_rowGoes (n : Nat) (x1 : Int32) (σ : bS) : Option bS :=
  ob (m_tries n σ) fun q4 =>
  m_rowGoes_b6 n n x1 ci_0 q4
def m_areHome_b2 (n : Nat) : Nat → Int32 → bS → Option (Int32 × bS)
  | 0, _, _ => none
  | k + 1, x1, σ =>
  if (sI σ 0 49) ≤ x1 then
    bz ci_1 σ
  else
  bin_ x1 7 (
  ob (m_isHome n (sA σ 34 x1) σ) fun q1 =>
  if q1.1 = 0 then
    bz ci_0 q1.2
  else
  (m_areHome_b2 n k) (x1 + ci_1) q1.2)
def m_areHome (n : Nat) (σ : bS) : Option (Int32 × bS) :=
  m_areHome_b2 n n ci_0 σ
def m_goodRows_b67 (n : Nat) (r11 : Int32 → Int32 → Int32 → bS → Option (Int32 × bS)) (x1 : Int32) (x3 : Int32) (σ : bS) : Option (Int32 × bS) :=
  ob (m_turns n σ) fun q1 =>
  r11 x1 x3 q1.1 q1.2
def m_goodRows_b64 (n : Nat) (r11 : Int32 → Int32 → Int32 → bS → Option (Int32 × bS)) (x1 : Int32) (x3 : Int32) (σ : bS) : Option (Int32 × bS) :=
  m_goodRows_b67 n r11 x1 (x3 + ci_1) σ
def m_goodRows_b35 (n : Nat) (r11 : Int32 → Int32 → Int32 → bS → Option (Int32 × bS)) : Nat → Int32 → Int32 → Int32 → bS → Option (Int32 × bS)
  | 0, _, _, _, _ => none
  | k + 1, x1, x3, x5, σ =>
  if (sI σ 0 49) ≤ x5 then
    m_goodRows_b64 n r11 x1 x3 σ
  else
  bin_ x5 7 (
  bin_ x5 7 (
  (m_goodRows_b35 n r11 k) x1 x3 (x5 + ci_1) (uA σ 37 x5 (sA σ 34 x5))))
def m_goodRows_b11 (n : Nat) : Nat → Int32 → Int32 → Int32 → bS → Option (Int32 × bS)
  | 0, _, _, _, _ => none
  | k + 1, x1, x3, x4, σ =>
  if x4 = 0 then
    some (x3, σ)
  else
  ob (m_rowGoes n x1 σ) fun q2 =>
  ob (m_areHome n q2) fun q3 =>
  if q3.1 = 0 then
    m_goodRows_b67 n (m_goodRows_b11 n k) x1 x3 q3.2
  else
  if x3 = 0 then
    m_goodRows_b35 n (m_goodRows_b11 n k) n x1 x3 ci_0 q3.2
  else
  m_goodRows_b64 n (m_goodRows_b11 n k) x1 x3 q3.2
def m_goodRows (n : Nat) (x1 : Int32) (x2 : Int32) (σ : bS) : Option (Int32 × bS) :=
  ob (m_laysRow n x2 ci_0 σ) fun q4 =>
  m_goodRows_b11 n n x1 ci_0 ci_1 q4
def m_orders_b31 (n : Nat) (s0 : Int32) (σ : bS) : Option (Int32 × bS) :=
  some (s0, σ)
def m_orders (n : Nat) (x1 : Int32) (x2 : Int32) (σ : bS) : Option (Int32 × bS) :=
  ob (m_isSet n x1 x2 σ) fun q1 =>
  if q1.1 = 0 then
    some (ci_m1, q1.2)
  else
  ob (m_areAtFoot n x1 x2 q1.2) fun q2 =>
  if q2.1 = 0 then
    m_orders_b31 n cb_m2 q2.2
  else
  ob (m_goodRows n x1 x2 q2.2) fun q3 =>
  m_orders_b31 n q3.1 q3.2
def m_orderAt_b54 (n : Nat) (s0 : Int32) (σ : bS) : Option (Int32 × bS) :=
  some (s0, σ)
def m_orderAt_b33 (n : Nat) (σ : bS) : Option (Int32 × bS) :=
  some (cb_m2, σ)
def m_orderAt_b13 (n : Nat) (σ : bS) : Option (Int32 × bS) :=
  some (ci_m1, σ)
def m_orderAt (n : Nat) (x1 : Int32) (x2 : Int32) (x3 : Int32) (σ : bS) : Option (Int32 × bS) :=
  ob (m_isSet n x1 x2 σ) fun q1 =>
  if q1.1 = 0 then
    m_orderAt_b13 n q1.2
  else
  if 0 ≤ x3 then
    ob (m_areAtFoot n x1 x2 q1.2) fun q2 =>
    if q2.1 = 0 then
      m_orderAt_b33 n q2.2
    else
    ob (m_goodRows n x1 x2 q2.2) fun q3 =>
    if q3.1 = 0 then
      m_orderAt_b33 n q3.2
    else
    if (sI q3.2 0 49) ≤ x3 then
      m_orderAt_b54 n ci_m1 q3.2
    else
    bin_ x3 7 (
    m_orderAt_b54 n (sA q3.2 37 x3) q3.2)
  else
  m_orderAt_b13 n q1.2
def m_ones_b4 (n : Nat) : Nat → Int32 → Int32 → Int32 → bS → Option (Int32 × bS)
  | 0, _, _, _, _ => none
  | k + 1, x0, x1, x2, σ =>
  if cb_7 ≤ x2 then
    some (x1, σ)
  else
  (m_ones_b4 n k) x0 (x1 + ((x0 >>> (x2 &&& 31)) &&& ci_1)) (x2 + ci_1) σ
def m_ones (n : Nat) (x0 : Int32) (σ : bS) : Option (Int32 × bS) :=
  m_ones_b4 n n x0 ci_0 ci_0 σ
def m_goodBy_b36 (n : Nat) (r2 : Int32 → Int32 → Int32 → bS → Option (Int32 × bS)) (x1 : Int32) (x2 : Int32) (x3 : Int32) (s1 : Int32) (s2 : Int32) (σ : bS) : Option (Int32 × bS) :=
  bin_ s1 7 (
  r2 x1 x2 (x3 + ci_1) (uA σ 35 s1 (vp_nar .boolean s2)))
def m_goodBy_b24 (n : Nat) (r2 : Int32 → Int32 → Int32 → bS → Option (Int32 × bS)) (x1 : Int32) (x2 : Int32) (x3 : Int32) (s1 : Int32) (s2 : Int32) (s3 : Int32) (σ : bS) : Option (Int32 × bS) :=
  if ((s2 >>> (s3 &&& 31)) &&& ci_1) = ci_1 then
    m_goodBy_b36 n r2 x1 x2 x3 s1 ci_1 σ
  else
  m_goodBy_b36 n r2 x1 x2 x3 s1 ci_0 σ
def m_goodBy_b22 (n : Nat) (r2 : Int32 → Int32 → Int32 → bS → Option (Int32 × bS)) (x1 : Int32) (x2 : Int32) (x3 : Int32) (s1 : Int32) (s2 : Int32) (s3 : Int32) (σ : bS) : Option (Int32 × bS) :=
  m_goodBy_b24 n r2 x1 x2 x3 s1 s2 (s3 - x3) σ
def m_goodBy_b2 (n : Nat) : Nat → Int32 → Int32 → Int32 → bS → Option (Int32 × bS)
  | 0, _, _, _, _ => none
  | k + 1, x1, x2, x3, σ =>
  if (sI σ 0 49) ≤ x3 then
    ob (m_rowGoes n x1 σ) fun q1 =>
    ob (m_areHome n q1) fun q2 =>
    bz q2.1 q2.2
  else
  m_goodBy_b22 n (m_goodBy_b2 n k) x1 x2 x3 x3 x2 ((sI σ 0 49) - ci_1) σ
def m_goodBy (n : Nat) (x1 : Int32) (x2 : Int32) (σ : bS) : Option (Int32 × bS) :=
  m_goodBy_b2 n n x1 x2 ci_0 σ
def m_rowWith_b55 (n : Nat) (r9 : Int32 → Int32 → Int32 → bS → Option (Int32 × bS)) (r17 : Int32 → Int32 → Int32 → bS → Option (Int32 × bS)) (x1 : Int32) (x3 : Int32) (x5 : Int32) (σ : bS) : Option (Int32 × bS) :=
  r17 x1 x3 (x5 + ci_1) σ
def m_rowWith_b17 (n : Nat) (r9 : Int32 → Int32 → Int32 → bS → Option (Int32 × bS)) : Nat → Int32 → Int32 → Int32 → bS → Option (Int32 × bS)
  | 0, _, _, _, _ => none
  | k + 1, x1, x3, x5, σ =>
  if (ci_1 <<< ((sI σ 0 49) &&& 31)) ≤ x5 then
    ob (m_turns n σ) fun q1 =>
    r9 x1 x3 q1.1 q1.2
  else
  ob (m_ones n x5 σ) fun q2 =>
  if q2.1 = x3 then
    ob (m_goodBy n x1 x5 q2.2) fun q3 =>
    if q3.1 = 0 then
      m_rowWith_b55 n r9 (m_rowWith_b17 n r9 k) x1 x3 x5 q3.2
    else
    bz ci_1 (uI q3.2 0 55 x5)
  else
  m_rowWith_b55 n r9 (m_rowWith_b17 n r9 k) x1 x3 x5 q2.2
def m_rowWith_b9 (n : Nat) : Nat → Int32 → Int32 → Int32 → bS → Option (Int32 × bS)
  | 0, _, _, _, _ => none
  | k + 1, x1, x3, x4, σ =>
  if x4 = 0 then
    bz ci_0 σ
  else
  m_rowWith_b17 n (m_rowWith_b9 n k) n x1 x3 ci_0 σ
def m_rowWith (n : Nat) (x1 : Int32) (x2 : Int32) (x3 : Int32) (σ : bS) : Option (Int32 × bS) :=
  ob (m_laysRow n x2 ci_0 σ) fun q4 =>
  m_rowWith_b9 n n x1 x3 ci_1 q4
def m_fewestHired_b2 (n : Nat) : Nat → Int32 → Int32 → Int32 → bS → Option (Int32 × bS)
  | 0, _, _, _, _ => none
  | k + 1, x1, x2, x3, σ =>
  ob (m_rowWith n x1 x2 x3 σ) fun q1 =>
  if q1.1 = 0 then
    (m_fewestHired_b2 n k) x1 x2 (x3 + ci_1) q1.2
  else
  some (x3, q1.2)
def m_fewestHired (n : Nat) (x1 : Int32) (x2 : Int32) (σ : bS) : Option (Int32 × bS) :=
  m_fewestHired_b2 n n x1 x2 ci_0 σ
def m_wishers_b31 (n : Nat) (s0 : Int32) (σ : bS) : Option (Int32 × bS) :=
  some (s0, σ)
def m_wishers (n : Nat) (x1 : Int32) (x2 : Int32) (σ : bS) : Option (Int32 × bS) :=
  ob (m_isSet n x1 x2 σ) fun q1 =>
  if q1.1 = 0 then
    some (ci_m1, q1.2)
  else
  ob (m_areAtFoot n x1 x2 q1.2) fun q2 =>
  if q2.1 = 0 then
    m_wishers_b31 n cb_m2 q2.2
  else
  ob (m_fewestHired n x1 x2 q2.2) fun q3 =>
  m_wishers_b31 n q3.1 q3.2
def m_wisherAt_b72 (n : Nat) (s0 : Int32) (σ : bS) : Option (Int32 × bS) :=
  some (s0, σ)
def m_wisherAt_b65 (n : Nat) (s0 : Int32) (s1 : Int32) (s2 : Int32) (σ : bS) : Option (Int32 × bS) :=
  m_wisherAt_b72 n (s0 + (((s1 >>> (s2 &&& 31)) &&& ci_1) * cb_100)) σ
def m_wisherAt_b63 (n : Nat) (x3 : Int32) (s0 : Int32) (s1 : Int32) (s2 : Int32) (σ : bS) : Option (Int32 × bS) :=
  m_wisherAt_b65 n s0 s1 (s2 - x3) σ
def m_wisherAt_b13 (n : Nat) (σ : bS) : Option (Int32 × bS) :=
  some (ci_m1, σ)
def m_wisherAt (n : Nat) (x1 : Int32) (x2 : Int32) (x3 : Int32) (σ : bS) : Option (Int32 × bS) :=
  ob (m_isSet n x1 x2 σ) fun q1 =>
  if q1.1 = 0 then
    m_wisherAt_b13 n q1.2
  else
  if 0 ≤ x3 then
    ob (m_areAtFoot n x1 x2 q1.2) fun q2 =>
    if q2.1 = 0 then
      some (cb_m2, q2.2)
    else
    ob (m_fewestHired n x1 x2 q2.2) fun q3 =>
    if x3 < (sI q3.2 0 49) then
      bin_ x3 7 (
      m_wisherAt_b63 n x3 (sA q3.2 34 x3) (sI q3.2 0 55) ((sI q3.2 0 49) - ci_1) q3.2)
    else
    m_wisherAt_b72 n ci_m1 q3.2
  else
  m_wisherAt_b13 n q1.2
def m_joins_b45 (n : Nat) (r18 : Int32 → Int32 → Int32 → bS → Option bS) (x3 : Int32) (x4 : Int32) (x5 : Int32) (σ : bS) : Option bS :=
  r18 x3 x4 (x5 + ci_1) σ
def m_joins_b18 (n : Nat) : Nat → Int32 → Int32 → Int32 → bS → Option bS
  | 0, _, _, _, _ => none
  | k + 1, x3, x4, x5, σ =>
  if cb_6 ≤ x5 then
    some σ
  else
  bin_ x5 6 (
  if (sA σ 40 x5) = x3 then
    bin_ x5 6 (
    m_joins_b45 n (m_joins_b18 n k) x3 x4 x5 (uA σ 40 x5 x4))
  else
  m_joins_b45 n (m_joins_b18 n k) x3 x4 x5 σ)
def m_joins (n : Nat) (x1 : Int32) (x2 : Int32) (σ : bS) : Option bS :=
  bin_ x1 6 (
  bin_ x2 6 (
  m_joins_b18 n n (sA σ 40 x1) (sA σ 40 x2) ci_0 σ))
def m_laysArcs_b127 (n : Nat) (r42 : Int32 → Int32 → Int32 → bS → Option bS) (x1 : Int32) (x2 : Int32) (x3 : Int32) (σ : bS) : Option bS :=
  r42 x1 x2 (x3 + ci_1) σ
def m_laysArcs_b87 (n : Nat) (r42 : Int32 → Int32 → Int32 → bS → Option bS) (x1 : Int32) (x2 : Int32) (x3 : Int32) (s0 : Int32) (σ : bS) : Option bS :=
  bin_ x3 14 (
  bin_ (sA σ 22 x3) 6 (
  bin_ (sA σ 22 x3) 6 (
  bin_ s0 6 (
  bin_ s0 6 (
  bin_ x3 14 (
  ob (m_joins n (sA (uA (uA σ 38 (sA σ 22 x3) ((sA σ 38 (sA σ 22 x3)) + ci_1)) 39 s0 ((sA (uA σ 38 (sA σ 22 x3) ((sA σ 38 (sA σ 22 x3)) + ci_1)) 39 s0) + ci_1)) 22 x3) s0 (uA (uA σ 38 (sA σ 22 x3) ((sA σ 38 (sA σ 22 x3)) + ci_1)) 39 s0 ((sA (uA σ 38 (sA σ 22 x3) ((sA σ 38 (sA σ 22 x3)) + ci_1)) 39 s0) + ci_1))) fun q1 =>
  m_laysArcs_b127 n r42 x1 x2 x3 q1))))))
def m_laysArcs_b42 (n : Nat) : Nat → Int32 → Int32 → Int32 → bS → Option bS
  | 0, _, _, _, _ => none
  | k + 1, x1, x2, x3, σ =>
  bin_ ci_0 2 (
  if (sA σ 20 ci_0) ≤ x3 then
    some σ
  else
  if ((x2 >>> (x3 &&& 31)) &&& ci_1) = 0 then
    m_laysArcs_b127 n (m_laysArcs_b42 n k) x1 x2 x3 σ
  else
  ob (m_wishOf n x3 x1 σ) fun q2 =>
  if 0 ≤ q2.1 then
    m_laysArcs_b87 n (m_laysArcs_b42 n k) x1 x2 x3 q2.1 q2.2
  else
  bin_ x3 14 (
  m_laysArcs_b87 n (m_laysArcs_b42 n k) x1 x2 x3 (sA q2.2 22 x3) q2.2))
def m_laysArcs_b2 (n : Nat) : Nat → Int32 → Int32 → Int32 → bS → Option bS
  | 0, _, _, _, _ => none
  | k + 1, x1, x2, x3, σ =>
  if cb_6 ≤ x3 then
    m_laysArcs_b42 n n x1 x2 ci_0 (uI σ 0 40 ci_0)
  else
  bin_ x3 6 (
  bin_ x3 6 (
  bin_ x3 6 (
  (m_laysArcs_b2 n k) x1 x2 (x3 + ci_1) (uA (uA (uA σ 38 x3 ci_0) 39 x3 ci_0) 40 x3 x3))))
def m_laysArcs (n : Nat) (x1 : Int32) (x2 : Int32) (σ : bS) : Option bS :=
  m_laysArcs_b2 n n x1 x2 ci_0 σ
def m_moreOut_b88 (n : Nat) (s0 : Int32) (σ : bS) : Option (Int32 × bS) :=
  some (s0, σ)
def m_moreOut_b73 (n : Nat) (r7 : Int32 → Int32 → Int32 → Int32 → bS → Option (Int32 × bS)) (x1 : Int32) (x2 : Int32) (x3 : Int32) (x4 : Int32) (σ : bS) : Option (Int32 × bS) :=
  r7 x1 x2 x3 (x4 + ci_1) σ
def m_moreOut_b72 (n : Nat) (r7 : Int32 → Int32 → Int32 → Int32 → bS → Option (Int32 × bS)) (x1 : Int32) (x3 : Int32) (x4 : Int32) (s0 : Int32) (σ : bS) : Option (Int32 × bS) :=
  m_moreOut_b73 n r7 x1 s0 x3 x4 σ
def m_moreOut_b7 (n : Nat) : Nat → Int32 → Int32 → Int32 → Int32 → bS → Option (Int32 × bS)
  | 0, _, _, _, _, _ => none
  | k + 1, x1, x2, x3, x4, σ =>
  if cb_6 ≤ x4 then
    if x3 = 0 then
      m_moreOut_b88 n ci_m1 σ
    else
    m_moreOut_b88 n x2 σ
  else
  bin_ x4 6 (
  if (sA σ 40 x4) = x1 then
    bin_ x4 6 (
    bin_ x4 6 (
    bin_ x4 6 (
    if (sA σ 38 x4) ≤ (sA σ 39 x4) then
      m_moreOut_b73 n (m_moreOut_b7 n k) x1 x2 (x3 + (sA σ 38 x4)) x4 σ
    else
    bin_ x4 6 (
    bin_ x4 6 (
    m_moreOut_b72 n (m_moreOut_b7 n k) x1 (x3 + (sA σ 38 x4)) x4 ((x2 + (sA σ 38 x4)) - (sA σ 39 x4)) σ)))))
  else
  m_moreOut_b73 n (m_moreOut_b7 n k) x1 x2 x3 x4 σ)
def m_moreOut (n : Nat) (x1 : Int32) (σ : bS) : Option (Int32 × bS) :=
  m_moreOut_b7 n n x1 ci_0 ci_0 ci_0 σ
def m_rings_b190 (n : Nat) (s0 : Int32) (σ : bS) : Option (Int32 × bS) :=
  some (s0, σ)
def m_rings_b169 (n : Nat) (x3 : Int32) (x4 : Int32) (x5 : Int32) (x6 : Int32) (σ : bS) : Option (Int32 × bS) :=
  if x3 = 0 then
    m_rings_b190 n x4 σ
  else
  if x3 = ci_1 then
    m_rings_b190 n x5 σ
  else
  m_rings_b190 n x6 σ
def m_rings_b166 (n : Nat) (x3 : Int32) (x4 : Int32) (x5 : Int32) (x6 : Int32) (σ : bS) : Option (Int32 × bS) :=
  m_rings_b169 n x3 x4 x5 (x6 + ci_m1) σ
def m_rings_b100 (n : Nat) (r50 : Int32 → Int32 → Int32 → Int32 → Int32 → Int32 → bS → Option (Int32 × bS)) (x1 : Int32) (x3 : Int32) (x4 : Int32) (x5 : Int32) (x6 : Int32) (x7 : Int32) (σ : bS) : Option (Int32 × bS) :=
  r50 x1 x3 x4 x5 x6 (x7 + ci_1) σ
def m_rings_b97 (n : Nat) (r50 : Int32 → Int32 → Int32 → Int32 → Int32 → Int32 → bS → Option (Int32 × bS)) (x1 : Int32) (x3 : Int32) (x4 : Int32) (x5 : Int32) (x7 : Int32) (s0 : Int32) (s1 : Int32) (σ : bS) : Option (Int32 × bS) :=
  m_rings_b100 n r50 x1 x3 x4 x5 (s0 + s1) x7 σ
def m_rings_b84 (n : Nat) (r50 : Int32 → Int32 → Int32 → Int32 → Int32 → Int32 → bS → Option (Int32 × bS)) (x1 : Int32) (x3 : Int32) (x4 : Int32) (x5 : Int32) (x6 : Int32) (x7 : Int32) (x8 : Int32) (σ : bS) : Option (Int32 × bS) :=
  if x8 = 0 then
    m_rings_b97 n r50 x1 x3 x4 x5 x7 x6 ci_1 σ
  else
  m_rings_b97 n r50 x1 x3 x4 x5 x7 x6 x8 σ
def m_rings_b50 (n : Nat) : Nat → Int32 → Int32 → Int32 → Int32 → Int32 → Int32 → bS → Option (Int32 × bS)
  | 0, _, _, _, _, _, _, _ => none
  | k + 1, x1, x3, x4, x5, x6, x7, σ =>
  if cb_6 ≤ x7 then
    bin_ (ci_1 + x1) 2208 (
    if (sA σ 29 (ci_1 + x1)) < 0 then
      m_rings_b169 n x3 x4 x5 x6 σ
    else
    bin_ (sA σ 29 (ci_1 + x1)) 6 (
    ob (m_moreOut n (sA σ 40 (sA σ 29 (ci_1 + x1))) σ) fun q1 =>
    if q1.1 < 0 then
      m_rings_b169 n x3 x4 x5 x6 q1.2
    else
    bin_ (sA σ 29 (ci_1 + x1)) 6 (
    ob (m_moreOut n (sA q1.2 40 (sA σ 29 (ci_1 + x1))) q1.2) fun q2 =>
    if q2.1 = 0 then
      m_rings_b166 n x3 x4 x5 x6 q2.2
    else
    bin_ (sA σ 29 (ci_1 + x1)) 6 (
    bin_ (sA σ 29 (ci_1 + x1)) 6 (
    if (sA q2.2 38 (sA σ 29 (ci_1 + x1))) ≤ (sA q2.2 39 (sA σ 29 (ci_1 + x1))) then
      m_rings_b169 n x3 x4 x5 x6 q2.2
    else
    m_rings_b166 n x3 x4 x5 x6 q2.2)))))
  else
  ob (m_moreOut n x7 σ) fun q3 =>
  if 0 ≤ q3.1 then
    if q3.1 = 0 then
      m_rings_b84 n (m_rings_b50 n k) x1 x3 (x4 + ci_1) (x5 + ci_1) x6 x7 q3.1 q3.2
    else
    m_rings_b84 n (m_rings_b50 n k) x1 x3 (x4 + ci_1) x5 x6 x7 q3.1 q3.2
  else
  m_rings_b100 n (m_rings_b50 n k) x1 x3 x4 x5 x6 x7 q3.2
def m_rings_b18 (n : Nat) (σ : bS) : Option (Int32 × bS) :=
  some (ci_m1, σ)
def m_rings (n : Nat) (x1 : Int32) (x2 : Int32) (x3 : Int32) (σ : bS) : Option (Int32 × bS) :=
  ob (m_isSet n x1 x2 σ) fun q4 =>
  if q4.1 = 0 then
    m_rings_b18 n q4.2
  else
  ob (m_isIn n x3 ci_0 ci_2 q4.2) fun q5 =>
  if q5.1 = 0 then
    m_rings_b18 n q5.2
  else
  ob (m_areAtFoot n x1 x2 q5.2) fun q6 =>
  if q6.1 = 0 then
    some (cb_m2, q6.2)
  else
  ob (m_laysArcs n x1 x2 q6.2) fun q7 =>
  m_rings_b50 n n x1 x3 ci_0 ci_0 ci_0 ci_0 q7
def m_gainOf_b105 (n : Nat) (s1 : Int32) (s2 : Int32) (σ : bS) : Option (Int32 × bS) :=
  ob (m_lawOf n s1 s2 σ) fun q1 =>
  ob (m_within n q1.1 cb_m99 cb_99 q1.2) fun q2 =>
  some (q2.1, q2.2)
def m_gainOf_b67 (n : Nat) (x1 : Int32) (x2 : Int32) (x3 : Int32) (s1 : Int32) (s2 : Int32) (σ : bS) : Option (Int32 × bS) :=
  bin_ s1 8 (
  bin_ ci_5 8 (
  bin_ cb_6 8 (
  bin_ cb_7 8 (
  bin_ ci_4 8 (
  m_gainOf_b105 n cb_12 ((cb_20 * (sA (uA (uA (uA (uA σ 31 s1 s2) 31 ci_5 x1) 31 cb_6 x3) 31 cb_7 x2) 31 ci_4)) - x2) (uA (uA (uA (uA σ 31 s1 s2) 31 ci_5 x1) 31 cb_6 x3) 31 cb_7 x2))))))
def m_gainOf (n : Nat) (x1 : Int32) (x2 : Int32) (x3 : Int32) (σ : bS) : Option (Int32 × bS) :=
  bin_ x1 7 (
  bin_ ci_0 8 (
  bin_ ci_1 8 (
  bin_ (cb_26 + x1) 2208 (
  bin_ ci_2 8 (
  bin_ (cb_19 + x1) 2208 (
  bin_ ci_3 8 (
  ob (m_isHome n x1 (uA (uA (uA (uA σ 31 ci_0 (sA σ 42 x1)) 31 ci_1 ci_0) 31 ci_2 (sA (uA (uA σ 31 ci_0 (sA σ 42 x1)) 31 ci_1 ci_0) 29 (cb_26 + x1))) 31 ci_3 (sA (uA (uA (uA σ 31 ci_0 (sA σ 42 x1)) 31 ci_1 ci_0) 31 ci_2 (sA (uA (uA σ 31 ci_0 (sA σ 42 x1)) 31 ci_1 ci_0) 29 (cb_26 + x1))) 29 (cb_19 + x1)))) fun q3 =>
  if q3.1 = 0 then
    m_gainOf_b67 n x1 x2 x3 ci_4 ci_0 q3.2
  else
  m_gainOf_b67 n x1 x2 x3 ci_4 ci_1 q3.2)))))))
def m_laysGains_b56 (n : Nat) : Nat → Int32 → Int32 → bS → Option bS
  | 0, _, _, _ => none
  | k + 1, x1, x4, σ =>
  if (sI σ 0 49) ≤ x4 then
    some σ
  else
  bin_ x4 7 (
  bin_ x4 7 (
  bin_ x1 8 (
  ob (m_gainOf n (sA σ 34 x4) x4 (sA σ 18 x1) σ) fun q1 =>
  bin_ (sA σ 34 x4) 7 (
  (m_laysGains_b56 n k) x1 (x4 + ci_1) (uA q1.2 41 (sA σ 34 x4) q1.1)))))
def m_laysGains_b9 (n : Nat) : Nat → Int32 → Int32 → bS → Option bS
  | 0, _, _, _ => none
  | k + 1, x1, x4, σ =>
  if (sI σ 0 49) ≤ x4 then
    ob (m_rowGoes n x1 σ) fun q2 =>
    m_laysGains_b56 n n x1 ci_0 q2
  else
  bin_ x4 7 (
  bin_ ci_0 2208 (
  if cb_24 = 0 then none else
  bin_ (sA σ 34 x4) 7 (
  (m_laysGains_b9 n k) x1 (x4 + ci_1) (uA σ 42 (sA σ 34 x4) (brem ((sA σ 29 ci_0) + x4) cb_24)))))
def m_laysGains (n : Nat) (x1 : Int32) (x2 : Int32) (x3 : Int32) (σ : bS) : Option bS :=
  ob (m_laysRow n x2 x3 σ) fun q3 =>
  m_laysGains_b9 n n x1 ci_0 q3
def m_isLate_b47 (n : Nat) (s0 : Int32) (σ : bS) : Option (Int32 × bS) :=
  bz s0 σ
def m_isLate_b46 (n : Nat) (σ : bS) : Option (Int32 × bS) :=
  m_isLate_b47 n ci_0 σ
def m_isLate (n : Nat) (x1 : Int32) (x2 : Int32) (x3 : Int32) (σ : bS) : Option (Int32 × bS) :=
  ob (m_isSet n x1 x2 σ) fun q1 =>
  if q1.1 = 0 then
    m_isLate_b46 n q1.2
  else
  if x3 < 0 then
    m_isLate_b46 n q1.2
  else
  bin_ ci_0 2 (
  if (ci_1 <<< ((sA q1.2 20 ci_0) &&& 31)) ≤ x3 then
    m_isLate_b46 n q1.2
  else
  if (x3 &&& (x2 ^^^ ci_m1)) = 0 then
    ob (m_areAtFoot n x1 x2 q1.2) fun q2 =>
    if q2.1 = 0 then
      m_isLate_b46 n q2.2
    else
    m_isLate_b47 n ci_1 q2.2
  else
  m_isLate_b46 n q1.2)
def m_gain_b28 (n : Nat) (σ : bS) : Option (Int32 × bS) :=
  some (cs_m1000, σ)
def m_gain (n : Nat) (x1 : Int32) (x2 : Int32) (x3 : Int32) (x4 : Int32) (σ : bS) : Option (Int32 × bS) :=
  ob (m_isLate n x1 x2 x3 σ) fun q1 =>
  if q1.1 = 0 then
    m_gain_b28 n q1.2
  else
  ob (m_isMan n x4 q1.2) fun q2 =>
  if q2.1 = 0 then
    m_gain_b28 n q2.2
  else
  if ((x2 >>> (x4 &&& 31)) &&& ci_1) = 0 then
    m_gain_b28 n q2.2
  else
  ob (m_laysGains n x1 x2 x3 q2.2) fun q3 =>
  bin_ x4 7 (
  some ((sA q3 41 x4), q3))
def m_worthOf_b13 (n : Nat) : Nat → Int32 → Int32 → bS → Option (Int32 × bS)
  | 0, _, _, _ => none
  | k + 1, x4, x5, σ =>
  if (sI σ 0 49) ≤ x5 then
    some (x4, σ)
  else
  bin_ x5 7 (
  bin_ (sA σ 34 x5) 7 (
  (m_worthOf_b13 n k) (x4 + (sA σ 41 (sA σ 34 x5))) (x5 + ci_1) σ))
def m_worthOf (n : Nat) (x1 : Int32) (x2 : Int32) (x3 : Int32) (σ : bS) : Option (Int32 × bS) :=
  ob (m_laysGains n x1 x2 x3 σ) fun q1 =>
  m_worthOf_b13 n n ci_0 ci_0 q1
def m_worth_b23 (n : Nat) (s0 : Int32) (σ : bS) : Option (Int32 × bS) :=
  some (s0, σ)
def m_worth (n : Nat) (x1 : Int32) (x2 : Int32) (x3 : Int32) (σ : bS) : Option (Int32 × bS) :=
  ob (m_isLate n x1 x2 x3 σ) fun q1 =>
  if q1.1 = 0 then
    m_worth_b23 n cs_m1000 q1.2
  else
  ob (m_worthOf n x1 x2 x3 q1.2) fun q2 =>
  m_worth_b23 n q2.1 q2.2
def m_isRest_b68 (n : Nat) (r3 : Int32 → Int32 → Int32 → Int32 → bS → Option (Int32 × bS)) (x1 : Int32) (x2 : Int32) (x3 : Int32) (x4 : Int32) (σ : bS) : Option (Int32 × bS) :=
  r3 x1 x2 x3 (x4 + ci_1) σ
def m_isRest_b3 (n : Nat) : Nat → Int32 → Int32 → Int32 → Int32 → bS → Option (Int32 × bS)
  | 0, _, _, _, _, _ => none
  | k + 1, x1, x2, x3, x4, σ =>
  bin_ ci_0 2 (
  if (sA σ 20 ci_0) ≤ x4 then
    bz ci_1 σ
  else
  if ((x2 >>> (x4 &&& 31)) &&& ci_1) = 0 then
    m_isRest_b68 n (m_isRest_b3 n k) x1 x2 x3 x4 σ
  else
  ob (m_laysGains n x1 x2 x3 σ) fun q1 =>
  bin_ x4 7 (
  ob (m_laysGains n x1 x2 (x3 ^^^ (ci_1 <<< (x4 &&& 31))) q1) fun q2 =>
  bin_ x4 7 (
  if (sA q2 41 x4) ≤ (sA q1 41 x4) then
    m_isRest_b68 n (m_isRest_b3 n k) x1 x2 x3 x4 q2
  else
  bz ci_0 q2)))
def m_isRest (n : Nat) (x1 : Int32) (x2 : Int32) (x3 : Int32) (σ : bS) : Option (Int32 × bS) :=
  m_isRest_b3 n n x1 x2 x3 ci_0 σ
def m_rests_b99 (n : Nat) (s0 : Int32) (σ : bS) : Option (Int32 × bS) :=
  some (s0, σ)
def m_rests_b82 (n : Nat) (r34 : Int32 → Int32 → Int32 → Int32 → Int32 → bS → Option (Int32 × bS)) (x1 : Int32) (x2 : Int32) (x3 : Int32) (x4 : Int32) (x5 : Int32) (σ : bS) : Option (Int32 × bS) :=
  r34 x1 x2 x3 x4 (x5 + ci_1) σ
def m_rests_b34 (n : Nat) : Nat → Int32 → Int32 → Int32 → Int32 → Int32 → bS → Option (Int32 × bS)
  | 0, _, _, _, _, _, _ => none
  | k + 1, x1, x2, x3, x4, x5, σ =>
  bin_ ci_0 2 (
  if (ci_1 <<< ((sA σ 20 ci_0) &&& 31)) ≤ x5 then
    if x3 = ci_m1 then
      m_rests_b99 n x4 σ
    else
    m_rests_b99 n ci_m1 σ
  else
  if (x5 &&& (x2 ^^^ ci_m1)) = 0 then
    ob (m_isRest n x1 x2 x5 σ) fun q1 =>
    if q1.1 = 0 then
      m_rests_b82 n (m_rests_b34 n k) x1 x2 x3 x4 x5 q1.2
    else
    if x4 = x3 then
      some (x5, q1.2)
    else
    m_rests_b82 n (m_rests_b34 n k) x1 x2 x3 (x4 + ci_1) x5 q1.2
  else
  m_rests_b82 n (m_rests_b34 n k) x1 x2 x3 x4 x5 σ)
def m_rests_b14 (n : Nat) (σ : bS) : Option (Int32 × bS) :=
  some (ci_m1, σ)
def m_rests (n : Nat) (x1 : Int32) (x2 : Int32) (x3 : Int32) (σ : bS) : Option (Int32 × bS) :=
  ob (m_isSet n x1 x2 σ) fun q2 =>
  if q2.1 = 0 then
    m_rests_b14 n q2.2
  else
  if ci_m1 ≤ x3 then
    ob (m_areAtFoot n x1 x2 q2.2) fun q3 =>
    if q3.1 = 0 then
      some (cb_m2, q3.2)
    else
    m_rests_b34 n n x1 x2 x3 ci_0 ci_0 q3.2
  else
  m_rests_b14 n q2.2
def m_best_b135 (n : Nat) (s0 : Int32) (σ : bS) : Option (Int32 × bS) :=
  some (s0, σ)
def m_best_b103 (n : Nat) (r35 : Int32 → Int32 → Int32 → Int32 → Int32 → Int32 → bS → Option (Int32 × bS)) (x1 : Int32) (x2 : Int32) (x3 : Int32) (x4 : Int32) (x5 : Int32) (x6 : Int32) (σ : bS) : Option (Int32 × bS) :=
  r35 x1 x2 x3 x4 x5 (x6 + ci_1) σ
def m_best_b81 (n : Nat) (r35 : Int32 → Int32 → Int32 → Int32 → Int32 → Int32 → bS → Option (Int32 × bS)) (x1 : Int32) (x2 : Int32) (x3 : Int32) (x4 : Int32) (x5 : Int32) (x6 : Int32) (x7 : Int32) (σ : bS) : Option (Int32 × bS) :=
  if x5 ≤ x7 then
    m_best_b103 n r35 x1 x2 x3 x4 x5 x6 σ
  else
  ob (m_isRest n x1 x2 x6 σ) fun q1 =>
  if q1.1 = 0 then
    m_best_b103 n r35 x1 x2 x3 x4 x5 x6 q1.2
  else
  m_best_b103 n r35 x1 x2 x3 x4 x7 x6 q1.2
def m_best_b35 (n : Nat) : Nat → Int32 → Int32 → Int32 → Int32 → Int32 → Int32 → bS → Option (Int32 × bS)
  | 0, _, _, _, _, _, _, _ => none
  | k + 1, x1, x2, x3, x4, x5, x6, σ =>
  bin_ ci_0 2 (
  if (ci_1 <<< ((sA σ 20 ci_0) &&& 31)) ≤ x6 then
    if x3 = 0 then
      some (x4, σ)
    else
    if x5 = cs_1000 then
      m_best_b135 n cs_m1000 σ
    else
    m_best_b135 n (x4 - x5) σ
  else
  if (x6 &&& (x2 ^^^ ci_m1)) = 0 then
    ob (m_worthOf n x1 x2 x6 σ) fun q2 =>
    if q2.1 ≤ x4 then
      m_best_b81 n (m_best_b35 n k) x1 x2 x3 x4 x5 x6 q2.1 q2.2
    else
    m_best_b81 n (m_best_b35 n k) x1 x2 x3 q2.1 x5 x6 q2.1 q2.2
  else
  m_best_b103 n (m_best_b35 n k) x1 x2 x3 x4 x5 x6 σ)
def m_best_b18 (n : Nat) (σ : bS) : Option (Int32 × bS) :=
  some (cs_m1000, σ)
def m_best (n : Nat) (x1 : Int32) (x2 : Int32) (x3 : Int32) (σ : bS) : Option (Int32 × bS) :=
  ob (m_isSet n x1 x2 σ) fun q3 =>
  if q3.1 = 0 then
    m_best_b18 n q3.2
  else
  ob (m_areAtFoot n x1 x2 q3.2) fun q4 =>
  if q4.1 = 0 then
    m_best_b18 n q4.2
  else
  m_best_b35 n n x1 x2 x3 cs_m1000 cs_1000 ci_0 q4.2
def m_laysPrices_b53 (n : Nat) (r15 : Int32 → Int32 → Int32 → Int32 → bS → Option (Int32 × bS)) (x2 : Int32) (x3 : Int32) (x4 : Int32) (x5 : Int32) (σ : bS) : Option (Int32 × bS) :=
  r15 x2 x3 x4 x5 σ
def m_laysPrices_b15 (n : Nat) : Nat → Int32 → Int32 → Int32 → Int32 → bS → Option (Int32 × bS)
  | 0, _, _, _, _, _ => none
  | k + 1, x2, x3, x4, x5, σ =>
  if x5 < 0 then
    some (x4, σ)
  else
  if (x2 + ci_1) = 0 then none else
  bin_ x5 6 (
  bin_ x5 6 (
  if (x2 + ci_1) = 0 then none else
  m_laysPrices_b53 n (m_laysPrices_b15 n k) x2 (x3 / (x2 + ci_1)) (x4 + (sA (uA σ 36 x5 (brem x3 (x2 + ci_1))) 36 x5)) (x5 + ci_m1) (uA σ 36 x5 (brem x3 (x2 + ci_1)))))
def m_laysPrices_b13 (n : Nat) (x2 : Int32) (x3 : Int32) (x4 : Int32) (s0 : Int32) (σ : bS) : Option (Int32 × bS) :=
  m_laysPrices_b15 n n x2 x3 x4 s0 σ
def m_laysPrices (n : Nat) (x1 : Int32) (x2 : Int32) (σ : bS) : Option (Int32 × bS) :=
  bin_ ci_0 2 (
  m_laysPrices_b13 n x2 x1 ci_0 ((sA σ 12 ci_0) - ci_1) σ)
def m_prices_b211 (n : Nat) (s0 : Int32) (σ : bS) : Option (Int32 × bS) :=
  some (s0, σ)
def m_prices_b199 (n : Nat) (x6 : Int32) (σ : bS) : Option (Int32 × bS) :=
  m_prices_b211 n x6 σ
def m_prices_b182 (n : Nat) (r87 : Int32 → Int32 → Int32 → Int32 → Int32 → Int32 → Int32 → bS → Option (Int32 × bS)) (x1 : Int32) (x2 : Int32) (x3 : Int32) (x4 : Int32) (x5 : Int32) (x6 : Int32) (x7 : Int32) (σ : bS) : Option (Int32 × bS) :=
  r87 x1 x2 x3 x4 x5 x6 (x7 + ci_1) σ
def m_prices_b151 (n : Nat) (r87 : Int32 → Int32 → Int32 → Int32 → Int32 → Int32 → Int32 → bS → Option (Int32 × bS)) : Nat → Int32 → Int32 → Int32 → Int32 → Int32 → Int32 → Int32 → Int32 → bS → Option (Int32 × bS)
  | 0, _, _, _, _, _, _, _, _, _ => none
  | k + 1, x1, x2, x3, x4, x5, x6, x7, x9, σ =>
  bin_ ci_0 2 (
  if (sA σ 12 ci_0) ≤ x9 then
    m_prices_b182 n r87 x1 x2 x3 x4 x5 x6 x7 σ
  else
  bin_ x9 6 (
  bin_ x9 6 (
  (m_prices_b151 n r87 k) x1 x2 x3 x4 x5 x6 x7 (x9 + ci_1) (uA σ 43 x9 (sA σ 36 x9)))))
def m_prices_b118 (n : Nat) (r87 : Int32 → Int32 → Int32 → Int32 → Int32 → Int32 → Int32 → bS → Option (Int32 × bS)) (x1 : Int32) (x2 : Int32) (x3 : Int32) (x4 : Int32) (x5 : Int32) (x6 : Int32) (x7 : Int32) (x8 : Int32) (σ : bS) : Option (Int32 × bS) :=
  ob (m_laysRow n x2 ci_0 σ) fun q1 =>
  ob (m_rowGoes n x1 (uI q1 0 53 ci_1)) fun q2 =>
  ob (m_areHome n q2) fun q3 =>
  if q3.1 = 0 then
    m_prices_b182 n r87 x1 x2 x3 x4 x5 x6 x7 q3.2
  else
  m_prices_b151 n r87 n x1 x2 x3 x4 x5 x8 x7 ci_0 q3.2
def m_prices_b87 (n : Nat) : Nat → Int32 → Int32 → Int32 → Int32 → Int32 → Int32 → Int32 → bS → Option (Int32 × bS)
  | 0, _, _, _, _, _, _, _, _ => none
  | k + 1, x1, x2, x3, x4, x5, x6, x7, σ =>
  if x5 ≤ x7 then
    if x6 < 0 then
      m_prices_b199 n x6 σ
    else
    if x4 = ci_m1 then
      m_prices_b199 n x6 σ
    else
    bin_ x4 6 (
    m_prices_b211 n (sA σ 43 x4) σ)
  else
  ob (m_laysPrices n x7 x3 σ) fun q4 =>
  if x6 < 0 then
    m_prices_b118 n (m_prices_b87 n k) x1 x2 x3 x4 x5 x6 x7 q4.1 q4.2
  else
  if q4.1 < x6 then
    m_prices_b118 n (m_prices_b87 n k) x1 x2 x3 x4 x5 x6 x7 q4.1 q4.2
  else
  m_prices_b182 n (m_prices_b87 n k) x1 x2 x3 x4 x5 x6 x7 q4.2
def m_prices_b55 (n : Nat) : Nat → Int32 → Int32 → Int32 → Int32 → Int32 → Int32 → bS → Option (Int32 × bS)
  | 0, _, _, _, _, _, _, _ => none
  | k + 1, x1, x2, x3, x4, x5, x6, σ =>
  bin_ ci_0 2 (
  if (sA σ 12 ci_0) ≤ x6 then
    m_prices_b87 n n x1 x2 x3 x4 x5 cb_m2 ci_0 σ
  else
  (m_prices_b55 n k) x1 x2 x3 x4 (x5 * (x3 + ci_1)) (x6 + ci_1) σ)
def m_prices_b35 (n : Nat) (σ : bS) : Option (Int32 × bS) :=
  some (ci_m1, σ)
def m_prices_b29 (n : Nat) (x1 : Int32) (x2 : Int32) (x3 : Int32) (x4 : Int32) (s0 : Int32) (s1 : Int32) (s2 : Int32) (σ : bS) : Option (Int32 × bS) :=
  ob (m_isIn n s0 s1 s2 σ) fun q5 =>
  if q5.1 = 0 then
    m_prices_b35 n q5.2
  else
  ob (m_areAtFoot n x1 x2 q5.2) fun q6 =>
  if q6.1 = 0 then
    some (cb_m2, q6.2)
  else
  m_prices_b55 n n x1 x2 x3 x4 ci_1 ci_0 q6.2
def m_prices (n : Nat) (x1 : Int32) (x2 : Int32) (x3 : Int32) (x4 : Int32) (σ : bS) : Option (Int32 × bS) :=
  ob (m_isSet n x1 x2 σ) fun q7 =>
  if q7.1 = 0 then
    m_prices_b35 n q7.2
  else
  ob (m_isIn n x3 ci_0 ci_3 q7.2) fun q8 =>
  if q8.1 = 0 then
    m_prices_b35 n q8.2
  else
  bin_ ci_0 2 (
  m_prices_b29 n x1 x2 x3 x4 x4 ci_m1 ((sA q8.2 12 ci_0) - ci_1) q8.2)
def m_see_b63 (n : Nat) (s0 : Int32) (σ : bS) : Option (Int32 × bS) :=
  some (s0, σ)
def m_see_b25 (n : Nat) (σ : bS) : Option (Int32 × bS) :=
  some (ci_m1, σ)
def m_see (n : Nat) (x1 : Int32) (x2 : Int32) (σ : bS) : Option (Int32 × bS) :=
  ob (m_isMan n x1 σ) fun q1 =>
  if q1.1 = 0 then
    m_see_b25 n q1.2
  else
  ob (m_isBank n x2 q1.2) fun q2 =>
  if q2.1 = 0 then
    m_see_b25 n q2.2
  else
  if (sI q2.2 0 62) = cb_12 then
    m_see_b25 n q2.2
  else
  bin_ (sI q2.2 0 62) 12 (
  bin_ (sI (uA q2.2 44 (sI q2.2 0 62) x1) 0 62) 12 (
  m_see_b63 n ((sI (uI (uA (uA q2.2 44 (sI q2.2 0 62) x1) 45 (sI (uA q2.2 44 (sI q2.2 0 62) x1) 0 62) x2) 0 62 ((sI (uA (uA q2.2 44 (sI q2.2 0 62) x1) 45 (sI (uA q2.2 44 (sI q2.2 0 62) x1) 0 62) x2) 0 62) + ci_1)) 0 62) - ci_1) (uI (uA (uA q2.2 44 (sI q2.2 0 62) x1) 45 (sI (uA q2.2 44 (sI q2.2 0 62) x1) 0 62) x2) 0 62 ((sI (uA (uA q2.2 44 (sI q2.2 0 62) x1) 45 (sI (uA q2.2 44 (sI q2.2 0 62) x1) 0 62) x2) 0 62) + ci_1))))
def m_say_b16 (n : Nat) (σ : bS) : Option (Int32 × bS) :=
  bz ci_0 σ
def m_say (n : Nat) (x1 : Int32) (x2 : Int32) (σ : bS) : Option (Int32 × bS) :=
  ob (m_isMan n x1 σ) fun q1 =>
  if q1.1 = 0 then
    m_say_b16 n q1.2
  else
  ob (m_isBank n x2 q1.2) fun q2 =>
  if q2.1 = 0 then
    m_say_b16 n q2.2
  else
  bin_ x1 7 (
  bz ci_1 (uA q2.2 46 x1 x2))
def m_forget_b12 (n : Nat) : Nat → Int32 → Int32 → bS → Option (Int32 × bS)
  | 0, _, _, _ => none
  | k + 1, x1, x2, σ =>
  if cb_7 ≤ x2 then
    some (x1, σ)
  else
  bin_ x2 7 (
  (m_forget_b12 n k) x1 (x2 + ci_1) (uA σ 46 x2 ci_m1))
def m_forget (n : Nat) (σ : bS) : Option (Int32 × bS) :=
  m_forget_b12 n n (sI σ 0 62) ci_0 (uI σ 0 62 ci_0)
def m_knows_b63 (n : Nat) (r23 : Int32 → Int32 → bS → Option (Int32 × bS)) (x1 : Int32) (x2 : Int32) (x3 : Int32) (σ : bS) : Option (Int32 × bS) :=
  bin_ x2 12 (
  bin_ x3 7 (
  r23 x1 (x2 + ci_1) (uA σ 47 x3 (sA σ 45 x2))))
def m_knows_b35 (n : Nat) (r23 : Int32 → Int32 → bS → Option (Int32 × bS)) (x1 : Int32) (x2 : Int32) (s1 : Int32) (σ : bS) : Option (Int32 × bS) :=
  bin_ s1 12 (
  bin_ (sA σ 44 s1) 7 (
  if (sA σ 47 (sA σ 44 s1)) < 0 then
    m_knows_b63 n r23 x1 x2 (sA σ 44 s1) σ
  else
  bin_ (sA σ 44 s1) 7 (
  bin_ x2 12 (
  if (sA σ 47 (sA σ 44 s1)) = (sA σ 45 x2) then
    m_knows_b63 n r23 x1 x2 (sA σ 44 s1) σ
  else
  bz ci_0 σ))))
def m_knows_b23 (n : Nat) : Nat → Int32 → Int32 → bS → Option (Int32 × bS)
  | 0, _, _, _ => none
  | k + 1, x1, x2, σ =>
  if x1 ≤ x2 then
    bz ci_1 σ
  else
  m_knows_b35 n (m_knows_b23 n k) x1 x2 (x2 - ci_1) σ
def m_knows_b2 (n : Nat) : Nat → Int32 → Int32 → bS → Option (Int32 × bS)
  | 0, _, _, _ => none
  | k + 1, x1, x2, σ =>
  if cb_7 ≤ x2 then
    m_knows_b23 n n x1 ci_1 σ
  else
  bin_ x2 7 (
  (m_knows_b2 n k) x1 (x2 + ci_1) (uA σ 47 x2 ci_m1))
def m_knows (n : Nat) (x1 : Int32) (σ : bS) : Option (Int32 × bS) :=
  m_knows_b2 n n x1 ci_0 σ
def m_fits_b69 (n : Nat) (r41 : Int32 → Int32 → bS → Option (Int32 × bS)) (x2 : Int32) (x3 : Int32) (σ : bS) : Option (Int32 × bS) :=
  r41 x2 (x3 + ci_1) σ
def m_fits_b41 (n : Nat) : Nat → Int32 → Int32 → bS → Option (Int32 × bS)
  | 0, _, _, _ => none
  | k + 1, x2, x3, σ =>
  bin_ ci_0 2 (
  if (sA σ 20 ci_0) ≤ x3 then
    some (x2, σ)
  else
  bin_ x3 7 (
  if 0 ≤ (sA σ 47 x3) then
    m_fits_b69 n (m_fits_b41 n k) x2 x3 σ
  else
  bin_ ci_0 2 (
  m_fits_b69 n (m_fits_b41 n k) (x2 * (sA σ 12 ci_0)) x3 σ)))
def m_fits_b38 (n : Nat) (s0 : Int32) (σ : bS) : Option (Int32 × bS) :=
  m_fits_b41 n n s0 ci_0 σ
def m_fits (n : Nat) (x1 : Int32) (σ : bS) : Option (Int32 × bS) :=
  ob (m_isIn n x1 ci_0 (sI σ 0 62) σ) fun q1 =>
  if q1.1 = 0 then
    some (ci_m1, q1.2)
  else
  ob (m_knows n x1 q1.2) fun q2 =>
  if q2.1 = 0 then
    some (ci_0, q2.2)
  else
  if x1 = 0 then
    bin_ ci_0 2 (
    m_fits_b38 n (sA q2.2 12 ci_0) q2.2)
  else
  m_fits_b38 n ci_1 q2.2
def m_sure_b65 (n : Nat) (s0 : Int32) (σ : bS) : Option (Int32 × bS) :=
  some (s0, σ)
def m_sure_b20 (n : Nat) (σ : bS) : Option (Int32 × bS) :=
  some (ci_m1, σ)
def m_sure (n : Nat) (x1 : Int32) (x2 : Int32) (σ : bS) : Option (Int32 × bS) :=
  ob (m_isIn n x1 ci_0 (sI σ 0 62) σ) fun q1 =>
  if q1.1 = 0 then
    m_sure_b20 n q1.2
  else
  ob (m_isMan n x2 q1.2) fun q2 =>
  if q2.1 = 0 then
    m_sure_b20 n q2.2
  else
  ob (m_knows n x1 q2.2) fun q3 =>
  if q3.1 = 0 then
    some (cb_m2, q3.2)
  else
  bin_ x2 7 (
  if (sA q3.2 47 x2) < 0 then
    bin_ ci_0 2 (
    if (sA q3.2 12 ci_0) = ci_1 then
      m_sure_b65 n ci_0 q3.2
    else
    m_sure_b65 n cb_m2 q3.2)
  else
  bin_ x2 7 (
  some ((sA q3.2 47 x2), q3.2)))
def m_trust_b77 (n : Nat) (r28 : Int32 → Int32 → bS → Option (Int32 × bS)) (x2 : Int32) (x3 : Int32) (σ : bS) : Option (Int32 × bS) :=
  r28 x2 (x3 + ci_1) σ
def m_trust_b71 (n : Nat) (r28 : Int32 → Int32 → bS → Option (Int32 × bS)) (x2 : Int32) (x3 : Int32) (σ : bS) : Option (Int32 × bS) :=
  m_trust_b77 n r28 (x2 ||| (ci_1 <<< (x3 &&& 31))) x3 σ
def m_trust_b28 (n : Nat) : Nat → Int32 → Int32 → bS → Option (Int32 × bS)
  | 0, _, _, _ => none
  | k + 1, x2, x3, σ =>
  bin_ ci_0 2 (
  if (sA σ 20 ci_0) ≤ x3 then
    some (x2, σ)
  else
  bin_ x3 7 (
  if (sA σ 46 x3) < 0 then
    m_trust_b77 n (m_trust_b28 n k) x2 x3 σ
  else
  bin_ x3 7 (
  if (sA σ 47 x3) < 0 then
    m_trust_b71 n (m_trust_b28 n k) x2 x3 σ
  else
  bin_ x3 7 (
  bin_ x3 7 (
  if (sA σ 47 x3) = (sA σ 46 x3) then
    m_trust_b71 n (m_trust_b28 n k) x2 x3 σ
  else
  m_trust_b77 n (m_trust_b28 n k) x2 x3 σ)))))
def m_trust (n : Nat) (x1 : Int32) (σ : bS) : Option (Int32 × bS) :=
  ob (m_isIn n x1 ci_0 (sI σ 0 62) σ) fun q1 =>
  if q1.1 = 0 then
    some (ci_m1, q1.2)
  else
  ob (m_knows n x1 q1.2) fun q2 =>
  if q2.1 = 0 then
    some (ci_0, q2.2)
  else
  m_trust_b28 n n ci_0 ci_0 q2.2
def m_hold (n : Nat) (x1 : Int32) (σ : bS) : Option (Int32 × bS) :=
  ob (m_isIn n x1 ci_0 ci_2 σ) fun q1 =>
  if q1.1 = 0 then
    bz ci_0 q1.2
  else
  ob (m_copies n ci_0 (cs_144 + (cb_48 * x1)) q1.2) fun q2 =>
  bin_ x1 3 (
  bz ci_1 (uA q2 30 x1 (vp_nar .boolean ci_1)))
def m_restore_b18 (n : Nat) (σ : bS) : Option (Int32 × bS) :=
  bz ci_0 σ
def m_restore (n : Nat) (x1 : Int32) (σ : bS) : Option (Int32 × bS) :=
  ob (m_isIn n x1 ci_0 ci_2 σ) fun q1 =>
  if q1.1 = 0 then
    m_restore_b18 n q1.2
  else
  bin_ x1 3 (
  if (sA q1.2 30 x1) = 0 then
    m_restore_b18 n q1.2
  else
  ob (m_copies n (cs_144 + (cb_48 * x1)) ci_0 q1.2) fun q2 =>
  bz ci_1 (uI q2 0 41 ci_0))
def m_heldMany_b21 (n : Nat) (r4 : Int32 → Int32 → bS → Option (Int32 × bS)) (x1 : Int32) (x2 : Int32) (σ : bS) : Option (Int32 × bS) :=
  r4 x1 (x2 + ci_1) σ
def m_heldMany_b4 (n : Nat) : Nat → Int32 → Int32 → bS → Option (Int32 × bS)
  | 0, _, _, _ => none
  | k + 1, x1, x2, σ =>
  if ci_3 ≤ x2 then
    some (x1, σ)
  else
  bin_ x2 3 (
  if (sA σ 30 x2) = 0 then
    m_heldMany_b21 n (m_heldMany_b4 n k) x1 x2 σ
  else
  m_heldMany_b21 n (m_heldMany_b4 n k) (x1 + ci_1) x2 σ)
def m_heldMany (n : Nat) (σ : bS) : Option (Int32 × bS) :=
  m_heldMany_b4 n n ci_0 ci_0 σ
def m_saidBy_b29 (n : Nat) (r4 : Int32 → Int32 → bS → Option (Int32 × bS)) (x1 : Int32) (x2 : Int32) (σ : bS) : Option (Int32 × bS) :=
  r4 x1 (x2 + ci_1) σ
def m_saidBy_b4 (n : Nat) : Nat → Int32 → Int32 → bS → Option (Int32 × bS)
  | 0, _, _, _ => none
  | k + 1, x1, x2, σ =>
  bin_ ci_0 2 (
  if (sA σ 20 ci_0) ≤ x2 then
    some (x1, σ)
  else
  bin_ x2 7 (
  if (sA σ 46 x2) < 0 then
    m_saidBy_b29 n (m_saidBy_b4 n k) x1 x2 σ
  else
  m_saidBy_b29 n (m_saidBy_b4 n k) (x1 ||| (ci_1 <<< (x2 &&& 31))) x2 σ))
def m_saidBy (n : Nat) (σ : bS) : Option (Int32 × bS) :=
  m_saidBy_b4 n n ci_0 ci_0 σ
def m_count_b157 (n : Nat) (s0 : Int32) (σ : bS) : Option (Int32 × bS) :=
  some (s0, σ)
def m_count (n : Nat) (x1 : Int32) (σ : bS) : Option (Int32 × bS) :=
  if x1 = 0 then
    bin_ ci_0 2 (
    some ((sA σ 12 ci_0), σ))
  else
  if x1 = ci_1 then
    bin_ ci_0 2 (
    some ((sA σ 13 ci_0), σ))
  else
  if x1 = ci_2 then
    bin_ ci_0 2 (
    some ((sA σ 17 ci_0), σ))
  else
  if x1 = ci_3 then
    bin_ ci_0 2 (
    some ((sA σ 20 ci_0), σ))
  else
  if x1 = ci_4 then
    bin_ ci_0 2208 (
    some ((sA σ 29 ci_0), σ))
  else
  if x1 = ci_5 then
    bin_ cb_40 2208 (
    some ((sA σ 29 cb_40), σ))
  else
  if x1 = cb_6 then
    bin_ cb_41 2208 (
    some ((sA σ 29 cb_41), σ))
  else
  if x1 = cb_7 then
    some ((sI σ 0 0), σ)
  else
  if x1 = cb_8 then
    some ((sI σ 0 41), σ)
  else
  if x1 = cb_9 then
    some ((sI σ 0 62), σ)
  else
  if x1 = cb_10 then
    ob (m_heldMany n σ) fun q1 =>
    some (q1.1, q1.2)
  else
  if x1 = cb_11 then
    ob (m_saidBy n σ) fun q2 =>
    some (q2.1, q2.2)
  else
  if x1 = cb_12 then
    bin_ ci_0 8 (
    m_count_b157 n (sA σ 24 ci_0) σ)
  else
  m_count_b157 n ci_m1 σ
