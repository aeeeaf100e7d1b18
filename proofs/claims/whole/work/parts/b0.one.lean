/-! one statement, whatever it is -/
def isB (x : Option (Int32 × bS)) : Prop := ∀ v σ, x = some (v, σ) → v = 0 ∨ v = 1
theorem isB_bz {x : Int32} {σ : bS} : isB (bz x σ) := fun v σ' e => by
  unfold bz at e
  split at e
  · rename_i h
    have e := congrArg Prod.fst (Option.some.inj e)
    have e : x = v := e
    rw [← e]
    exact h
  · cases e
theorem isB_bin {i : Int32} {n : Nat} {x : Option (Int32 × bS)} (h : isB x) : isB (bin_ i n x) := fun v σ' e => by
  unfold bin_ at e
  split at e
  · cases e
  · exact h v σ' e
theorem isB_ob {α : Type} {x : Option α} {k : α → Option (Int32 × bS)} (h : ∀ q, isB (k q)) : isB (ob x k) := fun v σ' e => by
  cases x with
  | none => cases e
  | some q => exact h q v σ' e
theorem isB_ite {c : Prop} [Decidable c] {x y : Option (Int32 × bS)} (h1 : isB x) (h2 : isB y) : isB (if c then x else y) := by
  split
  · exact h1
  · exact h2
theorem isB_id {x : Option (Int32 × bS)} (h : isB x) : (ob x fun q => bz q.1 q.2) = x := by
  cases x with
  | none => rfl
  | some q =>
    obtain ⟨v, σ⟩ := q
    rw [ob_def]
    exact bz_v (h v σ rfl)
theorem isB_m_tellBank {n : Nat} {σ : bS} : isB (m_tellBank n σ) := by
  unfold m_tellBank
  unfold m_tellBank_b38
  repeat (first | exact isB_bz | apply isB_bin | (apply isB_ob; intro _) | apply isB_ite)
theorem isB_m_tellPath {n : Nat} {σ : bS} : isB (m_tellPath n σ) := by
  unfold m_tellPath
  unfold m_tellPath_b42 m_tellPath_b105
  repeat (first | exact isB_bz | apply isB_bin | (apply isB_ob; intro _) | apply isB_ite)
theorem isB_m_tellBridge {n : Nat} {σ : bS} : isB (m_tellBridge n σ) := by
  unfold m_tellBridge
  unfold m_tellBridge_b54 m_tellBridge_b106
  repeat (first | exact isB_bz | apply isB_bin | (apply isB_ob; intro _) | apply isB_ite)
theorem isB_m_tellMan {n : Nat} {σ : bS} : isB (m_tellMan n σ) := by
  unfold m_tellMan
  unfold m_tellMan_b56
  repeat (first | exact isB_bz | apply isB_bin | (apply isB_ob; intro _) | apply isB_ite)
theorem isB_m_tellLawOf {n : Nat} {x y : Int32} {σ : bS} : isB (m_tellLawOf n x y σ) := by
  unfold m_tellLawOf
  unfold m_tellLawOf_b15 m_tellLawOf_b35
  repeat (first | exact isB_bz | apply isB_bin | (apply isB_ob; intro _) | apply isB_ite)
theorem isB_m_tellRest {n : Nat} {x y : Int32} {σ : bS} : isB (m_tellRest n x y σ) := by
  unfold m_tellRest
  unfold m_tellRest_b16
  repeat (first | exact isB_bz | apply isB_bin | (apply isB_ob; intro _) | apply isB_ite)
def stC (n K : Nat) (σ : bS) : Option bS := if K = 13 then cReader_readBank n σ else if K = 14 then cReader_readPath n σ else if K = 15 then cReader_readBridge n σ else if K = 16 then cReader_readMan n σ else if K = 17 then cReader_readNamedLaw_21 n cb_17 cb_16 σ else if K = 18 then cReader_readNamedLaw_22 n cb_18 cb_15 σ else if K = 19 then (ob (cReader_takePlainLaw n cb_19 σ) fun q => some (uI q.2 14 12 q.1)) else if K = 20 then (ob (cReader_takePlainLaw n cb_20 σ) fun q => some (uI q.2 14 13 q.1)) else if K = 21 then (ob (cReader_takePlainLaw n cb_21 σ) fun q => some (uI q.2 14 14 q.1)) else if K = 22 then (ob (cReader_takeSetting n cb_22 cb_23 σ) fun q => some (uI q.2 14 15 q.1)) else if K = 23 then (ob (cReader_takeSetting n cb_23 cb_100 σ) fun q => some (uI q.2 14 16 q.1)) else if K = 24 then (ob (cReader_takeSetting n cb_24 cb_99 σ) fun q => some (uI q.2 14 17 q.1)) else if K = 25 then (ob (cReader_takeSetting n cb_25 cs_9999 σ) fun q => some (uI q.2 14 18 q.1)) else cReader_fail n ci_1 σ
def stM (n K : Nat) (σ : bS) : Option (Int32 × bS) := if K = 13 then m_tellBank n σ else if K = 14 then m_tellPath n σ else if K = 15 then m_tellBridge n σ else if K = 16 then m_tellMan n σ else if K = 17 then m_tellLawOf n ci_2 ci_0 σ else if K = 18 then m_tellLawOf n ci_1 cb_7 σ else if K = 19 then (ob (m_pass n σ) fun q12 => if q12.1 = 0 then m_tellOne_b123 n q12.2 else ob (m_lawTold n (nI 11) q12.2) fun q13 => if q13.1 = 0 then m_tellOne_b123 n q13.2 else m_tellOne_b124 n ci_1 q13.2) else if K = 20 then (ob (m_pass n σ) fun q12 => if q12.1 = 0 then m_tellOne_b123 n q12.2 else ob (m_lawTold n (nI 12) q12.2) fun q13 => if q13.1 = 0 then m_tellOne_b123 n q13.2 else m_tellOne_b124 n ci_1 q13.2) else if K = 21 then (ob (m_pass n σ) fun q12 => if q12.1 = 0 then m_tellOne_b123 n q12.2 else ob (m_lawTold n (nI 13) q12.2) fun q13 => if q13.1 = 0 then m_tellOne_b123 n q13.2 else m_tellOne_b124 n ci_1 q13.2) else if K = 22 then m_tellRest n ci_0 cb_23 σ else if K = 23 then m_tellRest n ci_1 cb_100 σ else if K = 24 then m_tellRest n ci_2 cb_99 σ else if K = 25 then m_tellRest n ci_3 cs_9999 σ else m_wrong n ci_1 σ
theorem ob_ob {α β : Type} {x : Option α} {f : α → bS} {g : bS → Option β} : (ob (ob x fun q => some (f q)) fun q => g q) = ob x fun q => g (f q) := by
  cases x with
  | none => rfl
  | some q => rfl
theorem c_stepO {s : tS} {n k nx j : Nat} {σ : bS} (hT : okT s) (h : CP s nx σ) (hj : j ≤ 400) (h0 : ¬ tkd s nx = 0) : cReader_readInto_14_43_b10 n (k + 1) (nI j) σ = ob (stC n (tkd s nx) σ) fun q => cReader_readInto_14_43_b10 n k (nI (j + 1)) q := by
  have k36 := hT.1 nx
  have e294 : ∀ q, cReader_readInto_14_43_b294 n (cReader_readInto_14_43_b10 n k) (nI j) q = cReader_readInto_14_43_b10 n k (nI (j + 1)) q := fun q => by rw [cReader_readInto_14_43_b294, nI_s]
  rw [cReader_readInto_14_43_b10, cs_400_n, if_neg (fun u => by have := (nI_ltI (by omega) (by omega)).mp u; omega), if_pos (show sI σ 44 5 = 0 from h.2), c_kindE h.1, ob_def, if_neg (show ¬ nI (tkd s nx) = 0 from fun u => h0 (nI_inj (by omega) (by decide) (u.trans (show (0 : Int32) = nI 0 from rfl))))]
  show (ob (cReader_kind n σ) fun q2 => _) = _
  rw [c_kindE h.1, ob_def]
  simp only [e294]
  generalize hK : tkd s nx = K at *
  unfold stC
  by_cases z13 : K = 13
  · subst z13
    rw [show (nI 13).toInt = 13 by decide, if_pos (show (13 : Int) = 13 from rfl), if_pos (show (13 : Nat) = 13 from rfl)]
  by_cases z14 : K = 14
  · subst z14
    rw [show (nI 14).toInt = 14 by decide, if_neg (show ¬ (14 : Int) = 13 by decide), if_pos (show (14 : Int) = 14 from rfl), if_neg (show ¬ (14 : Nat) = 13 by decide), if_pos (show (14 : Nat) = 14 from rfl)]
  by_cases z15 : K = 15
  · subst z15
    rw [show (nI 15).toInt = 15 by decide, if_neg (show ¬ (15 : Int) = 13 by decide), if_neg (show ¬ (15 : Int) = 14 by decide), if_pos (show (15 : Int) = 15 from rfl), if_neg (show ¬ (15 : Nat) = 13 by decide), if_neg (show ¬ (15 : Nat) = 14 by decide), if_pos (show (15 : Nat) = 15 from rfl)]
  by_cases z16 : K = 16
  · subst z16
    rw [show (nI 16).toInt = 16 by decide, if_neg (show ¬ (16 : Int) = 13 by decide), if_neg (show ¬ (16 : Int) = 14 by decide), if_neg (show ¬ (16 : Int) = 15 by decide), if_pos (show (16 : Int) = 16 from rfl), if_neg (show ¬ (16 : Nat) = 13 by decide), if_neg (show ¬ (16 : Nat) = 14 by decide), if_neg (show ¬ (16 : Nat) = 15 by decide), if_pos (show (16 : Nat) = 16 from rfl)]
  by_cases z17 : K = 17
  · subst z17
    rw [show (nI 17).toInt = 17 by decide, if_neg (show ¬ (17 : Int) = 13 by decide), if_neg (show ¬ (17 : Int) = 14 by decide), if_neg (show ¬ (17 : Int) = 15 by decide), if_neg (show ¬ (17 : Int) = 16 by decide), if_pos (show (17 : Int) = 17 from rfl), if_neg (show ¬ (17 : Nat) = 13 by decide), if_neg (show ¬ (17 : Nat) = 14 by decide), if_neg (show ¬ (17 : Nat) = 15 by decide), if_neg (show ¬ (17 : Nat) = 16 by decide), if_pos (show (17 : Nat) = 17 from rfl)]
  by_cases z18 : K = 18
  · subst z18
    rw [show (nI 18).toInt = 18 by decide, if_neg (show ¬ (18 : Int) = 13 by decide), if_neg (show ¬ (18 : Int) = 14 by decide), if_neg (show ¬ (18 : Int) = 15 by decide), if_neg (show ¬ (18 : Int) = 16 by decide), if_neg (show ¬ (18 : Int) = 17 by decide), if_pos (show (18 : Int) = 18 from rfl), if_neg (show ¬ (18 : Nat) = 13 by decide), if_neg (show ¬ (18 : Nat) = 14 by decide), if_neg (show ¬ (18 : Nat) = 15 by decide), if_neg (show ¬ (18 : Nat) = 16 by decide), if_neg (show ¬ (18 : Nat) = 17 by decide), if_pos (show (18 : Nat) = 18 from rfl)]
  by_cases z19 : K = 19
  · subst z19
    rw [show (nI 19).toInt = 19 by decide, if_neg (show ¬ (19 : Int) = 13 by decide), if_neg (show ¬ (19 : Int) = 14 by decide), if_neg (show ¬ (19 : Int) = 15 by decide), if_neg (show ¬ (19 : Int) = 16 by decide), if_neg (show ¬ (19 : Int) = 17 by decide), if_neg (show ¬ (19 : Int) = 18 by decide), if_pos (show (19 : Int) = 19 from rfl), if_neg (show ¬ (19 : Nat) = 13 by decide), if_neg (show ¬ (19 : Nat) = 14 by decide), if_neg (show ¬ (19 : Nat) = 15 by decide), if_neg (show ¬ (19 : Nat) = 16 by decide), if_neg (show ¬ (19 : Nat) = 17 by decide), if_neg (show ¬ (19 : Nat) = 18 by decide), if_pos (show (19 : Nat) = 19 from rfl), ob_ob]
  by_cases z20 : K = 20
  · subst z20
    rw [show (nI 20).toInt = 20 by decide, if_neg (show ¬ (20 : Int) = 13 by decide), if_neg (show ¬ (20 : Int) = 14 by decide), if_neg (show ¬ (20 : Int) = 15 by decide), if_neg (show ¬ (20 : Int) = 16 by decide), if_neg (show ¬ (20 : Int) = 17 by decide), if_neg (show ¬ (20 : Int) = 18 by decide), if_neg (show ¬ (20 : Int) = 19 by decide), if_pos (show (20 : Int) = 20 from rfl), if_neg (show ¬ (20 : Nat) = 13 by decide), if_neg (show ¬ (20 : Nat) = 14 by decide), if_neg (show ¬ (20 : Nat) = 15 by decide), if_neg (show ¬ (20 : Nat) = 16 by decide), if_neg (show ¬ (20 : Nat) = 17 by decide), if_neg (show ¬ (20 : Nat) = 18 by decide), if_neg (show ¬ (20 : Nat) = 19 by decide), if_pos (show (20 : Nat) = 20 from rfl), ob_ob]
  by_cases z21 : K = 21
  · subst z21
    rw [show (nI 21).toInt = 21 by decide, if_neg (show ¬ (21 : Int) = 13 by decide), if_neg (show ¬ (21 : Int) = 14 by decide), if_neg (show ¬ (21 : Int) = 15 by decide), if_neg (show ¬ (21 : Int) = 16 by decide), if_neg (show ¬ (21 : Int) = 17 by decide), if_neg (show ¬ (21 : Int) = 18 by decide), if_neg (show ¬ (21 : Int) = 19 by decide), if_neg (show ¬ (21 : Int) = 20 by decide), if_pos (show (21 : Int) = 21 from rfl), if_neg (show ¬ (21 : Nat) = 13 by decide), if_neg (show ¬ (21 : Nat) = 14 by decide), if_neg (show ¬ (21 : Nat) = 15 by decide), if_neg (show ¬ (21 : Nat) = 16 by decide), if_neg (show ¬ (21 : Nat) = 17 by decide), if_neg (show ¬ (21 : Nat) = 18 by decide), if_neg (show ¬ (21 : Nat) = 19 by decide), if_neg (show ¬ (21 : Nat) = 20 by decide), if_pos (show (21 : Nat) = 21 from rfl), ob_ob]
  by_cases z22 : K = 22
  · subst z22
    rw [show (nI 22).toInt = 22 by decide, if_neg (show ¬ (22 : Int) = 13 by decide), if_neg (show ¬ (22 : Int) = 14 by decide), if_neg (show ¬ (22 : Int) = 15 by decide), if_neg (show ¬ (22 : Int) = 16 by decide), if_neg (show ¬ (22 : Int) = 17 by decide), if_neg (show ¬ (22 : Int) = 18 by decide), if_neg (show ¬ (22 : Int) = 19 by decide), if_neg (show ¬ (22 : Int) = 20 by decide), if_neg (show ¬ (22 : Int) = 21 by decide), if_pos (show (22 : Int) = 22 from rfl), if_neg (show ¬ (22 : Nat) = 13 by decide), if_neg (show ¬ (22 : Nat) = 14 by decide), if_neg (show ¬ (22 : Nat) = 15 by decide), if_neg (show ¬ (22 : Nat) = 16 by decide), if_neg (show ¬ (22 : Nat) = 17 by decide), if_neg (show ¬ (22 : Nat) = 18 by decide), if_neg (show ¬ (22 : Nat) = 19 by decide), if_neg (show ¬ (22 : Nat) = 20 by decide), if_neg (show ¬ (22 : Nat) = 21 by decide), if_pos (show (22 : Nat) = 22 from rfl), ob_ob]
  by_cases z23 : K = 23
  · subst z23
    rw [show (nI 23).toInt = 23 by decide, if_neg (show ¬ (23 : Int) = 13 by decide), if_neg (show ¬ (23 : Int) = 14 by decide), if_neg (show ¬ (23 : Int) = 15 by decide), if_neg (show ¬ (23 : Int) = 16 by decide), if_neg (show ¬ (23 : Int) = 17 by decide), if_neg (show ¬ (23 : Int) = 18 by decide), if_neg (show ¬ (23 : Int) = 19 by decide), if_neg (show ¬ (23 : Int) = 20 by decide), if_neg (show ¬ (23 : Int) = 21 by decide), if_neg (show ¬ (23 : Int) = 22 by decide), if_pos (show (23 : Int) = 23 from rfl), if_neg (show ¬ (23 : Nat) = 13 by decide), if_neg (show ¬ (23 : Nat) = 14 by decide), if_neg (show ¬ (23 : Nat) = 15 by decide), if_neg (show ¬ (23 : Nat) = 16 by decide), if_neg (show ¬ (23 : Nat) = 17 by decide), if_neg (show ¬ (23 : Nat) = 18 by decide), if_neg (show ¬ (23 : Nat) = 19 by decide), if_neg (show ¬ (23 : Nat) = 20 by decide), if_neg (show ¬ (23 : Nat) = 21 by decide), if_neg (show ¬ (23 : Nat) = 22 by decide), if_pos (show (23 : Nat) = 23 from rfl), ob_ob]
  by_cases z24 : K = 24
  · subst z24
    rw [show (nI 24).toInt = 24 by decide, if_neg (show ¬ (24 : Int) = 13 by decide), if_neg (show ¬ (24 : Int) = 14 by decide), if_neg (show ¬ (24 : Int) = 15 by decide), if_neg (show ¬ (24 : Int) = 16 by decide), if_neg (show ¬ (24 : Int) = 17 by decide), if_neg (show ¬ (24 : Int) = 18 by decide), if_neg (show ¬ (24 : Int) = 19 by decide), if_neg (show ¬ (24 : Int) = 20 by decide), if_neg (show ¬ (24 : Int) = 21 by decide), if_neg (show ¬ (24 : Int) = 22 by decide), if_neg (show ¬ (24 : Int) = 23 by decide), if_pos (show (24 : Int) = 24 from rfl), if_neg (show ¬ (24 : Nat) = 13 by decide), if_neg (show ¬ (24 : Nat) = 14 by decide), if_neg (show ¬ (24 : Nat) = 15 by decide), if_neg (show ¬ (24 : Nat) = 16 by decide), if_neg (show ¬ (24 : Nat) = 17 by decide), if_neg (show ¬ (24 : Nat) = 18 by decide), if_neg (show ¬ (24 : Nat) = 19 by decide), if_neg (show ¬ (24 : Nat) = 20 by decide), if_neg (show ¬ (24 : Nat) = 21 by decide), if_neg (show ¬ (24 : Nat) = 22 by decide), if_neg (show ¬ (24 : Nat) = 23 by decide), if_pos (show (24 : Nat) = 24 from rfl), ob_ob]
  by_cases z25 : K = 25
  · subst z25
    rw [show (nI 25).toInt = 25 by decide, if_neg (show ¬ (25 : Int) = 13 by decide), if_neg (show ¬ (25 : Int) = 14 by decide), if_neg (show ¬ (25 : Int) = 15 by decide), if_neg (show ¬ (25 : Int) = 16 by decide), if_neg (show ¬ (25 : Int) = 17 by decide), if_neg (show ¬ (25 : Int) = 18 by decide), if_neg (show ¬ (25 : Int) = 19 by decide), if_neg (show ¬ (25 : Int) = 20 by decide), if_neg (show ¬ (25 : Int) = 21 by decide), if_neg (show ¬ (25 : Int) = 22 by decide), if_neg (show ¬ (25 : Int) = 23 by decide), if_neg (show ¬ (25 : Int) = 24 by decide), if_pos (show (25 : Int) = 25 from rfl), if_neg (show ¬ (25 : Nat) = 13 by decide), if_neg (show ¬ (25 : Nat) = 14 by decide), if_neg (show ¬ (25 : Nat) = 15 by decide), if_neg (show ¬ (25 : Nat) = 16 by decide), if_neg (show ¬ (25 : Nat) = 17 by decide), if_neg (show ¬ (25 : Nat) = 18 by decide), if_neg (show ¬ (25 : Nat) = 19 by decide), if_neg (show ¬ (25 : Nat) = 20 by decide), if_neg (show ¬ (25 : Nat) = 21 by decide), if_neg (show ¬ (25 : Nat) = 22 by decide), if_neg (show ¬ (25 : Nat) = 23 by decide), if_neg (show ¬ (25 : Nat) = 24 by decide), if_pos (show (25 : Nat) = 25 from rfl), ob_ob]
  have ti : (nI K).toInt = (K : Int) := nI_toInt (by omega)
  rw [ti, if_neg (show ¬ (K : Int) = 13 by omega), if_neg (show ¬ (K : Int) = 14 by omega), if_neg (show ¬ (K : Int) = 15 by omega), if_neg (show ¬ (K : Int) = 16 by omega), if_neg (show ¬ (K : Int) = 17 by omega), if_neg (show ¬ (K : Int) = 18 by omega), if_neg (show ¬ (K : Int) = 19 by omega), if_neg (show ¬ (K : Int) = 20 by omega), if_neg (show ¬ (K : Int) = 21 by omega), if_neg (show ¬ (K : Int) = 22 by omega), if_neg (show ¬ (K : Int) = 23 by omega), if_neg (show ¬ (K : Int) = 24 by omega), if_neg (show ¬ (K : Int) = 25 by omega), if_neg z13, if_neg z14, if_neg z15, if_neg z16, if_neg z17, if_neg z18, if_neg z19, if_neg z20, if_neg z21, if_neg z22, if_neg z23, if_neg z24, if_neg z25]
theorem isB_plain {n : Nat} {x : Int32} {σ : bS} : isB (ob (m_pass n σ) fun q12 => if q12.1 = 0 then m_tellOne_b123 n q12.2 else ob (m_lawTold n x q12.2) fun q13 => if q13.1 = 0 then m_tellOne_b123 n q13.2 else m_tellOne_b124 n ci_1 q13.2) := by
  unfold m_tellOne_b123 m_tellOne_b124
  repeat (first | exact isB_bz | apply isB_bin | (apply isB_ob; intro _) | apply isB_ite)
theorem m_stepO {s : tS} {n nx : Nat} {σ : bS} (hT : okT s) (h : MP s nx σ) : m_tellOne n σ = ob (stM n (tkd s nx) σ) fun q => bz q.1 q.2 := by
  have k36 := hT.1 nx
  have kin := mkK_in (tkd s nx)
  have v := h.1 nx h.2.2.2
  unfold m_tellOne
  rw [h.bin, h.kind]
  by_cases z : 13 ≤ tkd s nx
  · rw [if_pos (show nI (mkK (tkd s nx)) = ci_3 by rw [mkK_3.mpr z]; decide), h.bin, h.val, v.2.2.2.2.2 z]
    generalize hK : tkd s nx = K at *
    unfold stM m_tellOne_b26 m_tellOne_b125
    by_cases z13 : K = 13
    · subst z13
      rw [show nI (13 - 13) = nI 0 from rfl, if_pos (show nI 0 = 0 by decide), if_pos (show (13 : Nat) = 13 from rfl)]
    by_cases z14 : K = 14
    · subst z14
      rw [show nI (14 - 13) = nI 1 from rfl, if_neg (show ¬ nI 1 = 0 by decide), if_pos (show nI 1 = ci_1 by decide), if_neg (show ¬ (14 : Nat) = 13 by decide), if_pos (show (14 : Nat) = 14 from rfl)]
    by_cases z15 : K = 15
    · subst z15
      rw [show nI (15 - 13) = nI 2 from rfl, if_neg (show ¬ nI 2 = 0 by decide), if_neg (show ¬ nI 2 = ci_1 by decide), if_pos (show nI 2 = ci_2 by decide), if_neg (show ¬ (15 : Nat) = 13 by decide), if_neg (show ¬ (15 : Nat) = 14 by decide), if_pos (show (15 : Nat) = 15 from rfl)]
    by_cases z16 : K = 16
    · subst z16
      rw [show nI (16 - 13) = nI 3 from rfl, if_neg (show ¬ nI 3 = 0 by decide), if_neg (show ¬ nI 3 = ci_1 by decide), if_neg (show ¬ nI 3 = ci_2 by decide), if_pos (show nI 3 = ci_3 by decide), if_neg (show ¬ (16 : Nat) = 13 by decide), if_neg (show ¬ (16 : Nat) = 14 by decide), if_neg (show ¬ (16 : Nat) = 15 by decide), if_pos (show (16 : Nat) = 16 from rfl)]
    by_cases z17 : K = 17
    · subst z17
      rw [show nI (17 - 13) = nI 4 from rfl, if_neg (show ¬ nI 4 = 0 by decide), if_neg (show ¬ nI 4 = ci_1 by decide), if_neg (show ¬ nI 4 = ci_2 by decide), if_neg (show ¬ nI 4 = ci_3 by decide), if_pos (show nI 4 = ci_4 by decide), if_neg (show ¬ (17 : Nat) = 13 by decide), if_neg (show ¬ (17 : Nat) = 14 by decide), if_neg (show ¬ (17 : Nat) = 15 by decide), if_neg (show ¬ (17 : Nat) = 16 by decide), if_pos (show (17 : Nat) = 17 from rfl)]
    by_cases z18 : K = 18
    · subst z18
      rw [show nI (18 - 13) = nI 5 from rfl, if_neg (show ¬ nI 5 = 0 by decide), if_neg (show ¬ nI 5 = ci_1 by decide), if_neg (show ¬ nI 5 = ci_2 by decide), if_neg (show ¬ nI 5 = ci_3 by decide), if_neg (show ¬ nI 5 = ci_4 by decide), if_pos (show nI 5 = ci_5 by decide), if_neg (show ¬ (18 : Nat) = 13 by decide), if_neg (show ¬ (18 : Nat) = 14 by decide), if_neg (show ¬ (18 : Nat) = 15 by decide), if_neg (show ¬ (18 : Nat) = 16 by decide), if_neg (show ¬ (18 : Nat) = 17 by decide), if_pos (show (18 : Nat) = 18 from rfl)]
    by_cases z19 : K = 19
    · subst z19
      rw [show nI (19 - 13) = nI 6 from rfl, if_neg (show ¬ nI 6 = 0 by decide), if_neg (show ¬ nI 6 = ci_1 by decide), if_neg (show ¬ nI 6 = ci_2 by decide), if_neg (show ¬ nI 6 = ci_3 by decide), if_neg (show ¬ nI 6 = ci_4 by decide), if_neg (show ¬ nI 6 = ci_5 by decide), if_neg (show ¬ nI 6 ≤ ci_5 by decide), if_neg (show ¬ cb_9 ≤ nI 6 by decide), if_neg (show ¬ (19 : Nat) = 13 by decide), if_neg (show ¬ (19 : Nat) = 14 by decide), if_neg (show ¬ (19 : Nat) = 15 by decide), if_neg (show ¬ (19 : Nat) = 16 by decide), if_neg (show ¬ (19 : Nat) = 17 by decide), if_neg (show ¬ (19 : Nat) = 18 by decide), if_pos (show (19 : Nat) = 19 from rfl)]
      rw [show nI 6 + ci_5 = nI 11 by decide]
      exact (isB_id isB_plain).symm
    by_cases z20 : K = 20
    · subst z20
      rw [show nI (20 - 13) = nI 7 from rfl, if_neg (show ¬ nI 7 = 0 by decide), if_neg (show ¬ nI 7 = ci_1 by decide), if_neg (show ¬ nI 7 = ci_2 by decide), if_neg (show ¬ nI 7 = ci_3 by decide), if_neg (show ¬ nI 7 = ci_4 by decide), if_neg (show ¬ nI 7 = ci_5 by decide), if_neg (show ¬ nI 7 ≤ ci_5 by decide), if_neg (show ¬ cb_9 ≤ nI 7 by decide), if_neg (show ¬ (20 : Nat) = 13 by decide), if_neg (show ¬ (20 : Nat) = 14 by decide), if_neg (show ¬ (20 : Nat) = 15 by decide), if_neg (show ¬ (20 : Nat) = 16 by decide), if_neg (show ¬ (20 : Nat) = 17 by decide), if_neg (show ¬ (20 : Nat) = 18 by decide), if_neg (show ¬ (20 : Nat) = 19 by decide), if_pos (show (20 : Nat) = 20 from rfl)]
      rw [show nI 7 + ci_5 = nI 12 by decide]
      exact (isB_id isB_plain).symm
    by_cases z21 : K = 21
    · subst z21
      rw [show nI (21 - 13) = nI 8 from rfl, if_neg (show ¬ nI 8 = 0 by decide), if_neg (show ¬ nI 8 = ci_1 by decide), if_neg (show ¬ nI 8 = ci_2 by decide), if_neg (show ¬ nI 8 = ci_3 by decide), if_neg (show ¬ nI 8 = ci_4 by decide), if_neg (show ¬ nI 8 = ci_5 by decide), if_neg (show ¬ nI 8 ≤ ci_5 by decide), if_neg (show ¬ cb_9 ≤ nI 8 by decide), if_neg (show ¬ (21 : Nat) = 13 by decide), if_neg (show ¬ (21 : Nat) = 14 by decide), if_neg (show ¬ (21 : Nat) = 15 by decide), if_neg (show ¬ (21 : Nat) = 16 by decide), if_neg (show ¬ (21 : Nat) = 17 by decide), if_neg (show ¬ (21 : Nat) = 18 by decide), if_neg (show ¬ (21 : Nat) = 19 by decide), if_neg (show ¬ (21 : Nat) = 20 by decide), if_pos (show (21 : Nat) = 21 from rfl)]
      rw [show nI 8 + ci_5 = nI 13 by decide]
      exact (isB_id isB_plain).symm
    by_cases z22 : K = 22
    · subst z22
      rw [show nI (22 - 13) = nI 9 from rfl, if_neg (show ¬ nI 9 = 0 by decide), if_neg (show ¬ nI 9 = ci_1 by decide), if_neg (show ¬ nI 9 = ci_2 by decide), if_neg (show ¬ nI 9 = ci_3 by decide), if_neg (show ¬ nI 9 = ci_4 by decide), if_neg (show ¬ nI 9 = ci_5 by decide), if_neg (show ¬ nI 9 ≤ ci_5 by decide), if_pos (show cb_9 ≤ nI 9 by decide), if_pos (show nI 9 = cb_9 by decide), if_neg (show ¬ (22 : Nat) = 13 by decide), if_neg (show ¬ (22 : Nat) = 14 by decide), if_neg (show ¬ (22 : Nat) = 15 by decide), if_neg (show ¬ (22 : Nat) = 16 by decide), if_neg (show ¬ (22 : Nat) = 17 by decide), if_neg (show ¬ (22 : Nat) = 18 by decide), if_neg (show ¬ (22 : Nat) = 19 by decide), if_neg (show ¬ (22 : Nat) = 20 by decide), if_neg (show ¬ (22 : Nat) = 21 by decide), if_pos (show (22 : Nat) = 22 from rfl)]
    by_cases z23 : K = 23
    · subst z23
      rw [show nI (23 - 13) = nI 10 from rfl, if_neg (show ¬ nI 10 = 0 by decide), if_neg (show ¬ nI 10 = ci_1 by decide), if_neg (show ¬ nI 10 = ci_2 by decide), if_neg (show ¬ nI 10 = ci_3 by decide), if_neg (show ¬ nI 10 = ci_4 by decide), if_neg (show ¬ nI 10 = ci_5 by decide), if_neg (show ¬ nI 10 ≤ ci_5 by decide), if_pos (show cb_9 ≤ nI 10 by decide), if_neg (show ¬ nI 10 = cb_9 by decide), if_pos (show nI 10 = cb_10 by decide), if_neg (show ¬ (23 : Nat) = 13 by decide), if_neg (show ¬ (23 : Nat) = 14 by decide), if_neg (show ¬ (23 : Nat) = 15 by decide), if_neg (show ¬ (23 : Nat) = 16 by decide), if_neg (show ¬ (23 : Nat) = 17 by decide), if_neg (show ¬ (23 : Nat) = 18 by decide), if_neg (show ¬ (23 : Nat) = 19 by decide), if_neg (show ¬ (23 : Nat) = 20 by decide), if_neg (show ¬ (23 : Nat) = 21 by decide), if_neg (show ¬ (23 : Nat) = 22 by decide), if_pos (show (23 : Nat) = 23 from rfl)]
    by_cases z24 : K = 24
    · subst z24
      rw [show nI (24 - 13) = nI 11 from rfl, if_neg (show ¬ nI 11 = 0 by decide), if_neg (show ¬ nI 11 = ci_1 by decide), if_neg (show ¬ nI 11 = ci_2 by decide), if_neg (show ¬ nI 11 = ci_3 by decide), if_neg (show ¬ nI 11 = ci_4 by decide), if_neg (show ¬ nI 11 = ci_5 by decide), if_neg (show ¬ nI 11 ≤ ci_5 by decide), if_pos (show cb_9 ≤ nI 11 by decide), if_neg (show ¬ nI 11 = cb_9 by decide), if_neg (show ¬ nI 11 = cb_10 by decide), if_pos (show nI 11 = cb_11 by decide), if_neg (show ¬ (24 : Nat) = 13 by decide), if_neg (show ¬ (24 : Nat) = 14 by decide), if_neg (show ¬ (24 : Nat) = 15 by decide), if_neg (show ¬ (24 : Nat) = 16 by decide), if_neg (show ¬ (24 : Nat) = 17 by decide), if_neg (show ¬ (24 : Nat) = 18 by decide), if_neg (show ¬ (24 : Nat) = 19 by decide), if_neg (show ¬ (24 : Nat) = 20 by decide), if_neg (show ¬ (24 : Nat) = 21 by decide), if_neg (show ¬ (24 : Nat) = 22 by decide), if_neg (show ¬ (24 : Nat) = 23 by decide), if_pos (show (24 : Nat) = 24 from rfl)]
    by_cases z25 : K = 25
    · subst z25
      rw [show nI (25 - 13) = nI 12 from rfl, if_neg (show ¬ nI 12 = 0 by decide), if_neg (show ¬ nI 12 = ci_1 by decide), if_neg (show ¬ nI 12 = ci_2 by decide), if_neg (show ¬ nI 12 = ci_3 by decide), if_neg (show ¬ nI 12 = ci_4 by decide), if_neg (show ¬ nI 12 = ci_5 by decide), if_neg (show ¬ nI 12 ≤ ci_5 by decide), if_pos (show cb_9 ≤ nI 12 by decide), if_neg (show ¬ nI 12 = cb_9 by decide), if_neg (show ¬ nI 12 = cb_10 by decide), if_neg (show ¬ nI 12 = cb_11 by decide), if_pos (show nI 12 = cb_12 by decide), if_neg (show ¬ (25 : Nat) = 13 by decide), if_neg (show ¬ (25 : Nat) = 14 by decide), if_neg (show ¬ (25 : Nat) = 15 by decide), if_neg (show ¬ (25 : Nat) = 16 by decide), if_neg (show ¬ (25 : Nat) = 17 by decide), if_neg (show ¬ (25 : Nat) = 18 by decide), if_neg (show ¬ (25 : Nat) = 19 by decide), if_neg (show ¬ (25 : Nat) = 20 by decide), if_neg (show ¬ (25 : Nat) = 21 by decide), if_neg (show ¬ (25 : Nat) = 22 by decide), if_neg (show ¬ (25 : Nat) = 23 by decide), if_neg (show ¬ (25 : Nat) = 24 by decide), if_pos (show (25 : Nat) = 25 from rfl)]
      rfl
    rw [if_neg (show ¬ nI (K - 13) = (0 : Int32) from fun u => by have := nI_inj (by omega) (by decide) (u.trans (show (0 : Int32) = nI 0 by decide)); omega), if_neg (show ¬ nI (K - 13) = ci_1 from fun u => by have := nI_inj (by omega) (by decide) (u.trans (show ci_1 = nI 1 by decide)); omega), if_neg (show ¬ nI (K - 13) = ci_2 from fun u => by have := nI_inj (by omega) (by decide) (u.trans (show ci_2 = nI 2 by decide)); omega), if_neg (show ¬ nI (K - 13) = ci_3 from fun u => by have := nI_inj (by omega) (by decide) (u.trans (show ci_3 = nI 3 by decide)); omega), if_neg (show ¬ nI (K - 13) = ci_4 from fun u => by have := nI_inj (by omega) (by decide) (u.trans (show ci_4 = nI 4 by decide)); omega), if_neg (show ¬ nI (K - 13) = ci_5 from fun u => by have := nI_inj (by omega) (by decide) (u.trans (show ci_5 = nI 5 by decide)); omega), if_neg (show ¬ nI (K - 13) ≤ ci_5 from fun u => by rw [ci_5_n] at u; have := (nI_leI (by omega) (by omega)).mp u; omega), if_pos (show cb_9 ≤ nI (K - 13) by rw [cb_9_n]; exact (nI_leI (by omega) (by omega)).mpr (by omega)), if_neg (show ¬ nI (K - 13) = cb_9 from fun u => by have := nI_inj (by omega) (by decide) (u.trans (show cb_9 = nI 9 by decide)); omega), if_neg (show ¬ nI (K - 13) = cb_10 from fun u => by have := nI_inj (by omega) (by decide) (u.trans (show cb_10 = nI 10 by decide)); omega), if_neg (show ¬ nI (K - 13) = cb_11 from fun u => by have := nI_inj (by omega) (by decide) (u.trans (show cb_11 = nI 11 by decide)); omega), if_neg (show ¬ nI (K - 13) = cb_12 from fun u => by have := nI_inj (by omega) (by decide) (u.trans (show cb_12 = nI 12 by decide)); omega), if_neg z13, if_neg z14, if_neg z15, if_neg z16, if_neg z17, if_neg z18, if_neg z19, if_neg z20, if_neg z21, if_neg z22, if_neg z23, if_neg z24, if_neg z25]
    rfl
  · rw [if_neg (show ¬ nI (mkK (tkd s nx)) = ci_3 from fun u => z (mkK_3.mp (nI_inj (by omega) (by decide) (u.trans ci_3_n))))]
    generalize hK : tkd s nx = K at *
    unfold stM m_tellOne_b26 m_tellOne_b125
    rw [if_neg (show ¬ ci_m1 = 0 by decide), if_neg (show ¬ ci_m1 = ci_1 by decide), if_neg (show ¬ ci_m1 = ci_2 by decide), if_neg (show ¬ ci_m1 = ci_3 by decide), if_neg (show ¬ ci_m1 = ci_4 by decide), if_neg (show ¬ ci_m1 = ci_5 by decide), if_pos (show ci_m1 ≤ ci_5 by decide), if_neg (show ¬ ci_m1 = cb_9 by decide), if_neg (show ¬ ci_m1 = cb_10 by decide), if_neg (show ¬ ci_m1 = cb_11 by decide), if_neg (show ¬ ci_m1 = cb_12 by decide), if_neg (show ¬ K = 13 by omega), if_neg (show ¬ K = 14 by omega), if_neg (show ¬ K = 15 by omega), if_neg (show ¬ K = 16 by omega), if_neg (show ¬ K = 17 by omega), if_neg (show ¬ K = 18 by omega), if_neg (show ¬ K = 19 by omega), if_neg (show ¬ K = 20 by omega), if_neg (show ¬ K = 21 by omega), if_neg (show ¬ K = 22 by omega), if_neg (show ¬ K = 23 by omega), if_neg (show ¬ K = 24 by omega), if_neg (show ¬ K = 25 by omega)]
    rfl
theorem isB_stM {n K : Nat} {s : tS} {nx : Nat} {σ : bS} (h : MP s nx σ) : isB (stM n K σ) := by
  unfold stM
  refine isB_ite isB_m_tellBank ?_
  refine isB_ite isB_m_tellPath ?_
  refine isB_ite isB_m_tellBridge ?_
  refine isB_ite isB_m_tellMan ?_
  refine isB_ite isB_m_tellLawOf ?_
  refine isB_ite isB_m_tellLawOf ?_
  refine isB_ite isB_plain ?_
  refine isB_ite isB_plain ?_
  refine isB_ite isB_plain ?_
  refine isB_ite isB_m_tellRest ?_
  refine isB_ite isB_m_tellRest ?_
  refine isB_ite isB_m_tellRest ?_
  refine isB_ite isB_m_tellRest ?_
  obtain ⟨σ', e, -⟩ := m_wrong_eq (n := n) (x := ci_1) (f := 1) (by decide) h
  intro v σ2 e2
  rw [e] at e2
  have e2 := congrArg Prod.fst (Option.some.inj e2)
  exact Or.inl e2.symm
theorem st_any {s : tS} {n nx B P G M a m : Nat} {U : Option (Nat × Nat)} {N : nmS} {σC σM : bS} (hn : 500 ≤ n) (hT : okT s) (h : PR s nx U N B P G M a m σC σM) : StO n s nx (stC n (tkd s nx) σC) (m_tellOne n σM) σC σM := by
  rw [m_stepO hT h.1.1.2, isB_id (isB_stM h.1.1.2)]
  have k36 := hT.1 nx
  generalize hK : tkd s nx = K at *
  unfold stC stM
  by_cases z13 : K = 13
  · subst z13
    rw [if_pos (show (13 : Nat) = 13 from rfl), if_pos (show (13 : Nat) = 13 from rfl)]
    exact st_bank hn hT h hK
  by_cases z14 : K = 14
  · subst z14
    rw [if_neg (show ¬ (14 : Nat) = 13 by decide), if_pos (show (14 : Nat) = 14 from rfl), if_neg (show ¬ (14 : Nat) = 13 by decide), if_pos (show (14 : Nat) = 14 from rfl)]
    exact st_path hn hT h hK
  by_cases z15 : K = 15
  · subst z15
    rw [if_neg (show ¬ (15 : Nat) = 13 by decide), if_neg (show ¬ (15 : Nat) = 14 by decide), if_pos (show (15 : Nat) = 15 from rfl), if_neg (show ¬ (15 : Nat) = 13 by decide), if_neg (show ¬ (15 : Nat) = 14 by decide), if_pos (show (15 : Nat) = 15 from rfl)]
    exact st_bridge hn hT h hK
  by_cases z16 : K = 16
  · subst z16
    rw [if_neg (show ¬ (16 : Nat) = 13 by decide), if_neg (show ¬ (16 : Nat) = 14 by decide), if_neg (show ¬ (16 : Nat) = 15 by decide), if_pos (show (16 : Nat) = 16 from rfl), if_neg (show ¬ (16 : Nat) = 13 by decide), if_neg (show ¬ (16 : Nat) = 14 by decide), if_neg (show ¬ (16 : Nat) = 15 by decide), if_pos (show (16 : Nat) = 16 from rfl)]
    exact st_man hn hT h hK
  by_cases z17 : K = 17
  · subst z17
    rw [if_neg (show ¬ (17 : Nat) = 13 by decide), if_neg (show ¬ (17 : Nat) = 14 by decide), if_neg (show ¬ (17 : Nat) = 15 by decide), if_neg (show ¬ (17 : Nat) = 16 by decide), if_pos (show (17 : Nat) = 17 from rfl), if_neg (show ¬ (17 : Nat) = 13 by decide), if_neg (show ¬ (17 : Nat) = 14 by decide), if_neg (show ¬ (17 : Nat) = 15 by decide), if_neg (show ¬ (17 : Nat) = 16 by decide), if_pos (show (17 : Nat) = 17 from rfl)]
    exact st_named21 hn hT h hK (by decide)
  by_cases z18 : K = 18
  · subst z18
    rw [if_neg (show ¬ (18 : Nat) = 13 by decide), if_neg (show ¬ (18 : Nat) = 14 by decide), if_neg (show ¬ (18 : Nat) = 15 by decide), if_neg (show ¬ (18 : Nat) = 16 by decide), if_neg (show ¬ (18 : Nat) = 17 by decide), if_pos (show (18 : Nat) = 18 from rfl), if_neg (show ¬ (18 : Nat) = 13 by decide), if_neg (show ¬ (18 : Nat) = 14 by decide), if_neg (show ¬ (18 : Nat) = 15 by decide), if_neg (show ¬ (18 : Nat) = 16 by decide), if_neg (show ¬ (18 : Nat) = 17 by decide), if_pos (show (18 : Nat) = 18 from rfl)]
    exact st_named22 hn hT h hK (by decide)
  by_cases z19 : K = 19
  · subst z19
    rw [if_neg (show ¬ (19 : Nat) = 13 by decide), if_neg (show ¬ (19 : Nat) = 14 by decide), if_neg (show ¬ (19 : Nat) = 15 by decide), if_neg (show ¬ (19 : Nat) = 16 by decide), if_neg (show ¬ (19 : Nat) = 17 by decide), if_neg (show ¬ (19 : Nat) = 18 by decide), if_pos (show (19 : Nat) = 19 from rfl), if_neg (show ¬ (19 : Nat) = 13 by decide), if_neg (show ¬ (19 : Nat) = 14 by decide), if_neg (show ¬ (19 : Nat) = 15 by decide), if_neg (show ¬ (19 : Nat) = 16 by decide), if_neg (show ¬ (19 : Nat) = 17 by decide), if_neg (show ¬ (19 : Nat) = 18 by decide), if_pos (show (19 : Nat) = 19 from rfl)]
    exact st_plain (j := 0) hn hT h hK (by omega) (by decide) _ rfl
  by_cases z20 : K = 20
  · subst z20
    rw [if_neg (show ¬ (20 : Nat) = 13 by decide), if_neg (show ¬ (20 : Nat) = 14 by decide), if_neg (show ¬ (20 : Nat) = 15 by decide), if_neg (show ¬ (20 : Nat) = 16 by decide), if_neg (show ¬ (20 : Nat) = 17 by decide), if_neg (show ¬ (20 : Nat) = 18 by decide), if_neg (show ¬ (20 : Nat) = 19 by decide), if_pos (show (20 : Nat) = 20 from rfl), if_neg (show ¬ (20 : Nat) = 13 by decide), if_neg (show ¬ (20 : Nat) = 14 by decide), if_neg (show ¬ (20 : Nat) = 15 by decide), if_neg (show ¬ (20 : Nat) = 16 by decide), if_neg (show ¬ (20 : Nat) = 17 by decide), if_neg (show ¬ (20 : Nat) = 18 by decide), if_neg (show ¬ (20 : Nat) = 19 by decide), if_pos (show (20 : Nat) = 20 from rfl)]
    exact st_plain (j := 1) hn hT h hK (by omega) (by decide) _ rfl
  by_cases z21 : K = 21
  · subst z21
    rw [if_neg (show ¬ (21 : Nat) = 13 by decide), if_neg (show ¬ (21 : Nat) = 14 by decide), if_neg (show ¬ (21 : Nat) = 15 by decide), if_neg (show ¬ (21 : Nat) = 16 by decide), if_neg (show ¬ (21 : Nat) = 17 by decide), if_neg (show ¬ (21 : Nat) = 18 by decide), if_neg (show ¬ (21 : Nat) = 19 by decide), if_neg (show ¬ (21 : Nat) = 20 by decide), if_pos (show (21 : Nat) = 21 from rfl), if_neg (show ¬ (21 : Nat) = 13 by decide), if_neg (show ¬ (21 : Nat) = 14 by decide), if_neg (show ¬ (21 : Nat) = 15 by decide), if_neg (show ¬ (21 : Nat) = 16 by decide), if_neg (show ¬ (21 : Nat) = 17 by decide), if_neg (show ¬ (21 : Nat) = 18 by decide), if_neg (show ¬ (21 : Nat) = 19 by decide), if_neg (show ¬ (21 : Nat) = 20 by decide), if_pos (show (21 : Nat) = 21 from rfl)]
    exact st_plain (j := 2) hn hT h hK (by omega) (by decide) _ rfl
  by_cases z22 : K = 22
  · subst z22
    rw [if_neg (show ¬ (22 : Nat) = 13 by decide), if_neg (show ¬ (22 : Nat) = 14 by decide), if_neg (show ¬ (22 : Nat) = 15 by decide), if_neg (show ¬ (22 : Nat) = 16 by decide), if_neg (show ¬ (22 : Nat) = 17 by decide), if_neg (show ¬ (22 : Nat) = 18 by decide), if_neg (show ¬ (22 : Nat) = 19 by decide), if_neg (show ¬ (22 : Nat) = 20 by decide), if_neg (show ¬ (22 : Nat) = 21 by decide), if_pos (show (22 : Nat) = 22 from rfl), if_neg (show ¬ (22 : Nat) = 13 by decide), if_neg (show ¬ (22 : Nat) = 14 by decide), if_neg (show ¬ (22 : Nat) = 15 by decide), if_neg (show ¬ (22 : Nat) = 16 by decide), if_neg (show ¬ (22 : Nat) = 17 by decide), if_neg (show ¬ (22 : Nat) = 18 by decide), if_neg (show ¬ (22 : Nat) = 19 by decide), if_neg (show ¬ (22 : Nat) = 20 by decide), if_neg (show ¬ (22 : Nat) = 21 by decide), if_pos (show (22 : Nat) = 22 from rfl)]
    exact st_rest (j := 0) (hi := 23) hT h hK (by omega) (by decide) (by decide) (by decide)
  by_cases z23 : K = 23
  · subst z23
    rw [if_neg (show ¬ (23 : Nat) = 13 by decide), if_neg (show ¬ (23 : Nat) = 14 by decide), if_neg (show ¬ (23 : Nat) = 15 by decide), if_neg (show ¬ (23 : Nat) = 16 by decide), if_neg (show ¬ (23 : Nat) = 17 by decide), if_neg (show ¬ (23 : Nat) = 18 by decide), if_neg (show ¬ (23 : Nat) = 19 by decide), if_neg (show ¬ (23 : Nat) = 20 by decide), if_neg (show ¬ (23 : Nat) = 21 by decide), if_neg (show ¬ (23 : Nat) = 22 by decide), if_pos (show (23 : Nat) = 23 from rfl), if_neg (show ¬ (23 : Nat) = 13 by decide), if_neg (show ¬ (23 : Nat) = 14 by decide), if_neg (show ¬ (23 : Nat) = 15 by decide), if_neg (show ¬ (23 : Nat) = 16 by decide), if_neg (show ¬ (23 : Nat) = 17 by decide), if_neg (show ¬ (23 : Nat) = 18 by decide), if_neg (show ¬ (23 : Nat) = 19 by decide), if_neg (show ¬ (23 : Nat) = 20 by decide), if_neg (show ¬ (23 : Nat) = 21 by decide), if_neg (show ¬ (23 : Nat) = 22 by decide), if_pos (show (23 : Nat) = 23 from rfl)]
    exact st_rest (j := 1) (hi := 100) hT h hK (by omega) (by decide) (by decide) (by decide)
  by_cases z24 : K = 24
  · subst z24
    rw [if_neg (show ¬ (24 : Nat) = 13 by decide), if_neg (show ¬ (24 : Nat) = 14 by decide), if_neg (show ¬ (24 : Nat) = 15 by decide), if_neg (show ¬ (24 : Nat) = 16 by decide), if_neg (show ¬ (24 : Nat) = 17 by decide), if_neg (show ¬ (24 : Nat) = 18 by decide), if_neg (show ¬ (24 : Nat) = 19 by decide), if_neg (show ¬ (24 : Nat) = 20 by decide), if_neg (show ¬ (24 : Nat) = 21 by decide), if_neg (show ¬ (24 : Nat) = 22 by decide), if_neg (show ¬ (24 : Nat) = 23 by decide), if_pos (show (24 : Nat) = 24 from rfl), if_neg (show ¬ (24 : Nat) = 13 by decide), if_neg (show ¬ (24 : Nat) = 14 by decide), if_neg (show ¬ (24 : Nat) = 15 by decide), if_neg (show ¬ (24 : Nat) = 16 by decide), if_neg (show ¬ (24 : Nat) = 17 by decide), if_neg (show ¬ (24 : Nat) = 18 by decide), if_neg (show ¬ (24 : Nat) = 19 by decide), if_neg (show ¬ (24 : Nat) = 20 by decide), if_neg (show ¬ (24 : Nat) = 21 by decide), if_neg (show ¬ (24 : Nat) = 22 by decide), if_neg (show ¬ (24 : Nat) = 23 by decide), if_pos (show (24 : Nat) = 24 from rfl)]
    exact st_rest (j := 2) (hi := 99) hT h hK (by omega) (by decide) (by decide) (by decide)
  by_cases z25 : K = 25
  · subst z25
    rw [if_neg (show ¬ (25 : Nat) = 13 by decide), if_neg (show ¬ (25 : Nat) = 14 by decide), if_neg (show ¬ (25 : Nat) = 15 by decide), if_neg (show ¬ (25 : Nat) = 16 by decide), if_neg (show ¬ (25 : Nat) = 17 by decide), if_neg (show ¬ (25 : Nat) = 18 by decide), if_neg (show ¬ (25 : Nat) = 19 by decide), if_neg (show ¬ (25 : Nat) = 20 by decide), if_neg (show ¬ (25 : Nat) = 21 by decide), if_neg (show ¬ (25 : Nat) = 22 by decide), if_neg (show ¬ (25 : Nat) = 23 by decide), if_neg (show ¬ (25 : Nat) = 24 by decide), if_pos (show (25 : Nat) = 25 from rfl), if_neg (show ¬ (25 : Nat) = 13 by decide), if_neg (show ¬ (25 : Nat) = 14 by decide), if_neg (show ¬ (25 : Nat) = 15 by decide), if_neg (show ¬ (25 : Nat) = 16 by decide), if_neg (show ¬ (25 : Nat) = 17 by decide), if_neg (show ¬ (25 : Nat) = 18 by decide), if_neg (show ¬ (25 : Nat) = 19 by decide), if_neg (show ¬ (25 : Nat) = 20 by decide), if_neg (show ¬ (25 : Nat) = 21 by decide), if_neg (show ¬ (25 : Nat) = 22 by decide), if_neg (show ¬ (25 : Nat) = 23 by decide), if_neg (show ¬ (25 : Nat) = 24 by decide), if_pos (show (25 : Nat) = 25 from rfl)]
    exact st_rest (j := 3) (hi := 9999) hT h hK (by omega) (by decide) (by decide) (by decide)
  rw [if_neg z13, if_neg z14, if_neg z15, if_neg z16, if_neg z17, if_neg z18, if_neg z19, if_neg z20, if_neg z21, if_neg z22, if_neg z23, if_neg z24, if_neg z25, if_neg z13, if_neg z14, if_neg z15, if_neg z16, if_neg z17, if_neg z18, if_neg z19, if_neg z20, if_neg z21, if_neg z22, if_neg z23, if_neg z24, if_neg z25]
  obtain ⟨σ2, b1, b2, b3, b4⟩ := m_wrong_eq (n := n) (x := ci_1) (f := 1) (by decide) h.1.1.2
  have nx4 := h.1.1.1.1.2.2.1
  refine st_fail (c_failE (show ci_1 = nI 1 from rfl) h.1.1.1) b1 ⟨1, tpl s nx, CP.dead h.1.1.1 (Or.inl rfl) h.1.2.1.1 (by have := h.1.2.1.2.1; omega), b2, frQq.u44.trans frQq.u44, frJ.ofV (frV.ofE b3 b4)⟩
