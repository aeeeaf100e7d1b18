theorem k_m_typed_b2 (n d : Nat) (q : bS) : ∀ (k : Nat) (x1 : Int32) (x2 : Int32) (σ : bS), m_typed_b2 n k x1 x2 σ = some q → bfr MT (d + 0) M_X12_typed 2 [some (.ref 0), some (.int x1), some (.int x2)] [] [] (mkM σ) (none, mkM q) := by
  intro k
  induction k with
  | zero => intro x1 x2 σ h; exact bno h
  | succ k ih =>
    intro x1 x2 σ h
    refine bfr_br 3 (pc1 := 45) (L1 := [some (.ref 0), some (.int x1), some (.int x2)]) (J1 := []) (st1 := []) (w1 := mkM σ) (pc2 := 7) (L2 := [some (.ref 0), some (.int x1), some (.int x2)]) (J2 := []) (st2 := []) (w2 := mkM σ) (fun n => rfl) h (fun h => ?_) (fun h => ?_)
    · cases h
      exact bfr_ret 1 rfl
    · refine bfr_in 14 (pc1 := 29) (L1 := [some (.ref 0), some (.int x1), some (.int x2)]) (J1 := []) (st1 := []) (w1 := mkM (uA σ 1 (sI σ 0 0) ((x1 >>> (((24 : Int32) - ((8 : Int32) * x2)) &&& 31)) &&& (255 : Int32)))) (fun n => rfl) h (fun h => ?_)
      refine bfr_run 8 2 [some (.ref 0), some (.int x1), some (.int (x2 + (1 : Int32)))] [] [] (mkM (uI (uA σ 1 (sI σ 0 0) ((x1 >>> (((24 : Int32) - ((8 : Int32) * x2)) &&& 31)) &&& (255 : Int32))) 0 0 ((sI (uA σ 1 (sI σ 0 0) ((x1 >>> (((24 : Int32) - ((8 : Int32) * x2)) &&& 31)) &&& (255 : Int32))) 0 0) + (1 : Int32)))) (fun n => rfl) ?_
      exact ih _ _ _ h
theorem k_m_typed (n d : Nat) (q : bS) (x1 : Int32) (σ : bS) (h : m_typed n x1 σ = some q) : bfr MT (d + 0) M_X12_typed 0 [some (.ref 0), some (.int x1), none] [] [] (mkM σ) (none, mkM q) := by
  refine bfr_run 2 2 [some (.ref 0), some (.int x1), some (.int (0 : Int32))] [] [] (mkM σ) (fun n => rfl) ?_
  exact k_m_typed_b2 n d q _ _ _ _ h
theorem k_m_feed (n d : Nat) (q : (Int32 × bS)) (x1 : Int32) (x2 : Int32) (x3 : Int32) (x4 : Int32) (x5 : Int32) (σ : bS) (h : m_feed n x1 x2 x3 x4 x5 σ = some q) : bfr MT (d + 1) M_X12_feed 0 [some (.ref 0), some (.int x1), some (.int x2), some (.int x3), some (.int x4), some (.int x5)] [] [] (mkM σ) (some (.int q.1), mkM q.2) := by
  refine bfr_br 6 (pc1 := 15) (L1 := [some (.ref 0), some (.int x1), some (.int x2), some (.int x3), some (.int x4), some (.int x5)]) (J1 := []) (st1 := []) (w1 := mkM σ) (pc2 := 13) (L2 := [some (.ref 0), some (.int x1), some (.int x2), some (.int x3), some (.int x4), some (.int x5)]) (J2 := []) (st2 := []) (w2 := mkM σ) (fun n => rfl) h (fun h => ?_) (fun h => ?_)
  · refine bfr_call 3 (d1 := d + 0) (M1 := M_X12_typed) (L1 := [some (.ref 0), some (.int x1), none]) (J1 := []) (w1 := mkM σ) (pc2 := 20) (L2 := [some (.ref 0), some (.int x1), some (.int x2), some (.int x3), some (.int x4), some (.int x5)]) (J2 := []) (rest := []) (fun _ => none) (fun a => mkM a) (fun n => rfl) h (fun a ha => k_m_typed n (d + 0) _ _ _ ha) (fun q1 _ h => ?_)
    refine bfr_call 3 (d1 := d + 0) (M1 := M_X12_typed) (L1 := [some (.ref 0), some (.int x2), none]) (J1 := []) (w1 := mkM q1) (pc2 := 25) (L2 := [some (.ref 0), some (.int x1), some (.int x2), some (.int x3), some (.int x4), some (.int x5)]) (J2 := []) (rest := []) (fun _ => none) (fun a => mkM a) (fun n => rfl) h (fun a ha => k_m_typed n (d + 0) _ _ _ ha) (fun q2 _ h => ?_)
    refine bfr_call 3 (d1 := d + 0) (M1 := M_X12_typed) (L1 := [some (.ref 0), some (.int x3), none]) (J1 := []) (w1 := mkM q2) (pc2 := 30) (L2 := [some (.ref 0), some (.int x1), some (.int x2), some (.int x3), some (.int x4), some (.int x5)]) (J2 := []) (rest := []) (fun _ => none) (fun a => mkM a) (fun n => rfl) h (fun a ha => k_m_typed n (d + 0) _ _ _ ha) (fun q3 _ h => ?_)
    refine bfr_call 3 (d1 := d + 0) (M1 := M_X12_typed) (L1 := [some (.ref 0), some (.int x4), none]) (J1 := []) (w1 := mkM q3) (pc2 := 36) (L2 := [some (.ref 0), some (.int x1), some (.int x2), some (.int x3), some (.int x4), some (.int x5)]) (J2 := []) (rest := []) (fun _ => none) (fun a => mkM a) (fun n => rfl) h (fun a ha => k_m_typed n (d + 0) _ _ _ ha) (fun q4 _ h => ?_)
    refine bfr_call 3 (d1 := d + 0) (M1 := M_X12_typed) (L1 := [some (.ref 0), some (.int x5), none]) (J1 := []) (w1 := mkM q4) (pc2 := 42) (L2 := [some (.ref 0), some (.int x1), some (.int x2), some (.int x3), some (.int x4), some (.int x5)]) (J2 := []) (rest := []) (fun _ => none) (fun a => mkM a) (fun n => rfl) h (fun a ha => k_m_typed n (d + 0) _ _ _ ha) (fun q5 _ h => ?_)
    cases h
    exact bfr_ret 3 rfl
  · cases h
    exact bfr_ret 2 rfl
theorem k_m_isIn_b15 (n d : Nat) (q : (Int32 × bS)) (s0 : Int32) (o0 : Option Value) (o1 : Option Value) (o2 : Option Value) (σ : bS) (h : m_isIn_b15 n s0 σ = some q) : bfr MT (d + 0) M_X12_isIn 15 [o0, o1, o2] [] [(.int s0)] (mkM σ) (some (.int q.1), mkM q.2) := by
  exact bfr_bz (mk := mkM) 1 rfl h
theorem k_m_isIn_b14 (n d : Nat) (q : (Int32 × bS)) (o0 : Option Value) (o1 : Option Value) (o2 : Option Value) (σ : bS) (h : m_isIn_b14 n σ = some q) : bfr MT (d + 0) M_X12_isIn 14 [o0, o1, o2] [] [] (mkM σ) (some (.int q.1), mkM q.2) := by
  refine bfr_run 1 15 [o0, o1, o2] [] [(.int (0 : Int32))] (mkM σ) (fun n => rfl) ?_
  exact k_m_isIn_b15 n d q _ _ _ _ _ h
theorem k_m_isIn (n d : Nat) (q : (Int32 × bS)) (x0 : Int32) (x1 : Int32) (x2 : Int32) (σ : bS) (h : m_isIn n x0 x1 x2 σ = some q) : bfr MT (d + 0) M_X12_isIn 0 [some (.int x0), some (.int x1), some (.int x2)] [] [] (mkM σ) (some (.int q.1), mkM q.2) := by
  refine bfr_br 3 (pc1 := 14) (L1 := [some (.int x0), some (.int x1), some (.int x2)]) (J1 := []) (st1 := []) (w1 := mkM σ) (pc2 := 5) (L2 := [some (.int x0), some (.int x1), some (.int x2)]) (J2 := []) (st2 := []) (w2 := mkM σ) (fun n => rfl) h (fun h => ?_) (fun h => ?_)
  · exact k_m_isIn_b14 n d q _ _ _ _ h
  · refine bfr_br 3 (pc1 := 14) (L1 := [some (.int x0), some (.int x1), some (.int x2)]) (J1 := []) (st1 := []) (w1 := mkM σ) (pc2 := 10) (L2 := [some (.int x0), some (.int x1), some (.int x2)]) (J2 := []) (st2 := []) (w2 := mkM σ) (fun n => rfl) h (fun h => ?_) (fun h => ?_)
    · exact k_m_isIn_b14 n d q _ _ _ _ h
    · refine bfr_run 2 15 [some (.int x0), some (.int x1), some (.int x2)] [] [(.int (1 : Int32))] (mkM σ) (fun n => rfl) ?_
      exact k_m_isIn_b15 n d q _ _ _ _ _ h
theorem k_m_within_b19 (n d : Nat) (q : (Int32 × bS)) (s0 : Int32) (o0 : Option Value) (o1 : Option Value) (o2 : Option Value) (σ : bS) (h : m_within_b19 n s0 σ = some q) : bfr MT (d + 0) M_X12_within 19 [o0, o1, o2] [] [(.int s0)] (mkM σ) (some (.int q.1), mkM q.2) := by
  cases h
  exact bfr_ret 1 rfl
theorem k_m_within (n d : Nat) (q : (Int32 × bS)) (x0 : Int32) (x1 : Int32) (x2 : Int32) (σ : bS) (h : m_within n x0 x1 x2 σ = some q) : bfr MT (d + 0) M_X12_within 0 [some (.int x0), some (.int x1), some (.int x2)] [] [] (mkM σ) (some (.int q.1), mkM q.2) := by
  refine bfr_br 3 (pc1 := 9) (L1 := [some (.int x0), some (.int x1), some (.int x2)]) (J1 := []) (st1 := []) (w1 := mkM σ) (pc2 := 5) (L2 := [some (.int x0), some (.int x1), some (.int x2)]) (J2 := []) (st2 := []) (w2 := mkM σ) (fun n => rfl) h (fun h => ?_) (fun h => ?_)
  · refine bfr_br 3 (pc1 := 18) (L1 := [some (.int x0), some (.int x1), some (.int x2)]) (J1 := []) (st1 := []) (w1 := mkM σ) (pc2 := 14) (L2 := [some (.int x0), some (.int x1), some (.int x2)]) (J2 := []) (st2 := []) (w2 := mkM σ) (fun n => rfl) h (fun h => ?_) (fun h => ?_)
    · refine bfr_run 1 19 [some (.int x0), some (.int x1), some (.int x2)] [] [(.int x0)] (mkM σ) (fun n => rfl) ?_
      exact k_m_within_b19 n d q _ _ _ _ _ h
    · refine bfr_run 2 19 [some (.int x0), some (.int x1), some (.int x2)] [] [(.int x2)] (mkM σ) (fun n => rfl) ?_
      exact k_m_within_b19 n d q _ _ _ _ _ h
  · refine bfr_run 2 19 [some (.int x0), some (.int x1), some (.int x2)] [] [(.int x1)] (mkM σ) (fun n => rfl) ?_
    exact k_m_within_b19 n d q _ _ _ _ _ h
theorem k_m_isBank_b19 (n d : Nat) (q : (Int32 × bS)) (s0 : Int32) (o0 : Option Value) (o1 : Option Value) (σ : bS) (h : m_isBank_b19 n s0 σ = some q) : bfr MT (d + 0) M_X12_isBank 19 [o0, o1] [] [(.int s0)] (mkM σ) (some (.int q.1), mkM q.2) := by
  exact bfr_bz (mk := mkM) 1 rfl h
theorem k_m_isBank_b18 (n d : Nat) (q : (Int32 × bS)) (o0 : Option Value) (o1 : Option Value) (σ : bS) (h : m_isBank_b18 n σ = some q) : bfr MT (d + 0) M_X12_isBank 18 [o0, o1] [] [] (mkM σ) (some (.int q.1), mkM q.2) := by
  refine bfr_run 1 19 [o0, o1] [] [(.int (0 : Int32))] (mkM σ) (fun n => rfl) ?_
  exact k_m_isBank_b19 n d q _ _ _ _ h
theorem k_m_isBank (n d : Nat) (q : (Int32 × bS)) (x1 : Int32) (σ : bS) (h : m_isBank n x1 σ = some q) : bfr MT (d + 0) M_X12_isBank 0 [some (.ref 0), some (.int x1)] [] [] (mkM σ) (some (.int q.1), mkM q.2) := by
  refine bfr_br 2 (pc1 := 18) (L1 := [some (.ref 0), some (.int x1)]) (J1 := []) (st1 := []) (w1 := mkM σ) (pc2 := 4) (L2 := [some (.ref 0), some (.int x1)]) (J2 := []) (st2 := []) (w2 := mkM σ) (fun n => rfl) h (fun h => ?_) (fun h => ?_)
  · exact k_m_isBank_b18 n d q _ _ _ h
  · refine bfr_in 5 (pc1 := 11) (L1 := [some (.ref 0), some (.int x1)]) (J1 := []) (st1 := [(.int (sA σ 12 (0 : Int32))), (.int x1)]) (w1 := mkM σ) (fun n => rfl) h (fun h => ?_)
    refine bfr_br 1 (pc1 := 18) (L1 := [some (.ref 0), some (.int x1)]) (J1 := []) (st1 := []) (w1 := mkM σ) (pc2 := 14) (L2 := [some (.ref 0), some (.int x1)]) (J2 := []) (st2 := []) (w2 := mkM σ) (fun n => rfl) h (fun h => ?_) (fun h => ?_)
    · exact k_m_isBank_b18 n d q _ _ _ h
    · refine bfr_run 2 19 [some (.ref 0), some (.int x1)] [] [(.int (1 : Int32))] (mkM σ) (fun n => rfl) ?_
      exact k_m_isBank_b19 n d q _ _ _ _ h
theorem k_m_isOn_b22 (n d : Nat) (q : (Int32 × bS)) (s0 : Int32) (o0 : Option Value) (o1 : Option Value) (σ : bS) (h : m_isOn_b22 n s0 σ = some q) : bfr MT (d + 0) M_X12_isOn 22 [o0, o1] [] [(.int s0)] (mkM σ) (some (.int q.1), mkM q.2) := by
  exact bfr_bz (mk := mkM) 1 rfl h
theorem k_m_isOn (n d : Nat) (q : (Int32 × bS)) (x1 : Int32) (σ : bS) (h : m_isOn n x1 σ = some q) : bfr MT (d + 0) M_X12_isOn 0 [some (.ref 0), some (.int x1)] [] [] (mkM σ) (some (.int q.1), mkM q.2) := by
  refine bfr_in 9 (pc1 := 14) (L1 := [some (.ref 0), some (.int x1)]) (J1 := []) (st1 := [(.int (sA σ 29 (((sI σ 0 40) + (12 : Int32)) + x1)))]) (w1 := mkM σ) (fun n => rfl) h (fun h => ?_)
  refine bfr_br 1 (pc1 := 21) (L1 := [some (.ref 0), some (.int x1)]) (J1 := []) (st1 := []) (w1 := mkM σ) (pc2 := 17) (L2 := [some (.ref 0), some (.int x1)]) (J2 := []) (st2 := []) (w2 := mkM σ) (fun n => rfl) h (fun h => ?_) (fun h => ?_)
  · refine bfr_run 1 22 [some (.ref 0), some (.int x1)] [] [(.int (0 : Int32))] (mkM σ) (fun n => rfl) ?_
    exact k_m_isOn_b22 n d q _ _ _ _ h
  · refine bfr_run 2 22 [some (.ref 0), some (.int x1)] [] [(.int (1 : Int32))] (mkM σ) (fun n => rfl) ?_
    exact k_m_isOn_b22 n d q _ _ _ _ h
theorem k_m_bank_b55 (n d : Nat) (r19 : Int32 → Int32 → Int32 → bS → Option (Int32 × bS)) (q : (Int32 × bS)) (hr19 : ∀ (x1 : Int32) (x2 : Int32) (x3 : Int32) (σ : bS), r19 x1 x2 x3 σ = some q → bfr MT (d + 1) M_X12_bank 19 [some (.ref 0), some (.int x1), some (.int x2), some (.int x3)] [] [] (mkM σ) (some (.int q.1), mkM q.2)) (x1 : Int32) (x2 : Int32) (x3 : Int32) (σ : bS) (h : m_bank_b55 n r19 x1 x2 x3 σ = some q) : bfr MT (d + 1) M_X12_bank 55 [some (.ref 0), some (.int x1), some (.int x2), some (.int x3)] [] [] (mkM σ) (some (.int q.1), mkM q.2) := by
  refine bfr_run 2 19 [some (.ref 0), some (.int x1), some (.int x2), some (.int (x3 + (1 : Int32)))] [] [] (mkM σ) (fun n => rfl) ?_
  exact hr19 _ _ _ _ h
theorem k_m_bank_b19 (n d : Nat) (q : (Int32 × bS)) : ∀ (k : Nat) (x1 : Int32) (x2 : Int32) (x3 : Int32) (σ : bS), m_bank_b19 n k x1 x2 x3 σ = some q → bfr MT (d + 1) M_X12_bank 19 [some (.ref 0), some (.int x1), some (.int x2), some (.int x3)] [] [] (mkM σ) (some (.int q.1), mkM q.2) := by
  intro k
  induction k with
  | zero => intro x1 x2 x3 σ h; exact bno h
  | succ k ih =>
    intro x1 x2 x3 σ h
    refine bfr_in 5 (pc1 := 26) (L1 := [some (.ref 0), some (.int x1), some (.int x2), some (.int x3)]) (J1 := []) (st1 := [(.int (sA σ 20 (0 : Int32))), (.int x3)]) (w1 := mkM σ) (fun n => rfl) h (fun h => ?_)
    refine bfr_br 1 (pc1 := 61) (L1 := [some (.ref 0), some (.int x1), some (.int x2), some (.int x3)]) (J1 := []) (st1 := []) (w1 := mkM σ) (pc2 := 29) (L2 := [some (.ref 0), some (.int x1), some (.int x2), some (.int x3)]) (J2 := []) (st2 := []) (w2 := mkM σ) (fun n => rfl) h (fun h => ?_) (fun h => ?_)
    · cases h
      exact bfr_ret 2 rfl
    · refine bfr_call 3 (d1 := d + 0) (M1 := M_X12_isOn) (L1 := [some (.ref 0), some (.int x3)]) (J1 := []) (w1 := mkM σ) (pc2 := 34) (L2 := [some (.ref 0), some (.int x1), some (.int x2), some (.int x3)]) (J2 := []) (rest := []) (fun a => some (.int a.1)) (fun a => mkM a.2) (fun n => rfl) h (fun a ha => k_m_isOn n (d + 0) _ _ _ ha) (fun q1 _ h => ?_)
      refine bfr_br 1 (pc1 := 37) (L1 := [some (.ref 0), some (.int x1), some (.int x2), some (.int x3)]) (J1 := []) (st1 := []) (w1 := mkM q1.2) (pc2 := 55) (L2 := [some (.ref 0), some (.int x1), some (.int x2), some (.int x3)]) (J2 := []) (st2 := []) (w2 := mkM q1.2) (fun n => rfl) h (fun h => ?_) (fun h => ?_)
      · refine bfr_in 6 (pc1 := 45) (L1 := [some (.ref 0), some (.int x1), some (.int x2), some (.int x3)]) (J1 := []) (st1 := [(.int (sA q1.2 29 ((5 : Int32) + x3)))]) (w1 := mkM q1.2) (fun n => rfl) h (fun h => ?_)
        refine bfr_br 2 (pc1 := 49) (L1 := [some (.ref 0), some (.int x1), some (.int x2), some (.int x3)]) (J1 := []) (st1 := []) (w1 := mkM q1.2) (pc2 := 55) (L2 := [some (.ref 0), some (.int x1), some (.int x2), some (.int x3)]) (J2 := []) (st2 := []) (w2 := mkM q1.2) (fun n => rfl) h (fun h => ?_) (fun h => ?_)
        · refine bfr_run 6 55 [some (.ref 0), some (.int x1), some (.int (x2 ||| ((1 : Int32) <<< (x3 &&& 31)))), some (.int x3)] [] [] (mkM q1.2) (fun n => rfl) ?_
          exact k_m_bank_b55 n d _ q (ih) _ _ _ _ h
        · exact k_m_bank_b55 n d _ q (ih) _ _ _ _ h
      · exact k_m_bank_b55 n d _ q (ih) _ _ _ _ h
theorem k_m_bank (n d : Nat) (q : (Int32 × bS)) (x1 : Int32) (σ : bS) (h : m_bank n x1 σ = some q) : bfr MT (d + 1) M_X12_bank 0 [some (.ref 0), some (.int x1), none, none] [] [] (mkM σ) (some (.int q.1), mkM q.2) := by
  refine bfr_call 3 (d1 := d + 0) (M1 := M_X12_isBank) (L1 := [some (.ref 0), some (.int x1)]) (J1 := []) (w1 := mkM σ) (pc2 := 5) (L2 := [some (.ref 0), some (.int x1), none, none]) (J2 := []) (rest := []) (fun a => some (.int a.1)) (fun a => mkM a.2) (fun n => rfl) h (fun a ha => k_m_isBank n (d + 0) _ _ _ ha) (fun q2 _ h => ?_)
  refine bfr_br 1 (pc1 := 8) (L1 := [some (.ref 0), some (.int x1), none, none]) (J1 := []) (st1 := []) (w1 := mkM q2.2) (pc2 := 10) (L2 := [some (.ref 0), some (.int x1), none, none]) (J2 := []) (st2 := []) (w2 := mkM q2.2) (fun n => rfl) h (fun h => ?_) (fun h => ?_)
  · cases h
    exact bfr_ret 2 rfl
  · refine bfr_run 7 19 [some (.ref 0), some (.int x1), some (.int (0 : Int32)), some (.int (0 : Int32))] [] [] (mkM (uI q2.2 0 40 (0 : Int32))) (fun n => rfl) ?_
    exact k_m_bank_b19 n d q _ _ _ _ _ h
