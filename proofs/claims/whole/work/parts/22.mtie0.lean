set_option maxRecDepth 100000 in
theorem k_m_typed_b23 (n d : Nat) (r2 : Int32 → Int32 → bS → Option bS) (q : bS) (hr2 : ∀ (x1 : Int32) (x2 : Int32) (σ : bS), r2 x1 x2 σ = some q → bfr MT (d + 0) M_X12_typed 2 [some (.ref 0), some (.int x1), some (.int x2)] [] [] (mkM σ) (none, mkM q)) (x1 : Int32) (x2 : Int32) (s1 : Int32) (s2 : Int32) (s3 : Int32) (σ : bS) (h : m_typed_b23 n r2 x1 x2 s1 s2 s3 σ = some q) : bfr MT (d + 0) M_X12_typed 23 [some (.ref 0), some (.int x1), some (.int x2)] [] [(.int s3), (.int s2), (.int s1), (.ref 1)] (mkM σ) (none, mkM q) := by
  unfold m_typed_b23 at h
  refine bfr_in (i := s1) (m := 2000) 4 (pc1 := 29) (L1 := [some (.ref 0), some (.int x1), some (.int x2)]) (J1 := []) (st1 := []) (w1 := ((mkM σ).set 1 (.inl (0, 2000, upd (σ.2.1 1) (s1).toNatClampNeg ((s2 >>> (s3 &&& 31)) &&& cs_255))))) (fun _ _ => rfl) h (fun h => ?_)
  rw [mkM_A1]
  refine bfr_run 6 39 [some (.ref 0), some (.int x1), some (.int x2)] [] [] ((mkM (uA σ 1 s1 ((s2 >>> (s3 &&& 31)) &&& cs_255))).set 0 (.inr (.inr (12, (mkM_0 (uA σ 1 s1 ((s2 >>> (s3 &&& 31)) &&& cs_255))).set 0 (.int ((sI (uA σ 1 s1 ((s2 >>> (s3 &&& 31)) &&& cs_255)) 0 0) + ci_1)))))) (fun _ _ => rfl) ?_
  rw [mkM_I0_0]
  refine bfr_run 1 42 [some (.ref 0), some (.int x1), some (.int (x2 + ci_1))] [] [] (mkM (uI (uA σ 1 s1 ((s2 >>> (s3 &&& 31)) &&& cs_255)) 0 0 ((sI (uA σ 1 s1 ((s2 >>> (s3 &&& 31)) &&& cs_255)) 0 0) + ci_1))) (fun _ _ => rfl) ?_
  refine bfr_run 1 2 [some (.ref 0), some (.int x1), some (.int (x2 + ci_1))] [] [] (mkM (uI (uA σ 1 s1 ((s2 >>> (s3 &&& 31)) &&& cs_255)) 0 0 ((sI (uA σ 1 s1 ((s2 >>> (s3 &&& 31)) &&& cs_255)) 0 0) + ci_1))) (fun _ _ => rfl) ?_
  exact hr2 _ _ _ h
set_option maxRecDepth 100000 in
theorem k_m_typed_b2 (n d : Nat) (q : bS) : ∀ (k : Nat) (x1 : Int32) (x2 : Int32) (σ : bS), m_typed_b2 n k x1 x2 σ = some q → bfr MT (d + 0) M_X12_typed 2 [some (.ref 0), some (.int x1), some (.int x2)] [] [] (mkM σ) (none, mkM q) := by
  intro k
  induction k with
  | zero => intro x1 x2 σ h; exact bno h
  | succ k ih =>
    intro x1 x2 σ h
    unfold m_typed_b2 at h
    refine bfr_br 3 (pc1 := 45) (L1 := [some (.ref 0), some (.int x1), some (.int x2)]) (J1 := []) (st1 := []) (w1 := mkM σ) (pc2 := 7) (L2 := [some (.ref 0), some (.int x1), some (.int x2)]) (J2 := []) (st2 := []) (w2 := mkM σ) (fun _ _ => rfl) h (fun h => ?_) (fun h => ?_)
    · cases h
      exact bfr_ret 1 (fun _ _ => rfl)
    · refine bfr_run 6 18 [some (.ref 0), some (.int x1), some (.int x2)] [] [(.int cb_24), (.int x1), (.int (sI σ 0 0)), (.ref 1)] (mkM σ) (fun _ _ => rfl) ?_
      refine bfr_run 4 23 [some (.ref 0), some (.int x1), some (.int x2)] [] [(.int (cb_24 - (cb_8 * x2))), (.int x1), (.int (sI σ 0 0)), (.ref 1)] (mkM σ) (fun _ _ => rfl) ?_
      exact k_m_typed_b23 n d _ q (ih) _ _ _ _ _ _ h
set_option maxRecDepth 100000 in
theorem k_m_typed (n d : Nat) (q : bS) (x1 : Int32) (σ : bS) (h : m_typed n x1 σ = some q) : bfr MT (d + 0) M_X12_typed 0 [some (.ref 0), some (.int x1), none] [] [] (mkM σ) (none, mkM q) := by
  unfold m_typed at h
  refine bfr_run 2 2 [some (.ref 0), some (.int x1), some (.int ci_0)] [] [] (mkM σ) (fun _ _ => rfl) ?_
  exact k_m_typed_b2 n d q _ _ _ _ h
set_option maxRecDepth 100000 in
theorem k_m_feed (n d : Nat) (q : (Int32 × bS)) (x1 : Int32) (x2 : Int32) (x3 : Int32) (x4 : Int32) (x5 : Int32) (σ : bS) (h : m_feed n x1 x2 x3 x4 x5 σ = some q) : bfr MT (d + 1) M_X12_feed 0 [some (.ref 0), some (.int x1), some (.int x2), some (.int x3), some (.int x4), some (.int x5)] [] [] (mkM σ) (some (.int q.1), mkM q.2) := by
  unfold m_feed at h
  refine bfr_br 6 (pc1 := 15) (L1 := [some (.ref 0), some (.int x1), some (.int x2), some (.int x3), some (.int x4), some (.int x5)]) (J1 := []) (st1 := []) (w1 := mkM σ) (pc2 := 13) (L2 := [some (.ref 0), some (.int x1), some (.int x2), some (.int x3), some (.int x4), some (.int x5)]) (J2 := []) (st2 := []) (w2 := mkM σ) (fun _ _ => rfl) h (fun h => ?_) (fun h => ?_)
  · refine bfr_call 3 (d1 := d + 0) (M1 := M_X12_typed) (vs := [(.ref 0), (.int x1)]) (w1 := mkM σ) (pc2 := 20) (L2 := [some (.ref 0), some (.int x1), some (.int x2), some (.int x3), some (.int x4), some (.int x5)]) (J2 := []) (rest := []) (fun _ => none) (fun a => mkM a) (fun _ _ => rfl) h (fun a ha => k_m_typed n (d + 0) _ _ _ ha) (fun q1 _ h => ?_)
    refine bfr_call 3 (d1 := d + 0) (M1 := M_X12_typed) (vs := [(.ref 0), (.int x2)]) (w1 := mkM q1) (pc2 := 25) (L2 := [some (.ref 0), some (.int x1), some (.int x2), some (.int x3), some (.int x4), some (.int x5)]) (J2 := []) (rest := []) (fun _ => none) (fun a => mkM a) (fun _ _ => rfl) h (fun a ha => k_m_typed n (d + 0) _ _ _ ha) (fun q2 _ h => ?_)
    refine bfr_call 3 (d1 := d + 0) (M1 := M_X12_typed) (vs := [(.ref 0), (.int x3)]) (w1 := mkM q2) (pc2 := 30) (L2 := [some (.ref 0), some (.int x1), some (.int x2), some (.int x3), some (.int x4), some (.int x5)]) (J2 := []) (rest := []) (fun _ => none) (fun a => mkM a) (fun _ _ => rfl) h (fun a ha => k_m_typed n (d + 0) _ _ _ ha) (fun q3 _ h => ?_)
    refine bfr_call 3 (d1 := d + 0) (M1 := M_X12_typed) (vs := [(.ref 0), (.int x4)]) (w1 := mkM q3) (pc2 := 36) (L2 := [some (.ref 0), some (.int x1), some (.int x2), some (.int x3), some (.int x4), some (.int x5)]) (J2 := []) (rest := []) (fun _ => none) (fun a => mkM a) (fun _ _ => rfl) h (fun a ha => k_m_typed n (d + 0) _ _ _ ha) (fun q4 _ h => ?_)
    refine bfr_call 3 (d1 := d + 0) (M1 := M_X12_typed) (vs := [(.ref 0), (.int x5)]) (w1 := mkM q4) (pc2 := 42) (L2 := [some (.ref 0), some (.int x1), some (.int x2), some (.int x3), some (.int x4), some (.int x5)]) (J2 := []) (rest := []) (fun _ => none) (fun a => mkM a) (fun _ _ => rfl) h (fun a ha => k_m_typed n (d + 0) _ _ _ ha) (fun q5 _ h => ?_)
    cases h
    exact bfr_ret 3 (fun _ _ => rfl)
  · cases h
    exact bfr_ret 2 (fun _ _ => rfl)
set_option maxRecDepth 100000 in
theorem k_m_back_b21 (n d : Nat) (q : (Int32 × bS)) (s1 : Int32) (o1 : Option Value) (σ : bS) (h : m_back_b21 n s1 σ = some q) : bfr MT (d + 0) M_X12_back 21 [some (.ref 0), o1] [] [(.int s1), (.ref 0)] (mkM σ) (some (.int q.1), mkM q.2) := by
  unfold m_back_b21 at h
  refine bfr_run 1 24 [some (.ref 0), o1] [] [] ((mkM σ).set 0 (.inr (.inr (12, (mkM_0 σ).set 0 (.int s1))))) (fun _ _ => rfl) ?_
  rw [mkM_I0_0]
  cases h
  exact bfr_ret 3 (fun _ _ => rfl)
set_option maxRecDepth 100000 in
theorem k_m_back_b12 (n d : Nat) (q : (Int32 × bS)) (o0 : Option Value) (o1 : Option Value) (σ : bS) (h : m_back_b12 n σ = some q) : bfr MT (d + 0) M_X12_back 12 [o0, o1] [] [] (mkM σ) (some (.int q.1), mkM q.2) := by
  unfold m_back_b12 at h
  cases h
  exact bfr_ret 2 (fun _ _ => rfl)
set_option maxRecDepth 100000 in
theorem k_m_back (n d : Nat) (q : (Int32 × bS)) (x1 : Int32) (σ : bS) (h : m_back n x1 σ = some q) : bfr MT (d + 0) M_X12_back 0 [some (.ref 0), some (.int x1)] [] [] (mkM σ) (some (.int q.1), mkM q.2) := by
  unfold m_back at h
  refine bfr_br 2 (pc1 := 12) (L1 := [some (.ref 0), some (.int x1)]) (J1 := []) (st1 := []) (w1 := mkM σ) (pc2 := 4) (L2 := [some (.ref 0), some (.int x1)]) (J2 := []) (st2 := []) (w2 := mkM σ) (fun _ _ => rfl) h (fun h => ?_) (fun h => ?_)
  · exact k_m_back_b12 n d q _ _ _ h
  · refine bfr_br 4 (pc1 := 14) (L1 := [some (.ref 0), some (.int x1)]) (J1 := []) (st1 := []) (w1 := mkM σ) (pc2 := 12) (L2 := [some (.ref 0), some (.int x1)]) (J2 := []) (st2 := []) (w2 := mkM σ) (fun _ _ => rfl) h (fun h => ?_) (fun h => ?_)
    · refine bfr_run 5 21 [some (.ref 0), some (.int x1)] [] [(.int ((sI σ 0 0) - x1)), (.ref 0)] (mkM σ) (fun _ _ => rfl) ?_
      exact k_m_back_b21 n d q _ _ _ h
    · exact k_m_back_b12 n d q _ _ _ h
set_option maxRecDepth 100000 in
theorem k_m_byteAt_b18 (n d : Nat) (q : (Int32 × bS)) (s0 : Int32) (o0 : Option Value) (o1 : Option Value) (σ : bS) (h : m_byteAt_b18 n s0 σ = some q) : bfr MT (d + 0) M_X12_byteAt 18 [o0, o1] [] [(.int s0)] (mkM σ) (some (.int q.1), mkM q.2) := by
  unfold m_byteAt_b18 at h
  cases h
  exact bfr_ret 1 (fun _ _ => rfl)
set_option maxRecDepth 100000 in
theorem k_m_byteAt (n d : Nat) (q : (Int32 × bS)) (x1 : Int32) (σ : bS) (h : m_byteAt n x1 σ = some q) : bfr MT (d + 0) M_X12_byteAt 0 [some (.ref 0), some (.int x1)] [] [] (mkM σ) (some (.int q.1), mkM q.2) := by
  unfold m_byteAt at h
  refine bfr_br 4 (pc1 := 17) (L1 := [some (.ref 0), some (.int x1)]) (J1 := []) (st1 := []) (w1 := mkM σ) (pc2 := 8) (L2 := [some (.ref 0), some (.int x1)]) (J2 := []) (st2 := []) (w2 := mkM σ) (fun _ _ => rfl) h (fun h => ?_) (fun h => ?_)
  · refine bfr_run 1 18 [some (.ref 0), some (.int x1)] [] [(.int ci_0)] (mkM σ) (fun _ _ => rfl) ?_
    exact k_m_byteAt_b18 n d q _ _ _ _ h
  · refine bfr_in (i := x1) (m := 2000) 4 (pc1 := 14) (L1 := [some (.ref 0), some (.int x1)]) (J1 := []) (st1 := [(.int (sA σ 1 x1))]) (w1 := mkM σ) (fun _ _ => rfl) h (fun h => ?_)
    refine bfr_run 1 18 [some (.ref 0), some (.int x1)] [] [(.int (sA σ 1 x1))] (mkM σ) (fun _ _ => rfl) ?_
    exact k_m_byteAt_b18 n d q _ _ _ _ h
set_option maxRecDepth 100000 in
theorem k_m_isLetter_b25 (n d : Nat) (q : (Int32 × bS)) (s0 : Int32) (o0 : Option Value) (o1 : Option Value) (σ : bS) (h : m_isLetter_b25 n s0 σ = some q) : bfr MT (d + 1) M_X12_isLetter 25 [o0, o1] [] [(.int s0)] (mkM σ) (some (.int q.1), mkM q.2) := by
  unfold m_isLetter_b25 at h
  exact bfr_bz (mk := mkM) 1 (fun _ _ => rfl) h
set_option maxRecDepth 100000 in
theorem k_m_isLetter_b24 (n d : Nat) (q : (Int32 × bS)) (o0 : Option Value) (o1 : Option Value) (σ : bS) (h : m_isLetter_b24 n σ = some q) : bfr MT (d + 1) M_X12_isLetter 24 [o0, o1] [] [] (mkM σ) (some (.int q.1), mkM q.2) := by
  unfold m_isLetter_b24 at h
  refine bfr_run 1 25 [o0, o1] [] [(.int ci_0)] (mkM σ) (fun _ _ => rfl) ?_
  exact k_m_isLetter_b25 n d q _ _ _ _ h
set_option maxRecDepth 100000 in
theorem k_m_isLetter (n d : Nat) (q : (Int32 × bS)) (x1 : Int32) (σ : bS) (h : m_isLetter n x1 σ = some q) : bfr MT (d + 1) M_X12_isLetter 0 [some (.ref 0), some (.int x1)] [] [] (mkM σ) (some (.int q.1), mkM q.2) := by
  unfold m_isLetter at h
  refine bfr_call 3 (d1 := d + 0) (M1 := M_X12_byteAt) (vs := [(.ref 0), (.int x1)]) (w1 := mkM σ) (pc2 := 5) (L2 := [some (.ref 0), some (.int x1)]) (J2 := []) (rest := []) (fun a => some (.int a.1)) (fun a => mkM a.2) (fun _ _ => rfl) h (fun a ha => k_m_byteAt n (d + 0) _ _ _ ha) (fun q1 _ h => ?_)
  refine bfr_br 2 (pc1 := 24) (L1 := [some (.ref 0), some (.int x1)]) (J1 := []) (st1 := []) (w1 := mkM q1.2) (pc2 := 10) (L2 := [some (.ref 0), some (.int x1)]) (J2 := []) (st2 := []) (w2 := mkM q1.2) (fun _ _ => rfl) h (fun h => ?_) (fun h => ?_)
  · exact k_m_isLetter_b24 n d q _ _ _ h
  · refine bfr_call 3 (d1 := d + 0) (M1 := M_X12_byteAt) (vs := [(.ref 0), (.int x1)]) (w1 := mkM q1.2) (pc2 := 15) (L2 := [some (.ref 0), some (.int x1)]) (J2 := []) (rest := []) (fun a => some (.int a.1)) (fun a => mkM a.2) (fun _ _ => rfl) h (fun a ha => k_m_byteAt n (d + 0) _ _ _ ha) (fun q2 _ h => ?_)
    refine bfr_br 2 (pc1 := 24) (L1 := [some (.ref 0), some (.int x1)]) (J1 := []) (st1 := []) (w1 := mkM q2.2) (pc2 := 20) (L2 := [some (.ref 0), some (.int x1)]) (J2 := []) (st2 := []) (w2 := mkM q2.2) (fun _ _ => rfl) h (fun h => ?_) (fun h => ?_)
    · exact k_m_isLetter_b24 n d q _ _ _ h
    · refine bfr_run 2 25 [some (.ref 0), some (.int x1)] [] [(.int ci_1)] (mkM q2.2) (fun _ _ => rfl) ?_
      exact k_m_isLetter_b25 n d q _ _ _ _ h
set_option maxRecDepth 100000 in
theorem k_m_isDigit_b25 (n d : Nat) (q : (Int32 × bS)) (s0 : Int32) (o0 : Option Value) (o1 : Option Value) (σ : bS) (h : m_isDigit_b25 n s0 σ = some q) : bfr MT (d + 1) M_X12_isDigit 25 [o0, o1] [] [(.int s0)] (mkM σ) (some (.int q.1), mkM q.2) := by
  unfold m_isDigit_b25 at h
  exact bfr_bz (mk := mkM) 1 (fun _ _ => rfl) h
set_option maxRecDepth 100000 in
theorem k_m_isDigit_b24 (n d : Nat) (q : (Int32 × bS)) (o0 : Option Value) (o1 : Option Value) (σ : bS) (h : m_isDigit_b24 n σ = some q) : bfr MT (d + 1) M_X12_isDigit 24 [o0, o1] [] [] (mkM σ) (some (.int q.1), mkM q.2) := by
  unfold m_isDigit_b24 at h
  refine bfr_run 1 25 [o0, o1] [] [(.int ci_0)] (mkM σ) (fun _ _ => rfl) ?_
  exact k_m_isDigit_b25 n d q _ _ _ _ h
set_option maxRecDepth 100000 in
theorem k_m_isDigit (n d : Nat) (q : (Int32 × bS)) (x1 : Int32) (σ : bS) (h : m_isDigit n x1 σ = some q) : bfr MT (d + 1) M_X12_isDigit 0 [some (.ref 0), some (.int x1)] [] [] (mkM σ) (some (.int q.1), mkM q.2) := by
  unfold m_isDigit at h
  refine bfr_call 3 (d1 := d + 0) (M1 := M_X12_byteAt) (vs := [(.ref 0), (.int x1)]) (w1 := mkM σ) (pc2 := 5) (L2 := [some (.ref 0), some (.int x1)]) (J2 := []) (rest := []) (fun a => some (.int a.1)) (fun a => mkM a.2) (fun _ _ => rfl) h (fun a ha => k_m_byteAt n (d + 0) _ _ _ ha) (fun q1 _ h => ?_)
  refine bfr_br 2 (pc1 := 24) (L1 := [some (.ref 0), some (.int x1)]) (J1 := []) (st1 := []) (w1 := mkM q1.2) (pc2 := 10) (L2 := [some (.ref 0), some (.int x1)]) (J2 := []) (st2 := []) (w2 := mkM q1.2) (fun _ _ => rfl) h (fun h => ?_) (fun h => ?_)
  · exact k_m_isDigit_b24 n d q _ _ _ h
  · refine bfr_call 3 (d1 := d + 0) (M1 := M_X12_byteAt) (vs := [(.ref 0), (.int x1)]) (w1 := mkM q1.2) (pc2 := 15) (L2 := [some (.ref 0), some (.int x1)]) (J2 := []) (rest := []) (fun a => some (.int a.1)) (fun a => mkM a.2) (fun _ _ => rfl) h (fun a ha => k_m_byteAt n (d + 0) _ _ _ ha) (fun q2 _ h => ?_)
    refine bfr_br 2 (pc1 := 24) (L1 := [some (.ref 0), some (.int x1)]) (J1 := []) (st1 := []) (w1 := mkM q2.2) (pc2 := 20) (L2 := [some (.ref 0), some (.int x1)]) (J2 := []) (st2 := []) (w2 := mkM q2.2) (fun _ _ => rfl) h (fun h => ?_) (fun h => ?_)
    · exact k_m_isDigit_b24 n d q _ _ _ h
    · refine bfr_run 2 25 [some (.ref 0), some (.int x1)] [] [(.int ci_1)] (mkM q2.2) (fun _ _ => rfl) ?_
      exact k_m_isDigit_b25 n d q _ _ _ _ h
set_option maxRecDepth 100000 in
theorem k_m_token (n d : Nat) (q : bS) (x1 : Int32) (x2 : Int32) (x3 : Int32) (σ : bS) (h : m_token n x1 x2 x3 σ = some q) : bfr MT (d + 0) M_X12_token 0 [some (.ref 0), some (.int x1), some (.int x2), some (.int x3)] [] [] (mkM σ) (none, mkM q) := by
  unfold m_token at h
  refine bfr_in (i := (sI σ 0 2)) (m := 2001) 6 (pc1 := 10) (L1 := [some (.ref 0), some (.int x1), some (.int x2), some (.int x3)]) (J1 := []) (st1 := []) (w1 := ((mkM σ).set 2 (.inl (0, 2001, upd (σ.2.1 2) ((sI σ 0 2)).toNatClampNeg x1)))) (fun _ _ => rfl) h (fun h => ?_)
  rw [mkM_A2]
  refine bfr_in (i := (sI (uA σ 2 (sI σ 0 2) x1) 0 2)) (m := 2001) 6 (pc1 := 20) (L1 := [some (.ref 0), some (.int x1), some (.int x2), some (.int x3)]) (J1 := []) (st1 := []) (w1 := ((mkM (uA σ 2 (sI σ 0 2) x1)).set 3 (.inl (0, 2001, upd ((uA σ 2 (sI σ 0 2) x1).2.1 3) ((sI (uA σ 2 (sI σ 0 2) x1) 0 2)).toNatClampNeg x2)))) (fun _ _ => rfl) h (fun h => ?_)
  rw [mkM_A3]
  refine bfr_in (i := (sI (uA (uA σ 2 (sI σ 0 2) x1) 3 (sI (uA σ 2 (sI σ 0 2) x1) 0 2) x2) 0 2)) (m := 2001) 6 (pc1 := 30) (L1 := [some (.ref 0), some (.int x1), some (.int x2), some (.int x3)]) (J1 := []) (st1 := []) (w1 := ((mkM (uA (uA σ 2 (sI σ 0 2) x1) 3 (sI (uA σ 2 (sI σ 0 2) x1) 0 2) x2)).set 4 (.inl (0, 2001, upd ((uA (uA σ 2 (sI σ 0 2) x1) 3 (sI (uA σ 2 (sI σ 0 2) x1) 0 2) x2).2.1 4) ((sI (uA (uA σ 2 (sI σ 0 2) x1) 3 (sI (uA σ 2 (sI σ 0 2) x1) 0 2) x2) 0 2)).toNatClampNeg x3)))) (fun _ _ => rfl) h (fun h => ?_)
  rw [mkM_A4]
  refine bfr_run 6 40 [some (.ref 0), some (.int x1), some (.int x2), some (.int x3)] [] [] ((mkM (uA (uA (uA σ 2 (sI σ 0 2) x1) 3 (sI (uA σ 2 (sI σ 0 2) x1) 0 2) x2) 4 (sI (uA (uA σ 2 (sI σ 0 2) x1) 3 (sI (uA σ 2 (sI σ 0 2) x1) 0 2) x2) 0 2) x3)).set 0 (.inr (.inr (12, (mkM_0 (uA (uA (uA σ 2 (sI σ 0 2) x1) 3 (sI (uA σ 2 (sI σ 0 2) x1) 0 2) x2) 4 (sI (uA (uA σ 2 (sI σ 0 2) x1) 3 (sI (uA σ 2 (sI σ 0 2) x1) 0 2) x2) 0 2) x3)).set 2 (.int ((sI (uA (uA (uA σ 2 (sI σ 0 2) x1) 3 (sI (uA σ 2 (sI σ 0 2) x1) 0 2) x2) 4 (sI (uA (uA σ 2 (sI σ 0 2) x1) 3 (sI (uA σ 2 (sI σ 0 2) x1) 0 2) x2) 0 2) x3) 0 2) + ci_1)))))) (fun _ _ => rfl) ?_
  rw [mkM_I0_2]
  cases h
  exact bfr_ret 1 (fun _ _ => rfl)
set_option maxRecDepth 100000 in
theorem k_m_wordOf (n d : Nat) (q : (Int32 × bS)) (x0 : Int64) (σ : bS) (h : m_wordOf n x0 σ = some q) : bfr MT (d + 0) M_X12_wordOf 0 [none, none] [(0, x0)] [] (mkM σ) (some (.int q.1), mkM q.2) := by
  unfold m_wordOf at h
  refine bfr_br 4 (pc1 := 8) (L1 := [none, none]) (J1 := [(0, x0)]) (st1 := []) (w1 := mkM σ) (pc2 := 10) (L2 := [none, none]) (J2 := [(0, x0)]) (st2 := []) (w2 := mkM σ) (fun _ _ => rfl) h (fun h => ?_) (fun h => ?_)
  · cases h
    exact bfr_ret 2 (fun _ _ => rfl)
  · refine bfr_br 4 (pc1 := 18) (L1 := [none, none]) (J1 := [(0, x0)]) (st1 := []) (w1 := mkM σ) (pc2 := 20) (L2 := [none, none]) (J2 := [(0, x0)]) (st2 := []) (w2 := mkM σ) (fun _ _ => rfl) h (fun h => ?_) (fun h => ?_)
    · cases h
      exact bfr_ret 2 (fun _ _ => rfl)
    · refine bfr_br 4 (pc1 := 28) (L1 := [none, none]) (J1 := [(0, x0)]) (st1 := []) (w1 := mkM σ) (pc2 := 30) (L2 := [none, none]) (J2 := [(0, x0)]) (st2 := []) (w2 := mkM σ) (fun _ _ => rfl) h (fun h => ?_) (fun h => ?_)
      · cases h
        exact bfr_ret 2 (fun _ _ => rfl)
      · refine bfr_br 4 (pc1 := 38) (L1 := [none, none]) (J1 := [(0, x0)]) (st1 := []) (w1 := mkM σ) (pc2 := 40) (L2 := [none, none]) (J2 := [(0, x0)]) (st2 := []) (w2 := mkM σ) (fun _ _ => rfl) h (fun h => ?_) (fun h => ?_)
        · cases h
          exact bfr_ret 2 (fun _ _ => rfl)
        · refine bfr_br 4 (pc1 := 48) (L1 := [none, none]) (J1 := [(0, x0)]) (st1 := []) (w1 := mkM σ) (pc2 := 50) (L2 := [none, none]) (J2 := [(0, x0)]) (st2 := []) (w2 := mkM σ) (fun _ _ => rfl) h (fun h => ?_) (fun h => ?_)
          · cases h
            exact bfr_ret 2 (fun _ _ => rfl)
          · refine bfr_br 4 (pc1 := 58) (L1 := [none, none]) (J1 := [(0, x0)]) (st1 := []) (w1 := mkM σ) (pc2 := 60) (L2 := [none, none]) (J2 := [(0, x0)]) (st2 := []) (w2 := mkM σ) (fun _ _ => rfl) h (fun h => ?_) (fun h => ?_)
            · cases h
              exact bfr_ret 2 (fun _ _ => rfl)
            · refine bfr_br 4 (pc1 := 68) (L1 := [none, none]) (J1 := [(0, x0)]) (st1 := []) (w1 := mkM σ) (pc2 := 71) (L2 := [none, none]) (J2 := [(0, x0)]) (st2 := []) (w2 := mkM σ) (fun _ _ => rfl) h (fun h => ?_) (fun h => ?_)
              · cases h
                exact bfr_ret 2 (fun _ _ => rfl)
              · refine bfr_br 4 (pc1 := 79) (L1 := [none, none]) (J1 := [(0, x0)]) (st1 := []) (w1 := mkM σ) (pc2 := 82) (L2 := [none, none]) (J2 := [(0, x0)]) (st2 := []) (w2 := mkM σ) (fun _ _ => rfl) h (fun h => ?_) (fun h => ?_)
                · cases h
                  exact bfr_ret 2 (fun _ _ => rfl)
                · refine bfr_br 4 (pc1 := 90) (L1 := [none, none]) (J1 := [(0, x0)]) (st1 := []) (w1 := mkM σ) (pc2 := 93) (L2 := [none, none]) (J2 := [(0, x0)]) (st2 := []) (w2 := mkM σ) (fun _ _ => rfl) h (fun h => ?_) (fun h => ?_)
                  · cases h
                    exact bfr_ret 2 (fun _ _ => rfl)
                  · refine bfr_br 4 (pc1 := 101) (L1 := [none, none]) (J1 := [(0, x0)]) (st1 := []) (w1 := mkM σ) (pc2 := 104) (L2 := [none, none]) (J2 := [(0, x0)]) (st2 := []) (w2 := mkM σ) (fun _ _ => rfl) h (fun h => ?_) (fun h => ?_)
                    · cases h
                      exact bfr_ret 2 (fun _ _ => rfl)
                    · refine bfr_br 4 (pc1 := 112) (L1 := [none, none]) (J1 := [(0, x0)]) (st1 := []) (w1 := mkM σ) (pc2 := 115) (L2 := [none, none]) (J2 := [(0, x0)]) (st2 := []) (w2 := mkM σ) (fun _ _ => rfl) h (fun h => ?_) (fun h => ?_)
                      · cases h
                        exact bfr_ret 2 (fun _ _ => rfl)
                      · refine bfr_br 4 (pc1 := 123) (L1 := [none, none]) (J1 := [(0, x0)]) (st1 := []) (w1 := mkM σ) (pc2 := 126) (L2 := [none, none]) (J2 := [(0, x0)]) (st2 := []) (w2 := mkM σ) (fun _ _ => rfl) h (fun h => ?_) (fun h => ?_)
                        · cases h
                          exact bfr_ret 2 (fun _ _ => rfl)
                        · refine bfr_br 4 (pc1 := 134) (L1 := [none, none]) (J1 := [(0, x0)]) (st1 := []) (w1 := mkM σ) (pc2 := 137) (L2 := [none, none]) (J2 := [(0, x0)]) (st2 := []) (w2 := mkM σ) (fun _ _ => rfl) h (fun h => ?_) (fun h => ?_)
                          · cases h
                            exact bfr_ret 2 (fun _ _ => rfl)
                          · refine bfr_br 4 (pc1 := 145) (L1 := [none, none]) (J1 := [(0, x0)]) (st1 := []) (w1 := mkM σ) (pc2 := 148) (L2 := [none, none]) (J2 := [(0, x0)]) (st2 := []) (w2 := mkM σ) (fun _ _ => rfl) h (fun h => ?_) (fun h => ?_)
                            · cases h
                              exact bfr_ret 2 (fun _ _ => rfl)
                            · refine bfr_br 4 (pc1 := 156) (L1 := [none, none]) (J1 := [(0, x0)]) (st1 := []) (w1 := mkM σ) (pc2 := 159) (L2 := [none, none]) (J2 := [(0, x0)]) (st2 := []) (w2 := mkM σ) (fun _ _ => rfl) h (fun h => ?_) (fun h => ?_)
                              · cases h
                                exact bfr_ret 2 (fun _ _ => rfl)
                              · refine bfr_br 4 (pc1 := 167) (L1 := [none, none]) (J1 := [(0, x0)]) (st1 := []) (w1 := mkM σ) (pc2 := 170) (L2 := [none, none]) (J2 := [(0, x0)]) (st2 := []) (w2 := mkM σ) (fun _ _ => rfl) h (fun h => ?_) (fun h => ?_)
                                · cases h
                                  exact bfr_ret 2 (fun _ _ => rfl)
                                · refine bfr_br 4 (pc1 := 178) (L1 := [none, none]) (J1 := [(0, x0)]) (st1 := []) (w1 := mkM σ) (pc2 := 181) (L2 := [none, none]) (J2 := [(0, x0)]) (st2 := []) (w2 := mkM σ) (fun _ _ => rfl) h (fun h => ?_) (fun h => ?_)
                                  · cases h
                                    exact bfr_ret 2 (fun _ _ => rfl)
                                  · refine bfr_br 4 (pc1 := 189) (L1 := [none, none]) (J1 := [(0, x0)]) (st1 := []) (w1 := mkM σ) (pc2 := 192) (L2 := [none, none]) (J2 := [(0, x0)]) (st2 := []) (w2 := mkM σ) (fun _ _ => rfl) h (fun h => ?_) (fun h => ?_)
                                    · cases h
                                      exact bfr_ret 2 (fun _ _ => rfl)
                                    · refine bfr_br 4 (pc1 := 200) (L1 := [none, none]) (J1 := [(0, x0)]) (st1 := []) (w1 := mkM σ) (pc2 := 203) (L2 := [none, none]) (J2 := [(0, x0)]) (st2 := []) (w2 := mkM σ) (fun _ _ => rfl) h (fun h => ?_) (fun h => ?_)
                                      · cases h
                                        exact bfr_ret 2 (fun _ _ => rfl)
                                      · refine bfr_br 4 (pc1 := 211) (L1 := [none, none]) (J1 := [(0, x0)]) (st1 := []) (w1 := mkM σ) (pc2 := 214) (L2 := [none, none]) (J2 := [(0, x0)]) (st2 := []) (w2 := mkM σ) (fun _ _ => rfl) h (fun h => ?_) (fun h => ?_)
                                        · cases h
                                          exact bfr_ret 2 (fun _ _ => rfl)
                                        · refine bfr_br 4 (pc1 := 222) (L1 := [none, none]) (J1 := [(0, x0)]) (st1 := []) (w1 := mkM σ) (pc2 := 225) (L2 := [none, none]) (J2 := [(0, x0)]) (st2 := []) (w2 := mkM σ) (fun _ _ => rfl) h (fun h => ?_) (fun h => ?_)
                                          · cases h
                                            exact bfr_ret 2 (fun _ _ => rfl)
                                          · refine bfr_br 4 (pc1 := 233) (L1 := [none, none]) (J1 := [(0, x0)]) (st1 := []) (w1 := mkM σ) (pc2 := 236) (L2 := [none, none]) (J2 := [(0, x0)]) (st2 := []) (w2 := mkM σ) (fun _ _ => rfl) h (fun h => ?_) (fun h => ?_)
                                            · cases h
                                              exact bfr_ret 2 (fun _ _ => rfl)
                                            · refine bfr_br 4 (pc1 := 244) (L1 := [none, none]) (J1 := [(0, x0)]) (st1 := []) (w1 := mkM σ) (pc2 := 247) (L2 := [none, none]) (J2 := [(0, x0)]) (st2 := []) (w2 := mkM σ) (fun _ _ => rfl) h (fun h => ?_) (fun h => ?_)
                                              · cases h
                                                exact bfr_ret 2 (fun _ _ => rfl)
                                              · refine bfr_br 4 (pc1 := 255) (L1 := [none, none]) (J1 := [(0, x0)]) (st1 := []) (w1 := mkM σ) (pc2 := 258) (L2 := [none, none]) (J2 := [(0, x0)]) (st2 := []) (w2 := mkM σ) (fun _ _ => rfl) h (fun h => ?_) (fun h => ?_)
                                                · cases h
                                                  exact bfr_ret 2 (fun _ _ => rfl)
                                                · cases h
                                                  exact bfr_ret 2 (fun _ _ => rfl)
set_option maxRecDepth 100000 in
theorem k_m_signAt_b67 (n d : Nat) (q : (Int32 × bS)) (s0 : Int32) (o0 : Option Value) (o1 : Option Value) (o2 : Option Value) (σ : bS) (h : m_signAt_b67 n s0 σ = some q) : bfr MT (d + 1) M_X12_signAt 67 [o0, o1, o2] [] [(.int s0)] (mkM σ) (some (.int q.1), mkM q.2) := by
  unfold m_signAt_b67 at h
  cases h
  exact bfr_ret 1 (fun _ _ => rfl)
set_option maxRecDepth 100000 in
theorem k_m_signAt_b62 (n d : Nat) (q : (Int32 × bS)) (x2 : Int32) (o0 : Option Value) (o1 : Option Value) (σ : bS) (h : m_signAt_b62 n x2 σ = some q) : bfr MT (d + 1) M_X12_signAt 62 [o0, o1, some (.int x2)] [] [] (mkM σ) (some (.int q.1), mkM q.2) := by
  unfold m_signAt_b62 at h
  refine bfr_run 2 67 [o0, o1, some (.int x2)] [] [(.int x2)] (mkM σ) (fun _ _ => rfl) ?_
  exact k_m_signAt_b67 n d q _ _ _ _ _ h
set_option maxRecDepth 100000 in
theorem k_m_signAt_b36 (n d : Nat) (q : (Int32 × bS)) (x2 : Int32) (o0 : Option Value) (o1 : Option Value) (σ : bS) (h : m_signAt_b36 n x2 σ = some q) : bfr MT (d + 1) M_X12_signAt 36 [o0, o1, some (.int x2)] [] [] (mkM σ) (some (.int q.1), mkM q.2) := by
  unfold m_signAt_b36 at h
  cases h
  exact bfr_ret 2 (fun _ _ => rfl)
set_option maxRecDepth 100000 in
theorem k_m_signAt (n d : Nat) (q : (Int32 × bS)) (x1 : Int32) (σ : bS) (h : m_signAt n x1 σ = some q) : bfr MT (d + 1) M_X12_signAt 0 [some (.ref 0), some (.int x1), none] [] [] (mkM σ) (some (.int q.1), mkM q.2) := by
  unfold m_signAt at h
  refine bfr_call 3 (d1 := d + 0) (M1 := M_X12_byteAt) (vs := [(.ref 0), (.int x1)]) (w1 := mkM σ) (pc2 := 5) (L2 := [some (.ref 0), some (.int x1), none]) (J2 := []) (rest := []) (fun a => some (.int a.1)) (fun a => mkM a.2) (fun _ _ => rfl) h (fun a ha => k_m_byteAt n (d + 0) _ _ _ ha) (fun q1 _ h => ?_)
  refine bfr_br 4 (pc1 := 36) (L1 := [some (.ref 0), some (.int x1), some (.int q1.1)]) (J1 := []) (st1 := []) (w1 := mkM q1.2) (pc2 := 12) (L2 := [some (.ref 0), some (.int x1), some (.int q1.1)]) (J2 := []) (st2 := []) (w2 := mkM q1.2) (fun _ _ => rfl) h (fun h => ?_) (fun h => ?_)
  · exact k_m_signAt_b36 n d q _ _ _ _ h
  · refine bfr_br 3 (pc1 := 36) (L1 := [some (.ref 0), some (.int x1), some (.int q1.1)]) (J1 := []) (st1 := []) (w1 := mkM q1.2) (pc2 := 18) (L2 := [some (.ref 0), some (.int x1), some (.int q1.1)]) (J2 := []) (st2 := []) (w2 := mkM q1.2) (fun _ _ => rfl) h (fun h => ?_) (fun h => ?_)
    · exact k_m_signAt_b36 n d q _ _ _ _ h
    · refine bfr_br 3 (pc1 := 36) (L1 := [some (.ref 0), some (.int x1), some (.int q1.1)]) (J1 := []) (st1 := []) (w1 := mkM q1.2) (pc2 := 24) (L2 := [some (.ref 0), some (.int x1), some (.int q1.1)]) (J2 := []) (st2 := []) (w2 := mkM q1.2) (fun _ _ => rfl) h (fun h => ?_) (fun h => ?_)
      · exact k_m_signAt_b36 n d q _ _ _ _ h
      · refine bfr_br 3 (pc1 := 36) (L1 := [some (.ref 0), some (.int x1), some (.int q1.1)]) (J1 := []) (st1 := []) (w1 := mkM q1.2) (pc2 := 30) (L2 := [some (.ref 0), some (.int x1), some (.int q1.1)]) (J2 := []) (st2 := []) (w2 := mkM q1.2) (fun _ _ => rfl) h (fun h => ?_) (fun h => ?_)
        · exact k_m_signAt_b36 n d q _ _ _ _ h
        · refine bfr_br 3 (pc1 := 36) (L1 := [some (.ref 0), some (.int x1), some (.int q1.1)]) (J1 := []) (st1 := []) (w1 := mkM q1.2) (pc2 := 38) (L2 := [some (.ref 0), some (.int x1), some (.int q1.1)]) (J2 := []) (st2 := []) (w2 := mkM q1.2) (fun _ _ => rfl) h (fun h => ?_) (fun h => ?_)
          · exact k_m_signAt_b36 n d q _ _ _ _ h
          · refine bfr_br 3 (pc1 := 62) (L1 := [some (.ref 0), some (.int x1), some (.int q1.1)]) (J1 := []) (st1 := []) (w1 := mkM q1.2) (pc2 := 44) (L2 := [some (.ref 0), some (.int x1), some (.int q1.1)]) (J2 := []) (st2 := []) (w2 := mkM q1.2) (fun _ _ => rfl) h (fun h => ?_) (fun h => ?_)
            · exact k_m_signAt_b62 n d q _ _ _ _ h
            · refine bfr_br 3 (pc1 := 62) (L1 := [some (.ref 0), some (.int x1), some (.int q1.1)]) (J1 := []) (st1 := []) (w1 := mkM q1.2) (pc2 := 50) (L2 := [some (.ref 0), some (.int x1), some (.int q1.1)]) (J2 := []) (st2 := []) (w2 := mkM q1.2) (fun _ _ => rfl) h (fun h => ?_) (fun h => ?_)
              · exact k_m_signAt_b62 n d q _ _ _ _ h
              · refine bfr_br 3 (pc1 := 62) (L1 := [some (.ref 0), some (.int x1), some (.int q1.1)]) (J1 := []) (st1 := []) (w1 := mkM q1.2) (pc2 := 56) (L2 := [some (.ref 0), some (.int x1), some (.int q1.1)]) (J2 := []) (st2 := []) (w2 := mkM q1.2) (fun _ _ => rfl) h (fun h => ?_) (fun h => ?_)
                · exact k_m_signAt_b62 n d q _ _ _ _ h
                · refine bfr_br 3 (pc1 := 62) (L1 := [some (.ref 0), some (.int x1), some (.int q1.1)]) (J1 := []) (st1 := []) (w1 := mkM q1.2) (pc2 := 66) (L2 := [some (.ref 0), some (.int x1), some (.int q1.1)]) (J2 := []) (st2 := []) (w2 := mkM q1.2) (fun _ _ => rfl) h (fun h => ?_) (fun h => ?_)
                  · exact k_m_signAt_b62 n d q _ _ _ _ h
                  · refine bfr_run 1 67 [some (.ref 0), some (.int x1), some (.int q1.1)] [] [(.int ci_0)] (mkM q1.2) (fun _ _ => rfl) ?_
                    exact k_m_signAt_b67 n d q _ _ _ _ _ h
set_option maxRecDepth 100000 in
theorem k_m_scan_b191 (n d : Nat) (q : (Int32 × bS)) (x1 : Int32) (x3 : Int32) (s1 : Int32) (o0 : Option Value) (o2 : Option Value) (o4 : Option Value) (o5 : Option Value) (σ : bS) (h : m_scan_b191 n x1 x3 s1 σ = some q) : bfr MT (d + 2) M_X12_scan 191 [o0, some (.int x1), o2, some (.int x3), o4, o5] [] [(.int s1), (.ref 0)] (mkM σ) (some (.int q.1), mkM q.2) := by
  unfold m_scan_b191 at h
  refine bfr_call 3 (d1 := d + 1) (M1 := M_X12_token) (vs := [(.ref 0), (.int s1), (.int x1), (.int x3)]) (w1 := mkM σ) (pc2 := 196) (L2 := [o0, some (.int x1), o2, some (.int x3), o4, o5]) (J2 := []) (rest := []) (fun _ => none) (fun a => mkM a) (fun _ _ => rfl) h (fun a ha => k_m_token n (d + 1) _ _ _ _ _ ha) (fun q1 _ h => ?_)
  cases h
  exact bfr_ret 4 (fun _ _ => rfl)
set_option maxRecDepth 100000 in
theorem k_m_scan_b168 (n d : Nat) (q : (Int32 × bS)) (x1 : Int32) (x2 : Int32) (x3 : Int32) (s1 : Int32) (o0 : Option Value) (o4 : Option Value) (o5 : Option Value) (σ : bS) (h : m_scan_b168 n x1 x2 x3 s1 σ = some q) : bfr MT (d + 2) M_X12_scan 168 [o0, some (.int x1), some (.int x2), some (.int x3), o4, o5] [] [(.int s1), (.ref 0)] (mkM σ) (some (.int q.1), mkM q.2) := by
  unfold m_scan_b168 at h
  refine bfr_call 3 (d1 := d + 1) (M1 := M_X12_token) (vs := [(.ref 0), (.int s1), (.int x1), (.int x3)]) (w1 := mkM σ) (pc2 := 173) (L2 := [o0, some (.int x1), some (.int x2), some (.int x3), o4, o5]) (J2 := []) (rest := []) (fun _ => none) (fun a => mkM a) (fun _ _ => rfl) h (fun a ha => k_m_token n (d + 1) _ _ _ _ _ ha) (fun q2 _ h => ?_)
  cases h
  exact bfr_ret 2 (fun _ _ => rfl)
set_option maxRecDepth 100000 in
theorem k_m_scan_b159 (n d : Nat) (q : (Int32 × bS)) (x1 : Int32) (x2 : Int32) (x3 : Int32) (s1 : Int32) (o0 : Option Value) (o4 : Option Value) (o5 : Option Value) (σ : bS) (h : m_scan_b159 n x1 x2 x3 s1 σ = some q) : bfr MT (d + 2) M_X12_scan 159 [o0, some (.int x1), some (.int x2), some (.int x3), o4, o5] [] [(.int s1), (.ref 0)] (mkM σ) (some (.int q.1), mkM q.2) := by
  unfold m_scan_b159 at h
  refine bfr_br 2 (pc1 := 167) (L1 := [o0, some (.int x1), some (.int x2), some (.int x3), o4, o5]) (J1 := []) (st1 := [(.ref 0)]) (w1 := mkM σ) (pc2 := 163) (L2 := [o0, some (.int x1), some (.int x2), some (.int x3), o4, o5]) (J2 := []) (st2 := [(.ref 0)]) (w2 := mkM σ) (fun _ _ => rfl) h (fun h => ?_) (fun h => ?_)
  · refine bfr_run 1 168 [o0, some (.int x1), some (.int x2), some (.int x3), o4, o5] [] [(.int ci_1), (.ref 0)] (mkM σ) (fun _ _ => rfl) ?_
    exact k_m_scan_b168 n d q _ _ _ _ _ _ _ _ h
  · refine bfr_run 2 168 [o0, some (.int x1), some (.int x2), some (.int x3), o4, o5] [] [(.int ci_5), (.ref 0)] (mkM σ) (fun _ _ => rfl) ?_
    exact k_m_scan_b168 n d q _ _ _ _ _ _ _ _ h
set_option maxRecDepth 100000 in
theorem k_m_scan_b149 (n d : Nat) (r120 : Int32 → Int32 → Int32 → bS → Option (Int32 × bS)) (q : (Int32 × bS)) (hr120 : ∀ (x1 : Int32) (x2 : Int32) (x3 : Int32) (o4 : Option Value) (o5 : Option Value) (σ : bS), r120 x1 x2 x3 σ = some q → bfr MT (d + 2) M_X12_scan 120 [some (.ref 0), some (.int x1), some (.int x2), some (.int x3), o4, o5] [] [] (mkM σ) (some (.int q.1), mkM q.2)) (x1 : Int32) (x2 : Int32) (x3 : Int32) (o4 : Option Value) (o5 : Option Value) (σ : bS) (h : m_scan_b149 n r120 x1 x2 x3 σ = some q) : bfr MT (d + 2) M_X12_scan 149 [some (.ref 0), some (.int x1), some (.int x2), some (.int x3), o4, o5] [] [] (mkM σ) (some (.int q.1), mkM q.2) := by
  unfold m_scan_b149 at h
  refine bfr_run 1 152 [some (.ref 0), some (.int x1), some (.int (x2 + ci_1)), some (.int x3), o4, o5] [] [] (mkM σ) (fun _ _ => rfl) ?_
  refine bfr_run 1 120 [some (.ref 0), some (.int x1), some (.int (x2 + ci_1)), some (.int x3), o4, o5] [] [] (mkM σ) (fun _ _ => rfl) ?_
  exact hr120 _ _ _ _ _ _ h
set_option maxRecDepth 100000 in
theorem k_m_scan_b148 (n d : Nat) (r120 : Int32 → Int32 → Int32 → bS → Option (Int32 × bS)) (q : (Int32 × bS)) (hr120 : ∀ (x1 : Int32) (x2 : Int32) (x3 : Int32) (o4 : Option Value) (o5 : Option Value) (σ : bS), r120 x1 x2 x3 σ = some q → bfr MT (d + 2) M_X12_scan 120 [some (.ref 0), some (.int x1), some (.int x2), some (.int x3), o4, o5] [] [] (mkM σ) (some (.int q.1), mkM q.2)) (x1 : Int32) (x2 : Int32) (s0 : Int32) (o3 : Option Value) (o4 : Option Value) (o5 : Option Value) (σ : bS) (h : m_scan_b148 n r120 x1 x2 s0 σ = some q) : bfr MT (d + 2) M_X12_scan 148 [some (.ref 0), some (.int x1), some (.int x2), o3, o4, o5] [] [(.int s0)] (mkM σ) (some (.int q.1), mkM q.2) := by
  unfold m_scan_b148 at h
  refine bfr_run 1 149 [some (.ref 0), some (.int x1), some (.int x2), some (.int s0), o4, o5] [] [] (mkM σ) (fun _ _ => rfl) ?_
  exact k_m_scan_b149 n d _ q hr120 _ _ _ _ _ _ h
set_option maxRecDepth 100000 in
theorem k_m_scan_b131 (n d : Nat) (r120 : Int32 → Int32 → Int32 → bS → Option (Int32 × bS)) (q : (Int32 × bS)) (hr120 : ∀ (x1 : Int32) (x2 : Int32) (x3 : Int32) (o4 : Option Value) (o5 : Option Value) (σ : bS), r120 x1 x2 x3 σ = some q → bfr MT (d + 2) M_X12_scan 120 [some (.ref 0), some (.int x1), some (.int x2), some (.int x3), o4, o5] [] [] (mkM σ) (some (.int q.1), mkM q.2)) (x1 : Int32) (x2 : Int32) (x3 : Int32) (s0 : Int32) (o4 : Option Value) (o5 : Option Value) (σ : bS) (h : m_scan_b131 n r120 x1 x2 x3 s0 σ = some q) : bfr MT (d + 2) M_X12_scan 131 [some (.ref 0), some (.int x1), some (.int x2), some (.int x3), o4, o5] [] [(.int s0)] (mkM σ) (some (.int q.1), mkM q.2) := by
  unfold m_scan_b131 at h
  refine bfr_br 2 (pc1 := 149) (L1 := [some (.ref 0), some (.int x1), some (.int x2), some (.int x3), o4, o5]) (J1 := []) (st1 := []) (w1 := mkM σ) (pc2 := 135) (L2 := [some (.ref 0), some (.int x1), some (.int x2), some (.int x3), o4, o5]) (J2 := []) (st2 := []) (w2 := mkM σ) (fun _ _ => rfl) h (fun h => ?_) (fun h => ?_)
  · exact k_m_scan_b149 n d _ q hr120 _ _ _ _ _ _ h
  · refine bfr_call 6 (d1 := d + 1) (M1 := M_X12_byteAt) (vs := [(.ref 0), (.int x2)]) (w1 := mkM σ) (pc2 := 144) (L2 := [some (.ref 0), some (.int x1), some (.int x2), some (.int x3), o4, o5]) (J2 := []) (rest := [(.int (cb_10 * x3))]) (fun a => some (.int a.1)) (fun a => mkM a.2) (fun _ _ => rfl) h (fun a ha => k_m_byteAt n (d + 1) _ _ _ ha) (fun q3 _ h => ?_)
    refine bfr_run 3 148 [some (.ref 0), some (.int x1), some (.int x2), some (.int x3), o4, o5] [] [(.int (((cb_10 * x3) + q3.1) - cb_48))] (mkM q3.2) (fun _ _ => rfl) ?_
    exact k_m_scan_b148 n d _ q hr120 _ _ _ _ _ _ _ h
set_option maxRecDepth 100000 in
theorem k_m_scan_b120 (n d : Nat) (q : (Int32 × bS)) : ∀ (k : Nat) (x1 : Int32) (x2 : Int32) (x3 : Int32) (o4 : Option Value) (o5 : Option Value) (σ : bS), m_scan_b120 n k x1 x2 x3 σ = some q → bfr MT (d + 2) M_X12_scan 120 [some (.ref 0), some (.int x1), some (.int x2), some (.int x3), o4, o5] [] [] (mkM σ) (some (.int q.1), mkM q.2) := by
  intro k
  induction k with
  | zero => intro x1 x2 x3 o4 o5 σ h; exact bno h
  | succ k ih =>
    intro x1 x2 x3 o4 o5 σ h
    unfold m_scan_b120 at h
    refine bfr_call 3 (d1 := d + 1) (M1 := M_X12_isDigit) (vs := [(.ref 0), (.int x2)]) (w1 := mkM σ) (pc2 := 125) (L2 := [some (.ref 0), some (.int x1), some (.int x2), some (.int x3), o4, o5]) (J2 := []) (rest := []) (fun a => some (.int a.1)) (fun a => mkM a.2) (fun _ _ => rfl) h (fun a ha => k_m_isDigit n (d + 0) _ _ _ ha) (fun q4 _ h => ?_)
    refine bfr_br 1 (pc1 := 155) (L1 := [some (.ref 0), some (.int x1), some (.int x2), some (.int x3), o4, o5]) (J1 := []) (st1 := []) (w1 := mkM q4.2) (pc2 := 128) (L2 := [some (.ref 0), some (.int x1), some (.int x2), some (.int x3), o4, o5]) (J2 := []) (st2 := []) (w2 := mkM q4.2) (fun _ _ => rfl) h (fun h => ?_) (fun h => ?_)
    · refine bfr_run 4 159 [some (.ref 0), some (.int x1), some (.int x2), some (.int x3), o4, o5] [] [(.int (x2 - x1)), (.ref 0)] (mkM q4.2) (fun _ _ => rfl) ?_
      exact k_m_scan_b159 n d q _ _ _ _ _ _ _ _ h
    · refine bfr_run 3 131 [some (.ref 0), some (.int x1), some (.int x2), some (.int x3), o4, o5] [] [(.int (x2 - x1))] (mkM q4.2) (fun _ _ => rfl) ?_
      exact k_m_scan_b131 n d _ q (ih) _ _ _ _ _ _ _ h
set_option maxRecDepth 100000 in
theorem k_m_scan_b102 (n d : Nat) (q : (Int32 × bS)) (x1 : Int32) (x2 : Int32) (x5 : Int32) (s1 : Int32) (o0 : Option Value) (j3 : Int64) (σ : bS) (h : m_scan_b102 n x1 x2 x5 s1 σ = some q) : bfr MT (d + 2) M_X12_scan 102 [o0, some (.int x1), some (.int x2), none, none, some (.int x5)] [(3, j3)] [(.int s1), (.ref 0)] (mkM σ) (some (.int q.1), mkM q.2) := by
  unfold m_scan_b102 at h
  refine bfr_call 3 (d1 := d + 1) (M1 := M_X12_token) (vs := [(.ref 0), (.int s1), (.int x1), (.int x5)]) (w1 := mkM σ) (pc2 := 108) (L2 := [o0, some (.int x1), some (.int x2), none, none, some (.int x5)]) (J2 := [(3, j3)]) (rest := []) (fun _ => none) (fun a => mkM a) (fun _ _ => rfl) h (fun a ha => k_m_token n (d + 1) _ _ _ _ _ ha) (fun q5 _ h => ?_)
  cases h
  exact bfr_ret 2 (fun _ _ => rfl)
set_option maxRecDepth 100000 in
theorem k_m_scan_b83 (n d : Nat) (q : (Int32 × bS)) (x1 : Int32) (x2 : Int32) (x5 : Int32) (s1 : Int32) (o0 : Option Value) (j3 : Int64) (σ : bS) (h : m_scan_b83 n x1 x2 x5 s1 σ = some q) : bfr MT (d + 2) M_X12_scan 83 [o0, some (.int x1), some (.int x2), none, none, some (.int x5)] [(3, j3)] [(.int s1), (.ref 0)] (mkM σ) (some (.int q.1), mkM q.2) := by
  unfold m_scan_b83 at h
  refine bfr_br 2 (pc1 := 92) (L1 := [o0, some (.int x1), some (.int x2), none, none, some (.int x5)]) (J1 := [(3, j3)]) (st1 := [(.ref 0)]) (w1 := mkM σ) (pc2 := 88) (L2 := [o0, some (.int x1), some (.int x2), none, none, some (.int x5)]) (J2 := [(3, j3)]) (st2 := [(.ref 0)]) (w2 := mkM σ) (fun _ _ => rfl) h (fun h => ?_) (fun h => ?_)
  · refine bfr_br 2 (pc1 := 101) (L1 := [o0, some (.int x1), some (.int x2), none, none, some (.int x5)]) (J1 := [(3, j3)]) (st1 := [(.ref 0)]) (w1 := mkM σ) (pc2 := 97) (L2 := [o0, some (.int x1), some (.int x2), none, none, some (.int x5)]) (J2 := [(3, j3)]) (st2 := [(.ref 0)]) (w2 := mkM σ) (fun _ _ => rfl) h (fun h => ?_) (fun h => ?_)
    · refine bfr_run 1 102 [o0, some (.int x1), some (.int x2), none, none, some (.int x5)] [(3, j3)] [(.int ci_0), (.ref 0)] (mkM σ) (fun _ _ => rfl) ?_
      exact k_m_scan_b102 n d q _ _ _ _ _ _ _ h
    · refine bfr_run 2 102 [o0, some (.int x1), some (.int x2), none, none, some (.int x5)] [(3, j3)] [(.int ci_3), (.ref 0)] (mkM σ) (fun _ _ => rfl) ?_
      exact k_m_scan_b102 n d q _ _ _ _ _ _ _ h
  · refine bfr_run 2 102 [o0, some (.int x1), some (.int x2), none, none, some (.int x5)] [(3, j3)] [(.int ci_5), (.ref 0)] (mkM σ) (fun _ _ => rfl) ?_
    exact k_m_scan_b102 n d q _ _ _ _ _ _ _ h
set_option maxRecDepth 100000 in
theorem k_m_scan_b67 (n d : Nat) (q : (Int32 × bS)) (x1 : Int32) (x2 : Int32) (x3 : Int64) (s0 : Int32) (o5 : Option Value) (σ : bS) (h : m_scan_b67 n x1 x2 x3 s0 σ = some q) : bfr MT (d + 2) M_X12_scan 67 [some (.ref 0), some (.int x1), some (.int x2), none, none, o5] [(3, x3)] [(.int s0)] (mkM σ) (some (.int q.1), mkM q.2) := by
  unfold m_scan_b67 at h
  refine bfr_run 6 78 [some (.ref 0), some (.int x1), some (.int x2), none, none, some (.int s0)] [(3, x3)] [(.long x3), (.int (sI σ 0 2)), (.ref 5)] (mkM σ) (fun _ _ => rfl) ?_
  refine bfr_in (i := (sI σ 0 2)) (m := 2001) 1 (pc1 := 79) (L1 := [some (.ref 0), some (.int x1), some (.int x2), none, none, some (.int s0)]) (J1 := [(3, x3)]) (st1 := []) (w1 := ((mkM σ).set 5 (.inr (.inl (2001, vp_updL (σ.2.2 5) ((sI σ 0 2)).toNatClampNeg x3))))) (fun _ _ => rfl) h (fun h => ?_)
  rw [mkM_A5]
  refine bfr_run 4 83 [some (.ref 0), some (.int x1), some (.int x2), none, none, some (.int s0)] [(3, x3)] [(.int (x2 - x1)), (.ref 0)] (mkM (uJ σ 5 (sI σ 0 2) x3)) (fun _ _ => rfl) ?_
  exact k_m_scan_b83 n d q _ _ _ _ _ _ _ h
set_option maxRecDepth 100000 in
theorem k_m_scan_b54 (n d : Nat) (q : (Int32 × bS)) (x1 : Int32) (x2 : Int32) (x3 : Int64) (s0 : Int32) (o5 : Option Value) (σ : bS) (h : m_scan_b54 n x1 x2 x3 s0 σ = some q) : bfr MT (d + 2) M_X12_scan 54 [some (.ref 0), some (.int x1), some (.int x2), none, none, o5] [(3, x3)] [(.int s0)] (mkM σ) (some (.int q.1), mkM q.2) := by
  unfold m_scan_b54 at h
  refine bfr_br 2 (pc1 := 63) (L1 := [some (.ref 0), some (.int x1), some (.int x2), none, none, o5]) (J1 := [(3, x3)]) (st1 := []) (w1 := mkM σ) (pc2 := 59) (L2 := [some (.ref 0), some (.int x1), some (.int x2), none, none, o5]) (J2 := [(3, x3)]) (st2 := []) (w2 := mkM σ) (fun _ _ => rfl) h (fun h => ?_) (fun h => ?_)
  · refine bfr_call 2 (d1 := d + 1) (M1 := M_X12_wordOf) (vs := [(.long x3)]) (w1 := mkM σ) (pc2 := 67) (L2 := [some (.ref 0), some (.int x1), some (.int x2), none, none, o5]) (J2 := [(3, x3)]) (rest := []) (fun a => some (.int a.1)) (fun a => mkM a.2) (fun _ _ => rfl) h (fun a ha => k_m_wordOf n (d + 1) _ _ _ ha) (fun q6 _ h => ?_)
    exact k_m_scan_b67 n d q _ _ _ _ _ _ h
  · refine bfr_run 2 67 [some (.ref 0), some (.int x1), some (.int x2), none, none, o5] [(3, x3)] [(.int ci_m1)] (mkM σ) (fun _ _ => rfl) ?_
    exact k_m_scan_b67 n d q _ _ _ _ _ _ h
set_option maxRecDepth 100000 in
theorem k_m_scan_b45 (n d : Nat) (r12 : Int32 → Int32 → Int64 → bS → Option (Int32 × bS)) (q : (Int32 × bS)) (hr12 : ∀ (x1 : Int32) (x2 : Int32) (x3 : Int64) (o5 : Option Value) (σ : bS), r12 x1 x2 x3 σ = some q → bfr MT (d + 2) M_X12_scan 12 [some (.ref 0), some (.int x1), some (.int x2), none, none, o5] [(3, x3)] [] (mkM σ) (some (.int q.1), mkM q.2)) (x1 : Int32) (x2 : Int32) (x3 : Int64) (o5 : Option Value) (σ : bS) (h : m_scan_b45 n r12 x1 x2 x3 σ = some q) : bfr MT (d + 2) M_X12_scan 45 [some (.ref 0), some (.int x1), some (.int x2), none, none, o5] [(3, x3)] [] (mkM σ) (some (.int q.1), mkM q.2) := by
  unfold m_scan_b45 at h
  refine bfr_run 1 48 [some (.ref 0), some (.int x1), some (.int (x2 + ci_1)), none, none, o5] [(3, x3)] [] (mkM σ) (fun _ _ => rfl) ?_
  refine bfr_run 1 12 [some (.ref 0), some (.int x1), some (.int (x2 + ci_1)), none, none, o5] [(3, x3)] [] (mkM σ) (fun _ _ => rfl) ?_
  exact hr12 _ _ _ _ _ h
set_option maxRecDepth 100000 in
theorem k_m_scan_b23 (n d : Nat) (r12 : Int32 → Int32 → Int64 → bS → Option (Int32 × bS)) (q : (Int32 × bS)) (hr12 : ∀ (x1 : Int32) (x2 : Int32) (x3 : Int64) (o5 : Option Value) (σ : bS), r12 x1 x2 x3 σ = some q → bfr MT (d + 2) M_X12_scan 12 [some (.ref 0), some (.int x1), some (.int x2), none, none, o5] [(3, x3)] [] (mkM σ) (some (.int q.1), mkM q.2)) (x1 : Int32) (x2 : Int32) (x3 : Int64) (s0 : Int32) (o5 : Option Value) (σ : bS) (h : m_scan_b23 n r12 x1 x2 x3 s0 σ = some q) : bfr MT (d + 2) M_X12_scan 23 [some (.ref 0), some (.int x1), some (.int x2), none, none, o5] [(3, x3)] [(.int s0)] (mkM σ) (some (.int q.1), mkM q.2) := by
  unfold m_scan_b23 at h
  refine bfr_br 2 (pc1 := 45) (L1 := [some (.ref 0), some (.int x1), some (.int x2), none, none, o5]) (J1 := [(3, x3)]) (st1 := []) (w1 := mkM σ) (pc2 := 28) (L2 := [some (.ref 0), some (.int x1), some (.int x2), none, none, o5]) (J2 := [(3, x3)]) (st2 := []) (w2 := mkM σ) (fun _ _ => rfl) h (fun h => ?_) (fun h => ?_)
  · exact k_m_scan_b45 n d _ q hr12 _ _ _ _ _ h
  · refine bfr_call 6 (d1 := d + 1) (M1 := M_X12_byteAt) (vs := [(.ref 0), (.int x2)]) (w1 := mkM σ) (pc2 := 38) (L2 := [some (.ref 0), some (.int x1), some (.int x2), none, none, o5]) (J2 := [(3, x3)]) (rest := [(.long (x3 * (27 : Int64)))]) (fun a => some (.int a.1)) (fun a => mkM a.2) (fun _ _ => rfl) h (fun a ha => k_m_byteAt n (d + 1) _ _ _ ha) (fun q7 _ h => ?_)
    refine bfr_run 5 45 [some (.ref 0), some (.int x1), some (.int x2), none, none, o5] [(3, (((x3 * (27 : Int64)) + (q7.1).toInt64) - (96 : Int64)))] [] (mkM q7.2) (fun _ _ => rfl) ?_
    exact k_m_scan_b45 n d _ q hr12 _ _ _ _ _ h
set_option maxRecDepth 100000 in
theorem k_m_scan_b12 (n d : Nat) (q : (Int32 × bS)) : ∀ (k : Nat) (x1 : Int32) (x2 : Int32) (x3 : Int64) (o5 : Option Value) (σ : bS), m_scan_b12 n k x1 x2 x3 σ = some q → bfr MT (d + 2) M_X12_scan 12 [some (.ref 0), some (.int x1), some (.int x2), none, none, o5] [(3, x3)] [] (mkM σ) (some (.int q.1), mkM q.2) := by
  intro k
  induction k with
  | zero => intro x1 x2 x3 o5 σ h; exact bno h
  | succ k ih =>
    intro x1 x2 x3 o5 σ h
    unfold m_scan_b12 at h
    refine bfr_call 3 (d1 := d + 1) (M1 := M_X12_isLetter) (vs := [(.ref 0), (.int x2)]) (w1 := mkM σ) (pc2 := 17) (L2 := [some (.ref 0), some (.int x1), some (.int x2), none, none, o5]) (J2 := [(3, x3)]) (rest := []) (fun a => some (.int a.1)) (fun a => mkM a.2) (fun _ _ => rfl) h (fun a ha => k_m_isLetter n (d + 0) _ _ _ ha) (fun q8 _ h => ?_)
    refine bfr_br 1 (pc1 := 51) (L1 := [some (.ref 0), some (.int x1), some (.int x2), none, none, o5]) (J1 := [(3, x3)]) (st1 := []) (w1 := mkM q8.2) (pc2 := 20) (L2 := [some (.ref 0), some (.int x1), some (.int x2), none, none, o5]) (J2 := [(3, x3)]) (st2 := []) (w2 := mkM q8.2) (fun _ _ => rfl) h (fun h => ?_) (fun h => ?_)
    · refine bfr_run 3 54 [some (.ref 0), some (.int x1), some (.int x2), none, none, o5] [(3, x3)] [(.int (x2 - x1))] (mkM q8.2) (fun _ _ => rfl) ?_
      exact k_m_scan_b54 n d q _ _ _ _ _ _ h
    · refine bfr_run 3 23 [some (.ref 0), some (.int x1), some (.int x2), none, none, o5] [(3, x3)] [(.int (x2 - x1))] (mkM q8.2) (fun _ _ => rfl) ?_
      exact k_m_scan_b23 n d _ q (ih) _ _ _ _ _ _ h
set_option maxRecDepth 100000 in
theorem k_m_scan (n d : Nat) (q : (Int32 × bS)) (x1 : Int32) (σ : bS) (h : m_scan n x1 σ = some q) : bfr MT (d + 2) M_X12_scan 0 [some (.ref 0), some (.int x1), none, none, none, none] [] [] (mkM σ) (some (.int q.1), mkM q.2) := by
  unfold m_scan at h
  refine bfr_call 5 (d1 := d + 1) (M1 := M_X12_isLetter) (vs := [(.ref 0), (.int x1)]) (w1 := mkM σ) (pc2 := 7) (L2 := [some (.ref 0), some (.int x1), some (.int x1), none, none, none]) (J2 := []) (rest := []) (fun a => some (.int a.1)) (fun a => mkM a.2) (fun _ _ => rfl) h (fun a ha => k_m_isLetter n (d + 0) _ _ _ ha) (fun q9 _ h => ?_)
  refine bfr_br 1 (pc1 := 110) (L1 := [some (.ref 0), some (.int x1), some (.int x1), none, none, none]) (J1 := []) (st1 := []) (w1 := mkM q9.2) (pc2 := 10) (L2 := [some (.ref 0), some (.int x1), some (.int x1), none, none, none]) (J2 := []) (st2 := []) (w2 := mkM q9.2) (fun _ _ => rfl) h (fun h => ?_) (fun h => ?_)
  · refine bfr_call 3 (d1 := d + 1) (M1 := M_X12_isDigit) (vs := [(.ref 0), (.int x1)]) (w1 := mkM q9.2) (pc2 := 115) (L2 := [some (.ref 0), some (.int x1), some (.int x1), none, none, none]) (J2 := []) (rest := []) (fun a => some (.int a.1)) (fun a => mkM a.2) (fun _ _ => rfl) h (fun a ha => k_m_isDigit n (d + 0) _ _ _ ha) (fun q10 _ h => ?_)
    refine bfr_br 1 (pc1 := 175) (L1 := [some (.ref 0), some (.int x1), some (.int x1), none, none, none]) (J1 := []) (st1 := []) (w1 := mkM q10.2) (pc2 := 118) (L2 := [some (.ref 0), some (.int x1), some (.int x1), none, none, none]) (J2 := []) (st2 := []) (w2 := mkM q10.2) (fun _ _ => rfl) h (fun h => ?_) (fun h => ?_)
    · refine bfr_call 3 (d1 := d + 1) (M1 := M_X12_signAt) (vs := [(.ref 0), (.int x1)]) (w1 := mkM q10.2) (pc2 := 180) (L2 := [some (.ref 0), some (.int x1), some (.int x1), none, none, none]) (J2 := []) (rest := []) (fun a => some (.int a.1)) (fun a => mkM a.2) (fun _ _ => rfl) h (fun a ha => k_m_signAt n (d + 0) _ _ _ ha) (fun q11 _ h => ?_)
      refine bfr_br 4 (pc1 := 186) (L1 := [some (.ref 0), some (.int x1), some (.int x1), some (.int q11.1), none, none]) (J1 := []) (st1 := [(.ref 0)]) (w1 := mkM q11.2) (pc2 := 190) (L2 := [some (.ref 0), some (.int x1), some (.int x1), some (.int q11.1), none, none]) (J2 := []) (st2 := [(.ref 0)]) (w2 := mkM q11.2) (fun _ _ => rfl) h (fun h => ?_) (fun h => ?_)
      · refine bfr_run 2 191 [some (.ref 0), some (.int x1), some (.int x1), some (.int q11.1), none, none] [] [(.int ci_5), (.ref 0)] (mkM q11.2) (fun _ _ => rfl) ?_
        exact k_m_scan_b191 n d q _ _ _ _ _ _ _ _ h
      · refine bfr_run 1 191 [some (.ref 0), some (.int x1), some (.int x1), some (.int q11.1), none, none] [] [(.int ci_2), (.ref 0)] (mkM q11.2) (fun _ _ => rfl) ?_
        exact k_m_scan_b191 n d q _ _ _ _ _ _ _ _ h
    · refine bfr_run 2 120 [some (.ref 0), some (.int x1), some (.int x1), some (.int ci_0), none, none] [] [] (mkM q10.2) (fun _ _ => rfl) ?_
      exact k_m_scan_b120 n d q _ _ _ _ _ _ _ h
  · refine bfr_run 2 12 [some (.ref 0), some (.int x1), some (.int x1), none, none, none] [(3, (0 : Int64))] [] (mkM q9.2) (fun _ _ => rfl) ?_
    exact k_m_scan_b12 n d q _ _ _ _ _ _ h
set_option maxRecDepth 100000 in
theorem k_m_scanAll_b101 (n d : Nat) (q : bS) (o0 : Option Value) (o1 : Option Value) (o2 : Option Value) (o3 : Option Value) (σ : bS) (h : m_scanAll_b101 n σ = some q) : bfr MT (d + 3) M_X12_scanAll 101 [o0, o1, o2, o3] [] [] (mkM σ) (none, mkM q) := by
  unfold m_scanAll_b101 at h
  cases h
  exact bfr_ret 1 (fun _ _ => rfl)
set_option maxRecDepth 100000 in
theorem k_m_scanAll_b87 (n d : Nat) (q : bS) (x2 : Int32) (o1 : Option Value) (o3 : Option Value) (σ : bS) (h : m_scanAll_b87 n x2 σ = some q) : bfr MT (d + 3) M_X12_scanAll 87 [some (.ref 0), o1, some (.int x2), o3] [] [] (mkM σ) (none, mkM q) := by
  unfold m_scanAll_b87 at h
  refine bfr_br 2 (pc1 := 101) (L1 := [some (.ref 0), o1, some (.int x2), o3]) (J1 := []) (st1 := []) (w1 := mkM σ) (pc2 := 91) (L2 := [some (.ref 0), o1, some (.int x2), o3]) (J2 := []) (st2 := []) (w2 := mkM σ) (fun _ _ => rfl) h (fun h => ?_) (fun h => ?_)
  · exact k_m_scanAll_b101 n d q _ _ _ _ _ h
  · refine bfr_call 6 (d1 := d + 2) (M1 := M_X12_token) (vs := [(.ref 0), (.int ci_4), (.int (sI σ 0 0)), (.int ci_0)]) (w1 := mkM σ) (pc2 := 101) (L2 := [some (.ref 0), o1, some (.int x2), o3]) (J2 := []) (rest := []) (fun _ => none) (fun a => mkM a) (fun _ _ => rfl) h (fun a ha => k_m_token n (d + 2) _ _ _ _ _ ha) (fun q1 _ h => ?_)
    exact k_m_scanAll_b101 n d q _ _ _ _ _ h
set_option maxRecDepth 100000 in
theorem k_m_scanAll_b83 (n d : Nat) (r9 : Int32 → Int32 → bS → Option bS) (q : bS) (hr9 : ∀ (x1 : Int32) (x2 : Int32) (o3 : Option Value) (σ : bS), r9 x1 x2 σ = some q → bfr MT (d + 3) M_X12_scanAll 9 [some (.ref 0), some (.int x1), some (.int x2), o3] [] [] (mkM σ) (none, mkM q)) (x1 : Int32) (s0 : Int32) (o2 : Option Value) (o3 : Option Value) (σ : bS) (h : m_scanAll_b83 n r9 x1 s0 σ = some q) : bfr MT (d + 3) M_X12_scanAll 83 [some (.ref 0), some (.int x1), o2, o3] [] [(.int s0)] (mkM σ) (none, mkM q) := by
  unfold m_scanAll_b83 at h
  refine bfr_run 2 9 [some (.ref 0), some (.int x1), some (.int s0), o3] [] [] (mkM σ) (fun _ _ => rfl) ?_
  exact hr9 _ _ _ _ h
set_option maxRecDepth 100000 in
theorem k_m_scanAll_b73 (n d : Nat) (r9 : Int32 → Int32 → bS → Option bS) (q : bS) (hr9 : ∀ (x1 : Int32) (x2 : Int32) (o3 : Option Value) (σ : bS), r9 x1 x2 σ = some q → bfr MT (d + 3) M_X12_scanAll 9 [some (.ref 0), some (.int x1), some (.int x2), o3] [] [] (mkM σ) (none, mkM q)) (x1 : Int32) (s1 : Int32) (o2 : Option Value) (o3 : Option Value) (σ : bS) (h : m_scanAll_b73 n r9 x1 s1 σ = some q) : bfr MT (d + 3) M_X12_scanAll 73 [some (.ref 0), some (.int x1), o2, o3] [] [(.int s1), (.ref 2)] (mkM σ) (none, mkM q) := by
  unfold m_scanAll_b73 at h
  refine bfr_in (i := s1) (m := 2001) 1 (pc1 := 74) (L1 := [some (.ref 0), some (.int x1), o2, o3]) (J1 := []) (st1 := [(.int (sA σ 2 s1))]) (w1 := mkM σ) (fun _ _ => rfl) h (fun h => ?_)
  refine bfr_br 2 (pc1 := 82) (L1 := [some (.ref 0), some (.int x1), o2, o3]) (J1 := []) (st1 := []) (w1 := mkM σ) (pc2 := 78) (L2 := [some (.ref 0), some (.int x1), o2, o3]) (J2 := []) (st2 := []) (w2 := mkM σ) (fun _ _ => rfl) h (fun h => ?_) (fun h => ?_)
  · refine bfr_run 1 83 [some (.ref 0), some (.int x1), o2, o3] [] [(.int ci_0)] (mkM σ) (fun _ _ => rfl) ?_
    exact k_m_scanAll_b83 n d _ q hr9 _ _ _ _ _ h
  · refine bfr_run 2 83 [some (.ref 0), some (.int x1), o2, o3] [] [(.int ci_1)] (mkM σ) (fun _ _ => rfl) ?_
    exact k_m_scanAll_b83 n d _ q hr9 _ _ _ _ _ h
set_option maxRecDepth 100000 in
theorem k_m_scanAll_b51 (n d : Nat) (r9 : Int32 → Int32 → bS → Option bS) (q : bS) (hr9 : ∀ (x1 : Int32) (x2 : Int32) (o3 : Option Value) (σ : bS), r9 x1 x2 σ = some q → bfr MT (d + 3) M_X12_scanAll 9 [some (.ref 0), some (.int x1), some (.int x2), o3] [] [] (mkM σ) (none, mkM q)) (x1 : Int32) (x2 : Int32) (o3 : Option Value) (σ : bS) (h : m_scanAll_b51 n r9 x1 x2 σ = some q) : bfr MT (d + 3) M_X12_scanAll 51 [some (.ref 0), some (.int x1), some (.int x2), o3] [] [] (mkM σ) (none, mkM q) := by
  unfold m_scanAll_b51 at h
  refine bfr_run 1 54 [some (.ref 0), some (.int (x1 + ci_1)), some (.int x2), o3] [] [] (mkM σ) (fun _ _ => rfl) ?_
  refine bfr_run 1 9 [some (.ref 0), some (.int (x1 + ci_1)), some (.int x2), o3] [] [] (mkM σ) (fun _ _ => rfl) ?_
  exact hr9 _ _ _ _ h
set_option maxRecDepth 100000 in
theorem k_m_scanAll_b9 (n d : Nat) (q : bS) : ∀ (k : Nat) (x1 : Int32) (x2 : Int32) (o3 : Option Value) (σ : bS), m_scanAll_b9 n k x1 x2 σ = some q → bfr MT (d + 3) M_X12_scanAll 9 [some (.ref 0), some (.int x1), some (.int x2), o3] [] [] (mkM σ) (none, mkM q) := by
  intro k
  induction k with
  | zero => intro x1 x2 o3 σ h; exact bno h
  | succ k ih =>
    intro x1 x2 o3 σ h
    unfold m_scanAll_b9 at h
    refine bfr_br 4 (pc1 := 87) (L1 := [some (.ref 0), some (.int x1), some (.int x2), o3]) (J1 := []) (st1 := []) (w1 := mkM σ) (pc2 := 17) (L2 := [some (.ref 0), some (.int x1), some (.int x2), o3]) (J2 := []) (st2 := []) (w2 := mkM σ) (fun _ _ => rfl) h (fun h => ?_) (fun h => ?_)
    · exact k_m_scanAll_b87 n d q _ _ _ _ h
    · refine bfr_br 2 (pc1 := 87) (L1 := [some (.ref 0), some (.int x1), some (.int x2), o3]) (J1 := []) (st1 := []) (w1 := mkM σ) (pc2 := 21) (L2 := [some (.ref 0), some (.int x1), some (.int x2), o3]) (J2 := []) (st2 := []) (w2 := mkM σ) (fun _ _ => rfl) h (fun h => ?_) (fun h => ?_)
      · exact k_m_scanAll_b87 n d q _ _ _ _ h
      · refine bfr_call 3 (d1 := d + 2) (M1 := M_X12_byteAt) (vs := [(.ref 0), (.int x1)]) (w1 := mkM σ) (pc2 := 26) (L2 := [some (.ref 0), some (.int x1), some (.int x2), o3]) (J2 := []) (rest := []) (fun a => some (.int a.1)) (fun a => mkM a.2) (fun _ _ => rfl) h (fun a ha => k_m_byteAt n (d + 2) _ _ _ ha) (fun q2 _ h => ?_)
        refine bfr_br 4 (pc1 := 51) (L1 := [some (.ref 0), some (.int x1), some (.int x2), some (.int q2.1)]) (J1 := []) (st1 := []) (w1 := mkM q2.2) (pc2 := 33) (L2 := [some (.ref 0), some (.int x1), some (.int x2), some (.int q2.1)]) (J2 := []) (st2 := []) (w2 := mkM q2.2) (fun _ _ => rfl) h (fun h => ?_) (fun h => ?_)
        · exact k_m_scanAll_b51 n d _ q (ih) _ _ _ _ h
        · refine bfr_br 3 (pc1 := 51) (L1 := [some (.ref 0), some (.int x1), some (.int x2), some (.int q2.1)]) (J1 := []) (st1 := []) (w1 := mkM q2.2) (pc2 := 39) (L2 := [some (.ref 0), some (.int x1), some (.int x2), some (.int q2.1)]) (J2 := []) (st2 := []) (w2 := mkM q2.2) (fun _ _ => rfl) h (fun h => ?_) (fun h => ?_)
          · exact k_m_scanAll_b51 n d _ q (ih) _ _ _ _ h
          · refine bfr_br 3 (pc1 := 51) (L1 := [some (.ref 0), some (.int x1), some (.int x2), some (.int q2.1)]) (J1 := []) (st1 := []) (w1 := mkM q2.2) (pc2 := 45) (L2 := [some (.ref 0), some (.int x1), some (.int x2), some (.int q2.1)]) (J2 := []) (st2 := []) (w2 := mkM q2.2) (fun _ _ => rfl) h (fun h => ?_) (fun h => ?_)
            · exact k_m_scanAll_b51 n d _ q (ih) _ _ _ _ h
            · refine bfr_br 3 (pc1 := 51) (L1 := [some (.ref 0), some (.int x1), some (.int x2), some (.int q2.1)]) (J1 := []) (st1 := []) (w1 := mkM q2.2) (pc2 := 57) (L2 := [some (.ref 0), some (.int x1), some (.int x2), some (.int q2.1)]) (J2 := []) (st2 := []) (w2 := mkM q2.2) (fun _ _ => rfl) h (fun h => ?_) (fun h => ?_)
              · exact k_m_scanAll_b51 n d _ q (ih) _ _ _ _ h
              · refine bfr_call 3 (d1 := d + 2) (M1 := M_X12_scan) (vs := [(.ref 0), (.int x1)]) (w1 := mkM q2.2) (pc2 := 62) (L2 := [some (.ref 0), some (.int x1), some (.int x2), some (.int q2.1)]) (J2 := []) (rest := []) (fun a => some (.int a.1)) (fun a => mkM a.2) (fun _ _ => rfl) h (fun a ha => k_m_scan n (d + 0) _ _ _ ha) (fun q3 _ h => ?_)
                refine bfr_run 6 72 [some (.ref 0), some (.int q3.1), some (.int x2), some (.int q2.1)] [] [(.int ci_1), (.int (sI q3.2 0 2)), (.ref 2)] (mkM q3.2) (fun _ _ => rfl) ?_
                refine bfr_run 1 73 [some (.ref 0), some (.int q3.1), some (.int x2), some (.int q2.1)] [] [(.int ((sI q3.2 0 2) - ci_1)), (.ref 2)] (mkM q3.2) (fun _ _ => rfl) ?_
                exact k_m_scanAll_b73 n d _ q (ih) _ _ _ _ _ h
set_option maxRecDepth 100000 in
theorem k_m_scanAll (n d : Nat) (q : bS) (σ : bS) (h : m_scanAll n σ = some q) : bfr MT (d + 3) M_X12_scanAll 0 [some (.ref 0), none, none, none] [] [] (mkM σ) (none, mkM q) := by
  unfold m_scanAll at h
  refine bfr_run 3 5 [some (.ref 0), none, none, none] [] [] ((mkM σ).set 0 (.inr (.inr (12, (mkM_0 σ).set 2 (.int ci_0))))) (fun _ _ => rfl) ?_
  rw [mkM_I0_2]
  refine bfr_run 4 9 [some (.ref 0), some (.int ci_0), some (.int ci_1), none] [] [] (mkM (uI σ 0 2 ci_0)) (fun _ _ => rfl) ?_
  exact k_m_scanAll_b9 n d q _ _ _ _ _ h
set_option maxRecDepth 100000 in
theorem k_m_wrong (n d : Nat) (q : (Int32 × bS)) (x1 : Int32) (σ : bS) (h : m_wrong n x1 σ = some q) : bfr MT (d + 0) M_X12_wrong 0 [some (.ref 0), some (.int x1)] [] [] (mkM σ) (some (.int q.1), mkM q.2) := by
  unfold m_wrong at h
  refine bfr_run 3 5 [some (.ref 0), some (.int x1)] [] [] ((mkM σ).set 0 (.inr (.inr (12, (mkM_0 σ).set 8 (.int x1))))) (fun _ _ => rfl) ?_
  rw [mkM_I0_8]
  refine bfr_in (i := (sI (uI σ 0 8 x1) 0 7)) (m := 2001) 6 (pc1 := 15) (L1 := [some (.ref 0), some (.int x1)]) (J1 := []) (st1 := [(.int (sA (uI σ 0 8 x1) 3 (sI (uI σ 0 8 x1) 0 7))), (.ref 0)]) (w1 := mkM (uI σ 0 8 x1)) (fun _ _ => rfl) h (fun h => ?_)
  refine bfr_run 1 18 [some (.ref 0), some (.int x1)] [] [] ((mkM (uI σ 0 8 x1)).set 0 (.inr (.inr (12, (mkM_0 (uI σ 0 8 x1)).set 9 (.int (sA (uI σ 0 8 x1) 3 (sI (uI σ 0 8 x1) 0 7))))))) (fun _ _ => rfl) ?_
  rw [mkM_I0_9]
  exact bfr_bz (mk := mkM) 2 (fun _ _ => rfl) h
set_option maxRecDepth 100000 in
theorem k_m_tells_b39 (n d : Nat) (q : bS) (x1 : Int32) (x3 : Int32) (o2 : Option Value) (σ : bS) (h : m_tells_b39 n x1 x3 σ = some q) : bfr MT (d + 0) M_X12_tells 39 [some (.ref 0), some (.int x1), o2, some (.int x3)] [] [] (mkM σ) (none, mkM q) := by
  unfold m_tells_b39 at h
  refine bfr_run 3 44 [some (.ref 0), some (.int x1), o2, some (.int x3)] [] [] ((mkM σ).set 0 (.inr (.inr (12, (mkM_0 σ).set 10 (.int x1))))) (fun _ _ => rfl) ?_
  rw [mkM_I0_10]
  refine bfr_run 3 49 [some (.ref 0), some (.int x1), o2, some (.int x3)] [] [] ((mkM (uI σ 0 10 x1)).set 0 (.inr (.inr (12, (mkM_0 (uI σ 0 10 x1)).set 11 (.int x3))))) (fun _ _ => rfl) ?_
  rw [mkM_I0_11]
  cases h
  exact bfr_ret 1 (fun _ _ => rfl)
set_option maxRecDepth 100000 in
theorem k_m_tells_b38 (n d : Nat) (q : bS) (o0 : Option Value) (o1 : Option Value) (o2 : Option Value) (o3 : Option Value) (σ : bS) (h : m_tells_b38 n σ = some q) : bfr MT (d + 0) M_X12_tells 38 [o0, o1, o2, o3] [] [] (mkM σ) (none, mkM q) := by
  unfold m_tells_b38 at h
  cases h
  exact bfr_ret 1 (fun _ _ => rfl)
set_option maxRecDepth 100000 in
theorem k_m_tells (n d : Nat) (q : bS) (x1 : Int32) (x2 : Int32) (σ : bS) (h : m_tells n x1 x2 σ = some q) : bfr MT (d + 0) M_X12_tells 0 [some (.ref 0), some (.int x1), some (.int x2), none] [] [] (mkM σ) (none, mkM q) := by
  unfold m_tells at h
  refine bfr_in (i := x2) (m := 2001) 4 (pc1 := 6) (L1 := [some (.ref 0), some (.int x1), some (.int x2), none]) (J1 := []) (st1 := [(.int (sA σ 3 x2))]) (w1 := mkM σ) (fun _ _ => rfl) h (fun h => ?_)
  refine bfr_br 4 (pc1 := 39) (L1 := [some (.ref 0), some (.int x1), some (.int x2), some (.int (sA σ 3 x2))]) (J1 := []) (st1 := []) (w1 := mkM σ) (pc2 := 14) (L2 := [some (.ref 0), some (.int x1), some (.int x2), some (.int (sA σ 3 x2))]) (J2 := []) (st2 := []) (w2 := mkM σ) (fun _ _ => rfl) h (fun h => ?_) (fun h => ?_)
  · exact k_m_tells_b39 n d q _ _ _ _ h
  · refine bfr_br 4 (pc1 := 38) (L1 := [some (.ref 0), some (.int x1), some (.int x2), some (.int (sA σ 3 x2))]) (J1 := []) (st1 := []) (w1 := mkM σ) (pc2 := 22) (L2 := [some (.ref 0), some (.int x1), some (.int x2), some (.int (sA σ 3 x2))]) (J2 := []) (st2 := []) (w2 := mkM σ) (fun _ _ => rfl) h (fun h => ?_) (fun h => ?_)
    · exact k_m_tells_b38 n d q _ _ _ _ _ h
    · refine bfr_br 4 (pc1 := 30) (L1 := [some (.ref 0), some (.int x1), some (.int x2), some (.int (sA σ 3 x2))]) (J1 := []) (st1 := []) (w1 := mkM σ) (pc2 := 39) (L2 := [some (.ref 0), some (.int x1), some (.int x2), some (.int (sA σ 3 x2))]) (J2 := []) (st2 := []) (w2 := mkM σ) (fun _ _ => rfl) h (fun h => ?_) (fun h => ?_)
      · refine bfr_br 4 (pc1 := 39) (L1 := [some (.ref 0), some (.int x1), some (.int x2), some (.int (sA σ 3 x2))]) (J1 := []) (st1 := []) (w1 := mkM σ) (pc2 := 38) (L2 := [some (.ref 0), some (.int x1), some (.int x2), some (.int (sA σ 3 x2))]) (J2 := []) (st2 := []) (w2 := mkM σ) (fun _ _ => rfl) h (fun h => ?_) (fun h => ?_)
        · exact k_m_tells_b39 n d q _ _ _ _ h
        · exact k_m_tells_b38 n d q _ _ _ _ _ h
      · exact k_m_tells_b39 n d q _ _ _ _ h
set_option maxRecDepth 100000 in
theorem k_m_pass (n d : Nat) (q : (Int32 × bS)) (σ : bS) (h : m_pass n σ = some q) : bfr MT (d + 1) M_X12_pass 0 [some (.ref 0)] [] [] (mkM σ) (some (.int q.1), mkM q.2) := by
  unfold m_pass at h
  refine bfr_br 4 (pc1 := 16) (L1 := [some (.ref 0)]) (J1 := []) (st1 := []) (w1 := mkM σ) (pc2 := 10) (L2 := [some (.ref 0)]) (J2 := []) (st2 := []) (w2 := mkM σ) (fun _ _ => rfl) h (fun h => ?_) (fun h => ?_)
  · refine bfr_run 6 26 [some (.ref 0)] [] [] ((mkM σ).set 0 (.inr (.inr (12, (mkM_0 σ).set 7 (.int ((sI σ 0 7) + ci_1)))))) (fun _ _ => rfl) ?_
    rw [mkM_I0_7]
    exact bfr_bz (mk := mkM) 2 (fun _ _ => rfl) h
  · refine bfr_call 3 (d1 := d + 0) (M1 := M_X12_wrong) (vs := [(.ref 0), (.int ci_2)]) (w1 := mkM σ) (pc2 := 15) (L2 := [some (.ref 0)]) (J2 := []) (rest := []) (fun a => some (.int a.1)) (fun a => mkM a.2) (fun _ _ => rfl) h (fun a ha => k_m_wrong n (d + 0) _ _ _ ha) (fun q1 _ h => ?_)
    exact bfr_bz (mk := mkM) 1 (fun _ _ => rfl) h
set_option maxRecDepth 100000 in
theorem k_m_isSign_b31 (n d : Nat) (q : (Int32 × bS)) (s0 : Int32) (o0 : Option Value) (o1 : Option Value) (σ : bS) (h : m_isSign_b31 n s0 σ = some q) : bfr MT (d + 0) M_X12_isSign 31 [o0, o1] [] [(.int s0)] (mkM σ) (some (.int q.1), mkM q.2) := by
  unfold m_isSign_b31 at h
  exact bfr_bz (mk := mkM) 1 (fun _ _ => rfl) h
set_option maxRecDepth 100000 in
theorem k_m_isSign_b30 (n d : Nat) (q : (Int32 × bS)) (o0 : Option Value) (o1 : Option Value) (σ : bS) (h : m_isSign_b30 n σ = some q) : bfr MT (d + 0) M_X12_isSign 30 [o0, o1] [] [] (mkM σ) (some (.int q.1), mkM q.2) := by
  unfold m_isSign_b30 at h
  refine bfr_run 1 31 [o0, o1] [] [(.int ci_0)] (mkM σ) (fun _ _ => rfl) ?_
  exact k_m_isSign_b31 n d q _ _ _ _ h
set_option maxRecDepth 100000 in
theorem k_m_isSign (n d : Nat) (q : (Int32 × bS)) (x1 : Int32) (σ : bS) (h : m_isSign n x1 σ = some q) : bfr MT (d + 0) M_X12_isSign 0 [some (.ref 0), some (.int x1)] [] [] (mkM σ) (some (.int q.1), mkM q.2) := by
  unfold m_isSign at h
  refine bfr_in (i := (sI σ 0 7)) (m := 2001) 5 (pc1 := 9) (L1 := [some (.ref 0), some (.int x1)]) (J1 := []) (st1 := [(.int (sA σ 2 (sI σ 0 7)))]) (w1 := mkM σ) (fun _ _ => rfl) h (fun h => ?_)
  refine bfr_br 2 (pc1 := 13) (L1 := [some (.ref 0), some (.int x1)]) (J1 := []) (st1 := []) (w1 := mkM σ) (pc2 := 30) (L2 := [some (.ref 0), some (.int x1)]) (J2 := []) (st2 := []) (w2 := mkM σ) (fun _ _ => rfl) h (fun h => ?_) (fun h => ?_)
  · refine bfr_in (i := (sI σ 0 7)) (m := 2001) 5 (pc1 := 22) (L1 := [some (.ref 0), some (.int x1)]) (J1 := []) (st1 := [(.int (sA σ 4 (sI σ 0 7)))]) (w1 := mkM σ) (fun _ _ => rfl) h (fun h => ?_)
    refine bfr_br 2 (pc1 := 26) (L1 := [some (.ref 0), some (.int x1)]) (J1 := []) (st1 := []) (w1 := mkM σ) (pc2 := 30) (L2 := [some (.ref 0), some (.int x1)]) (J2 := []) (st2 := []) (w2 := mkM σ) (fun _ _ => rfl) h (fun h => ?_) (fun h => ?_)
    · refine bfr_run 2 31 [some (.ref 0), some (.int x1)] [] [(.int ci_1)] (mkM σ) (fun _ _ => rfl) ?_
      exact k_m_isSign_b31 n d q _ _ _ _ h
    · exact k_m_isSign_b30 n d q _ _ _ h
  · exact k_m_isSign_b30 n d q _ _ _ h
set_option maxRecDepth 100000 in
theorem k_m_isWord_b31 (n d : Nat) (q : (Int32 × bS)) (s0 : Int32) (o0 : Option Value) (o1 : Option Value) (σ : bS) (h : m_isWord_b31 n s0 σ = some q) : bfr MT (d + 0) M_X12_isWord 31 [o0, o1] [] [(.int s0)] (mkM σ) (some (.int q.1), mkM q.2) := by
  unfold m_isWord_b31 at h
  exact bfr_bz (mk := mkM) 1 (fun _ _ => rfl) h
set_option maxRecDepth 100000 in
theorem k_m_isWord_b30 (n d : Nat) (q : (Int32 × bS)) (o0 : Option Value) (o1 : Option Value) (σ : bS) (h : m_isWord_b30 n σ = some q) : bfr MT (d + 0) M_X12_isWord 30 [o0, o1] [] [] (mkM σ) (some (.int q.1), mkM q.2) := by
  unfold m_isWord_b30 at h
  refine bfr_run 1 31 [o0, o1] [] [(.int ci_0)] (mkM σ) (fun _ _ => rfl) ?_
  exact k_m_isWord_b31 n d q _ _ _ _ h
set_option maxRecDepth 100000 in
theorem k_m_isWord (n d : Nat) (q : (Int32 × bS)) (x1 : Int32) (σ : bS) (h : m_isWord n x1 σ = some q) : bfr MT (d + 0) M_X12_isWord 0 [some (.ref 0), some (.int x1)] [] [] (mkM σ) (some (.int q.1), mkM q.2) := by
  unfold m_isWord at h
  refine bfr_in (i := (sI σ 0 7)) (m := 2001) 5 (pc1 := 9) (L1 := [some (.ref 0), some (.int x1)]) (J1 := []) (st1 := [(.int (sA σ 2 (sI σ 0 7)))]) (w1 := mkM σ) (fun _ _ => rfl) h (fun h => ?_)
  refine bfr_br 2 (pc1 := 13) (L1 := [some (.ref 0), some (.int x1)]) (J1 := []) (st1 := []) (w1 := mkM σ) (pc2 := 30) (L2 := [some (.ref 0), some (.int x1)]) (J2 := []) (st2 := []) (w2 := mkM σ) (fun _ _ => rfl) h (fun h => ?_) (fun h => ?_)
  · refine bfr_in (i := (sI σ 0 7)) (m := 2001) 5 (pc1 := 22) (L1 := [some (.ref 0), some (.int x1)]) (J1 := []) (st1 := [(.int (sA σ 4 (sI σ 0 7)))]) (w1 := mkM σ) (fun _ _ => rfl) h (fun h => ?_)
    refine bfr_br 2 (pc1 := 26) (L1 := [some (.ref 0), some (.int x1)]) (J1 := []) (st1 := []) (w1 := mkM σ) (pc2 := 30) (L2 := [some (.ref 0), some (.int x1)]) (J2 := []) (st2 := []) (w2 := mkM σ) (fun _ _ => rfl) h (fun h => ?_) (fun h => ?_)
    · refine bfr_run 2 31 [some (.ref 0), some (.int x1)] [] [(.int ci_1)] (mkM σ) (fun _ _ => rfl) ?_
      exact k_m_isWord_b31 n d q _ _ _ _ h
    · exact k_m_isWord_b30 n d q _ _ _ h
  · exact k_m_isWord_b30 n d q _ _ _ h
set_option maxRecDepth 100000 in
theorem k_m_takes_b25 (n d : Nat) (q : (Int32 × bS)) (s0 : Int32) (o0 : Option Value) (o1 : Option Value) (σ : bS) (h : m_takes_b25 n s0 σ = some q) : bfr MT (d + 2) M_X12_takes 25 [o0, o1] [] [(.int s0)] (mkM σ) (some (.int q.1), mkM q.2) := by
  unfold m_takes_b25 at h
  exact bfr_bz (mk := mkM) 1 (fun _ _ => rfl) h
set_option maxRecDepth 100000 in
theorem k_m_takes (n d : Nat) (q : (Int32 × bS)) (x1 : Int32) (σ : bS) (h : m_takes n x1 σ = some q) : bfr MT (d + 2) M_X12_takes 0 [some (.ref 0), some (.int x1)] [] [] (mkM σ) (some (.int q.1), mkM q.2) := by
  unfold m_takes at h
  refine bfr_in (i := (sI σ 0 7)) (m := 2001) 5 (pc1 := 9) (L1 := [some (.ref 0), some (.int x1)]) (J1 := []) (st1 := [(.int (sA σ 2 (sI σ 0 7)))]) (w1 := mkM σ) (fun _ _ => rfl) h (fun h => ?_)
  refine bfr_br 2 (pc1 := 13) (L1 := [some (.ref 0), some (.int x1)]) (J1 := []) (st1 := []) (w1 := mkM σ) (pc2 := 20) (L2 := [some (.ref 0), some (.int x1)]) (J2 := []) (st2 := []) (w2 := mkM σ) (fun _ _ => rfl) h (fun h => ?_) (fun h => ?_)
  · refine bfr_call 2 (d1 := d + 1) (M1 := M_X12_pass) (vs := [(.ref 0)]) (w1 := mkM σ) (pc2 := 17) (L2 := [some (.ref 0), some (.int x1)]) (J2 := []) (rest := []) (fun a => some (.int a.1)) (fun a => mkM a.2) (fun _ _ => rfl) h (fun a ha => k_m_pass n (d + 0) _ _ ha) (fun q1 _ h => ?_)
    refine bfr_run 1 25 [some (.ref 0), some (.int x1)] [] [(.int q1.1)] (mkM q1.2) (fun _ _ => rfl) ?_
    exact k_m_takes_b25 n d q _ _ _ _ h
  · refine bfr_call 3 (d1 := d + 1) (M1 := M_X12_wrong) (vs := [(.ref 0), (.int ci_1)]) (w1 := mkM σ) (pc2 := 25) (L2 := [some (.ref 0), some (.int x1)]) (J2 := []) (rest := []) (fun a => some (.int a.1)) (fun a => mkM a.2) (fun _ _ => rfl) h (fun a ha => k_m_wrong n (d + 1) _ _ _ ha) (fun q2 _ h => ?_)
    exact k_m_takes_b25 n d q _ _ _ _ h
set_option maxRecDepth 100000 in
theorem k_m_takesSign_b20 (n d : Nat) (q : (Int32 × bS)) (s0 : Int32) (o0 : Option Value) (o1 : Option Value) (σ : bS) (h : m_takesSign_b20 n s0 σ = some q) : bfr MT (d + 2) M_X12_takesSign 20 [o0, o1] [] [(.int s0)] (mkM σ) (some (.int q.1), mkM q.2) := by
  unfold m_takesSign_b20 at h
  exact bfr_bz (mk := mkM) 1 (fun _ _ => rfl) h
set_option maxRecDepth 100000 in
theorem k_m_takesSign (n d : Nat) (q : (Int32 × bS)) (x1 : Int32) (σ : bS) (h : m_takesSign n x1 σ = some q) : bfr MT (d + 2) M_X12_takesSign 0 [some (.ref 0), some (.int x1)] [] [] (mkM σ) (some (.int q.1), mkM q.2) := by
  unfold m_takesSign at h
  refine bfr_call 3 (d1 := d + 1) (M1 := M_X12_isSign) (vs := [(.ref 0), (.int x1)]) (w1 := mkM σ) (pc2 := 5) (L2 := [some (.ref 0), some (.int x1)]) (J2 := []) (rest := []) (fun a => some (.int a.1)) (fun a => mkM a.2) (fun _ _ => rfl) h (fun a ha => k_m_isSign n (d + 1) _ _ _ ha) (fun q1 _ h => ?_)
  refine bfr_br 1 (pc1 := 15) (L1 := [some (.ref 0), some (.int x1)]) (J1 := []) (st1 := []) (w1 := mkM q1.2) (pc2 := 8) (L2 := [some (.ref 0), some (.int x1)]) (J2 := []) (st2 := []) (w2 := mkM q1.2) (fun _ _ => rfl) h (fun h => ?_) (fun h => ?_)
  · refine bfr_call 3 (d1 := d + 1) (M1 := M_X12_wrong) (vs := [(.ref 0), (.int ci_1)]) (w1 := mkM q1.2) (pc2 := 20) (L2 := [some (.ref 0), some (.int x1)]) (J2 := []) (rest := []) (fun a => some (.int a.1)) (fun a => mkM a.2) (fun _ _ => rfl) h (fun a ha => k_m_wrong n (d + 1) _ _ _ ha) (fun q2 _ h => ?_)
    exact k_m_takesSign_b20 n d q _ _ _ _ h
  · refine bfr_call 2 (d1 := d + 1) (M1 := M_X12_pass) (vs := [(.ref 0)]) (w1 := mkM q1.2) (pc2 := 12) (L2 := [some (.ref 0), some (.int x1)]) (J2 := []) (rest := []) (fun a => some (.int a.1)) (fun a => mkM a.2) (fun _ _ => rfl) h (fun a ha => k_m_pass n (d + 0) _ _ ha) (fun q3 _ h => ?_)
    refine bfr_run 1 20 [some (.ref 0), some (.int x1)] [] [(.int q3.1)] (mkM q3.2) (fun _ _ => rfl) ?_
    exact k_m_takesSign_b20 n d q _ _ _ _ h
set_option maxRecDepth 100000 in
theorem k_m_takesWord_b20 (n d : Nat) (q : (Int32 × bS)) (s0 : Int32) (o0 : Option Value) (o1 : Option Value) (σ : bS) (h : m_takesWord_b20 n s0 σ = some q) : bfr MT (d + 2) M_X12_takesWord 20 [o0, o1] [] [(.int s0)] (mkM σ) (some (.int q.1), mkM q.2) := by
  unfold m_takesWord_b20 at h
  exact bfr_bz (mk := mkM) 1 (fun _ _ => rfl) h
set_option maxRecDepth 100000 in
theorem k_m_takesWord (n d : Nat) (q : (Int32 × bS)) (x1 : Int32) (σ : bS) (h : m_takesWord n x1 σ = some q) : bfr MT (d + 2) M_X12_takesWord 0 [some (.ref 0), some (.int x1)] [] [] (mkM σ) (some (.int q.1), mkM q.2) := by
  unfold m_takesWord at h
  refine bfr_call 3 (d1 := d + 1) (M1 := M_X12_isWord) (vs := [(.ref 0), (.int x1)]) (w1 := mkM σ) (pc2 := 5) (L2 := [some (.ref 0), some (.int x1)]) (J2 := []) (rest := []) (fun a => some (.int a.1)) (fun a => mkM a.2) (fun _ _ => rfl) h (fun a ha => k_m_isWord n (d + 1) _ _ _ ha) (fun q1 _ h => ?_)
  refine bfr_br 1 (pc1 := 15) (L1 := [some (.ref 0), some (.int x1)]) (J1 := []) (st1 := []) (w1 := mkM q1.2) (pc2 := 8) (L2 := [some (.ref 0), some (.int x1)]) (J2 := []) (st2 := []) (w2 := mkM q1.2) (fun _ _ => rfl) h (fun h => ?_) (fun h => ?_)
  · refine bfr_call 3 (d1 := d + 1) (M1 := M_X12_wrong) (vs := [(.ref 0), (.int ci_1)]) (w1 := mkM q1.2) (pc2 := 20) (L2 := [some (.ref 0), some (.int x1)]) (J2 := []) (rest := []) (fun a => some (.int a.1)) (fun a => mkM a.2) (fun _ _ => rfl) h (fun a ha => k_m_wrong n (d + 1) _ _ _ ha) (fun q2 _ h => ?_)
    exact k_m_takesWord_b20 n d q _ _ _ _ h
  · refine bfr_call 2 (d1 := d + 1) (M1 := M_X12_pass) (vs := [(.ref 0)]) (w1 := mkM q1.2) (pc2 := 12) (L2 := [some (.ref 0), some (.int x1)]) (J2 := []) (rest := []) (fun a => some (.int a.1)) (fun a => mkM a.2) (fun _ _ => rfl) h (fun a ha => k_m_pass n (d + 0) _ _ ha) (fun q3 _ h => ?_)
    refine bfr_run 1 20 [some (.ref 0), some (.int x1)] [] [(.int q3.1)] (mkM q3.2) (fun _ _ => rfl) ?_
    exact k_m_takesWord_b20 n d q _ _ _ _ h
set_option maxRecDepth 100000 in
theorem k_m_takesInt_b47 (n d : Nat) (q : (Int32 × bS)) (o0 : Option Value) (o1 : Option Value) (o2 : Option Value) (o3 : Option Value) (σ : bS) (h : m_takesInt_b47 n σ = some q) : bfr MT (d + 3) M_X12_takesInt 47 [o0, o1, o2, o3] [] [] (mkM σ) (some (.int q.1), mkM q.2) := by
  unfold m_takesInt_b47 at h
  exact bfr_bz (mk := mkM) 2 (fun _ _ => rfl) h
set_option maxRecDepth 100000 in
theorem k_m_takesInt_b41 (n d : Nat) (q : (Int32 × bS)) (x3 : Int32) (o1 : Option Value) (o2 : Option Value) (σ : bS) (h : m_takesInt_b41 n x3 σ = some q) : bfr MT (d + 3) M_X12_takesInt 41 [some (.ref 0), o1, o2, some (.int x3)] [] [] (mkM σ) (some (.int q.1), mkM q.2) := by
  unfold m_takesInt_b41 at h
  refine bfr_call 4 (d1 := d + 2) (M1 := M_X12_tells) (vs := [(.ref 0), (.int ci_5), (.int x3)]) (w1 := mkM σ) (pc2 := 47) (L2 := [some (.ref 0), o1, o2, some (.int x3)]) (J2 := []) (rest := []) (fun _ => none) (fun a => mkM a) (fun _ _ => rfl) h (fun a ha => k_m_tells n (d + 2) _ _ _ _ ha) (fun q1 _ h => ?_)
  exact k_m_takesInt_b47 n d q _ _ _ _ _ h
set_option maxRecDepth 100000 in
theorem k_m_takesInt (n d : Nat) (q : (Int32 × bS)) (x1 : Int32) (x2 : Int32) (σ : bS) (h : m_takesInt n x1 x2 σ = some q) : bfr MT (d + 3) M_X12_takesInt 0 [some (.ref 0), some (.int x1), some (.int x2), none] [] [] (mkM σ) (some (.int q.1), mkM q.2) := by
  unfold m_takesInt at h
  refine bfr_call 6 (d1 := d + 2) (M1 := M_X12_takes) (vs := [(.ref 0), (.int ci_1)]) (w1 := mkM σ) (pc2 := 10) (L2 := [some (.ref 0), some (.int x1), some (.int x2), some (.int (sI σ 0 7))]) (J2 := []) (rest := []) (fun a => some (.int a.1)) (fun a => mkM a.2) (fun _ _ => rfl) h (fun a ha => k_m_takes n (d + 0) _ _ _ ha) (fun q2 _ h => ?_)
  refine bfr_br 1 (pc1 := 13) (L1 := [some (.ref 0), some (.int x1), some (.int x2), some (.int (sI σ 0 7))]) (J1 := []) (st1 := []) (w1 := mkM q2.2) (pc2 := 15) (L2 := [some (.ref 0), some (.int x1), some (.int x2), some (.int (sI σ 0 7))]) (J2 := []) (st2 := []) (w2 := mkM q2.2) (fun _ _ => rfl) h (fun h => ?_) (fun h => ?_)
  · exact bfr_bz (mk := mkM) 2 (fun _ _ => rfl) h
  · refine bfr_in (i := (sI σ 0 7)) (m := 2001) 5 (pc1 := 22) (L1 := [some (.ref 0), some (.int x1), some (.int x2), some (.int (sI σ 0 7))]) (J1 := []) (st1 := [(.int (sA q2.2 4 (sI σ 0 7))), (.ref 0)]) (w1 := mkM q2.2) (fun _ _ => rfl) h (fun h => ?_)
    refine bfr_run 1 25 [some (.ref 0), some (.int x1), some (.int x2), some (.int (sI σ 0 7))] [] [] ((mkM q2.2).set 0 (.inr (.inr (12, (mkM_0 q2.2).set 35 (.int (sA q2.2 4 (sI σ 0 7))))))) (fun _ _ => rfl) ?_
    rw [mkM_I0_35]
    refine bfr_br 4 (pc1 := 41) (L1 := [some (.ref 0), some (.int x1), some (.int x2), some (.int (sI σ 0 7))]) (J1 := []) (st1 := []) (w1 := mkM (uI q2.2 0 35 (sA q2.2 4 (sI σ 0 7)))) (pc2 := 33) (L2 := [some (.ref 0), some (.int x1), some (.int x2), some (.int (sI σ 0 7))]) (J2 := []) (st2 := []) (w2 := mkM (uI q2.2 0 35 (sA q2.2 4 (sI σ 0 7)))) (fun _ _ => rfl) h (fun h => ?_) (fun h => ?_)
    · exact k_m_takesInt_b41 n d q _ _ _ _ h
    · refine bfr_br 4 (pc1 := 47) (L1 := [some (.ref 0), some (.int x1), some (.int x2), some (.int (sI σ 0 7))]) (J1 := []) (st1 := []) (w1 := mkM (uI q2.2 0 35 (sA q2.2 4 (sI σ 0 7)))) (pc2 := 41) (L2 := [some (.ref 0), some (.int x1), some (.int x2), some (.int (sI σ 0 7))]) (J2 := []) (st2 := []) (w2 := mkM (uI q2.2 0 35 (sA q2.2 4 (sI σ 0 7)))) (fun _ _ => rfl) h (fun h => ?_) (fun h => ?_)
      · exact k_m_takesInt_b47 n d q _ _ _ _ _ h
      · exact k_m_takesInt_b41 n d q _ _ _ _ h
set_option maxRecDepth 100000 in
theorem k_m_names_b50 (n d : Nat) (r18 : Int32 → Int32 → Int32 → Int32 → bS → Option (Int32 × bS)) (q : (Int32 × bS)) (hr18 : ∀ (x1 : Int32) (x2 : Int32) (x3 : Int32) (x4 : Int32) (σ : bS), r18 x1 x2 x3 x4 σ = some q → bfr MT (d + 3) M_X12_names 18 [some (.ref 0), some (.int x1), some (.int x2), some (.int x3), some (.int x4)] [] [] (mkM σ) (some (.int q.1), mkM q.2)) (x1 : Int32) (x2 : Int32) (x3 : Int32) (x4 : Int32) (σ : bS) (h : m_names_b50 n r18 x1 x2 x3 x4 σ = some q) : bfr MT (d + 3) M_X12_names 50 [some (.ref 0), some (.int x1), some (.int x2), some (.int x3), some (.int x4)] [] [] (mkM σ) (some (.int q.1), mkM q.2) := by
  unfold m_names_b50 at h
  refine bfr_run 1 53 [some (.ref 0), some (.int x1), some (.int x2), some (.int x3), some (.int (x4 + ci_1))] [] [] (mkM σ) (fun _ _ => rfl) ?_
  refine bfr_run 1 18 [some (.ref 0), some (.int x1), some (.int x2), some (.int x3), some (.int (x4 + ci_1))] [] [] (mkM σ) (fun _ _ => rfl) ?_
  exact hr18 _ _ _ _ _ h
set_option maxRecDepth 100000 in
theorem k_m_names_b18 (n d : Nat) (q : (Int32 × bS)) : ∀ (k : Nat) (x1 : Int32) (x2 : Int32) (x3 : Int32) (x4 : Int32) (σ : bS), m_names_b18 n k x1 x2 x3 x4 σ = some q → bfr MT (d + 3) M_X12_names 18 [some (.ref 0), some (.int x1), some (.int x2), some (.int x3), some (.int x4)] [] [] (mkM σ) (some (.int q.1), mkM q.2) := by
  intro k
  induction k with
  | zero => intro x1 x2 x3 x4 σ h; exact bno h
  | succ k ih =>
    intro x1 x2 x3 x4 σ h
    unfold m_names_b18 at h
    refine bfr_br 4 (pc1 := 56) (L1 := [some (.ref 0), some (.int x1), some (.int x2), some (.int x3), some (.int x4)]) (J1 := []) (st1 := []) (w1 := mkM σ) (pc2 := 27) (L2 := [some (.ref 0), some (.int x1), some (.int x2), some (.int x3), some (.int x4)]) (J2 := []) (st2 := []) (w2 := mkM σ) (fun _ _ => rfl) h (fun h => ?_) (fun h => ?_)
    · refine bfr_run 6 68 [some (.ref 0), some (.int x1), some (.int x2), some (.int x3), some (.int x4)] [] [(.ref 5), (.int (sI σ 0 31)), (.ref 25)] (mkM σ) (fun _ _ => rfl) ?_
      refine bfr_in (i := x3) (m := 2001) 2 (pc1 := 70) (L1 := [some (.ref 0), some (.int x1), some (.int x2), some (.int x3), some (.int x4)]) (J1 := []) (st1 := [(.long (sJ σ 5 x3)), (.int (sI σ 0 31)), (.ref 25)]) (w1 := mkM σ) (fun _ _ => rfl) h (fun h => ?_)
      refine bfr_in (i := (sI σ 0 31)) (m := 20) 1 (pc1 := 71) (L1 := [some (.ref 0), some (.int x1), some (.int x2), some (.int x3), some (.int x4)]) (J1 := []) (st1 := []) (w1 := ((mkM σ).set 25 (.inr (.inl (20, vp_updL (σ.2.2 25) ((sI σ 0 31)).toNatClampNeg (sJ σ 5 x3)))))) (fun _ _ => rfl) h (fun h => ?_)
      rw [mkM_A25]
      refine bfr_in (i := (sI (uJ σ 25 (sI σ 0 31) (sJ σ 5 x3)) 0 31)) (m := 20) 6 (pc1 := 81) (L1 := [some (.ref 0), some (.int x1), some (.int x2), some (.int x3), some (.int x4)]) (J1 := []) (st1 := []) (w1 := ((mkM (uJ σ 25 (sI σ 0 31) (sJ σ 5 x3))).set 26 (.inl (0, 20, upd ((uJ σ 25 (sI σ 0 31) (sJ σ 5 x3)).2.1 26) ((sI (uJ σ 25 (sI σ 0 31) (sJ σ 5 x3)) 0 31)).toNatClampNeg x1)))) (fun _ _ => rfl) h (fun h => ?_)
      rw [mkM_A26]
      refine bfr_in (i := (sI (uA (uJ σ 25 (sI σ 0 31) (sJ σ 5 x3)) 26 (sI (uJ σ 25 (sI σ 0 31) (sJ σ 5 x3)) 0 31) x1) 0 31)) (m := 20) 6 (pc1 := 91) (L1 := [some (.ref 0), some (.int x1), some (.int x2), some (.int x3), some (.int x4)]) (J1 := []) (st1 := []) (w1 := ((mkM (uA (uJ σ 25 (sI σ 0 31) (sJ σ 5 x3)) 26 (sI (uJ σ 25 (sI σ 0 31) (sJ σ 5 x3)) 0 31) x1)).set 27 (.inl (0, 20, upd ((uA (uJ σ 25 (sI σ 0 31) (sJ σ 5 x3)) 26 (sI (uJ σ 25 (sI σ 0 31) (sJ σ 5 x3)) 0 31) x1).2.1 27) ((sI (uA (uJ σ 25 (sI σ 0 31) (sJ σ 5 x3)) 26 (sI (uJ σ 25 (sI σ 0 31) (sJ σ 5 x3)) 0 31) x1) 0 31)).toNatClampNeg x2)))) (fun _ _ => rfl) h (fun h => ?_)
      rw [mkM_A27]
      refine bfr_run 6 101 [some (.ref 0), some (.int x1), some (.int x2), some (.int x3), some (.int x4)] [] [] ((mkM (uA (uA (uJ σ 25 (sI σ 0 31) (sJ σ 5 x3)) 26 (sI (uJ σ 25 (sI σ 0 31) (sJ σ 5 x3)) 0 31) x1) 27 (sI (uA (uJ σ 25 (sI σ 0 31) (sJ σ 5 x3)) 26 (sI (uJ σ 25 (sI σ 0 31) (sJ σ 5 x3)) 0 31) x1) 0 31) x2)).set 0 (.inr (.inr (12, (mkM_0 (uA (uA (uJ σ 25 (sI σ 0 31) (sJ σ 5 x3)) 26 (sI (uJ σ 25 (sI σ 0 31) (sJ σ 5 x3)) 0 31) x1) 27 (sI (uA (uJ σ 25 (sI σ 0 31) (sJ σ 5 x3)) 26 (sI (uJ σ 25 (sI σ 0 31) (sJ σ 5 x3)) 0 31) x1) 0 31) x2)).set 31 (.int ((sI (uA (uA (uJ σ 25 (sI σ 0 31) (sJ σ 5 x3)) 26 (sI (uJ σ 25 (sI σ 0 31) (sJ σ 5 x3)) 0 31) x1) 27 (sI (uA (uJ σ 25 (sI σ 0 31) (sJ σ 5 x3)) 26 (sI (uJ σ 25 (sI σ 0 31) (sJ σ 5 x3)) 0 31) x1) 0 31) x2) 0 31) + ci_1)))))) (fun _ _ => rfl) ?_
      rw [mkM_I0_31]
      exact bfr_bz (mk := mkM) 2 (fun _ _ => rfl) h
    · refine bfr_in (i := x4) (m := 20) 4 (pc1 := 34) (L1 := [some (.ref 0), some (.int x1), some (.int x2), some (.int x3), some (.int x4)]) (J1 := []) (st1 := [(.long (sJ σ 25 x4))]) (w1 := mkM σ) (fun _ _ => rfl) h (fun h => ?_)
      refine bfr_in (i := x3) (m := 2001) 4 (pc1 := 40) (L1 := [some (.ref 0), some (.int x1), some (.int x2), some (.int x3), some (.int x4)]) (J1 := []) (st1 := [(.long (sJ σ 5 x3)), (.long (sJ σ 25 x4))]) (w1 := mkM σ) (fun _ _ => rfl) h (fun h => ?_)
      refine bfr_br 2 (pc1 := 44) (L1 := [some (.ref 0), some (.int x1), some (.int x2), some (.int x3), some (.int x4)]) (J1 := []) (st1 := []) (w1 := mkM σ) (pc2 := 50) (L2 := [some (.ref 0), some (.int x1), some (.int x2), some (.int x3), some (.int x4)]) (J2 := []) (st2 := []) (w2 := mkM σ) (fun _ _ => rfl) h (fun h => ?_) (fun h => ?_)
      · refine bfr_call 4 (d1 := d + 2) (M1 := M_X12_tells) (vs := [(.ref 0), (.int ci_3), (.int x3)]) (w1 := mkM σ) (pc2 := 50) (L2 := [some (.ref 0), some (.int x1), some (.int x2), some (.int x3), some (.int x4)]) (J2 := []) (rest := []) (fun _ => none) (fun a => mkM a) (fun _ _ => rfl) h (fun a ha => k_m_tells n (d + 2) _ _ _ _ ha) (fun q1 _ h => ?_)
        exact k_m_names_b50 n d _ q (ih) _ _ _ _ _ h
      · exact k_m_names_b50 n d _ q (ih) _ _ _ _ _ h
set_option maxRecDepth 100000 in
theorem k_m_names (n d : Nat) (q : (Int32 × bS)) (x1 : Int32) (x2 : Int32) (σ : bS) (h : m_names n x1 x2 σ = some q) : bfr MT (d + 3) M_X12_names 0 [some (.ref 0), some (.int x1), some (.int x2), none, none] [] [] (mkM σ) (some (.int q.1), mkM q.2) := by
  unfold m_names at h
  refine bfr_call 6 (d1 := d + 2) (M1 := M_X12_takes) (vs := [(.ref 0), (.int ci_0)]) (w1 := mkM σ) (pc2 := 10) (L2 := [some (.ref 0), some (.int x1), some (.int x2), some (.int (sI σ 0 7)), none]) (J2 := []) (rest := []) (fun a => some (.int a.1)) (fun a => mkM a.2) (fun _ _ => rfl) h (fun a ha => k_m_takes n (d + 0) _ _ _ ha) (fun q2 _ h => ?_)
  refine bfr_br 1 (pc1 := 13) (L1 := [some (.ref 0), some (.int x1), some (.int x2), some (.int (sI σ 0 7)), none]) (J1 := []) (st1 := []) (w1 := mkM q2.2) (pc2 := 15) (L2 := [some (.ref 0), some (.int x1), some (.int x2), some (.int (sI σ 0 7)), none]) (J2 := []) (st2 := []) (w2 := mkM q2.2) (fun _ _ => rfl) h (fun h => ?_) (fun h => ?_)
  · exact bfr_bz (mk := mkM) 2 (fun _ _ => rfl) h
  · refine bfr_run 2 18 [some (.ref 0), some (.int x1), some (.int x2), some (.int (sI σ 0 7)), some (.int ci_0)] [] [] (mkM q2.2) (fun _ _ => rfl) ?_
    exact k_m_names_b18 n d q _ _ _ _ _ _ h
set_option maxRecDepth 100000 in
theorem k_m_takesName_b86 (n d : Nat) (q : (Int32 × bS)) (o0 : Option Value) (o1 : Option Value) (o2 : Option Value) (o3 : Option Value) (σ : bS) (h : m_takesName_b86 n σ = some q) : bfr MT (d + 3) M_X12_takesName 86 [o0, o1, o2, o3] [] [] (mkM σ) (some (.int q.1), mkM q.2) := by
  unfold m_takesName_b86 at h
  exact bfr_bz (mk := mkM) 2 (fun _ _ => rfl) h
set_option maxRecDepth 100000 in
theorem k_m_takesName_b70 (n d : Nat) (r27 : Int32 → Int32 → Int32 → bS → Option (Int32 × bS)) (q : (Int32 × bS)) (hr27 : ∀ (x1 : Int32) (x2 : Int32) (x3 : Int32) (σ : bS), r27 x1 x2 x3 σ = some q → bfr MT (d + 3) M_X12_takesName 27 [some (.ref 0), some (.int x1), some (.int x2), some (.int x3)] [] [] (mkM σ) (some (.int q.1), mkM q.2)) (x1 : Int32) (x2 : Int32) (x3 : Int32) (σ : bS) (h : m_takesName_b70 n r27 x1 x2 x3 σ = some q) : bfr MT (d + 3) M_X12_takesName 70 [some (.ref 0), some (.int x1), some (.int x2), some (.int x3)] [] [] (mkM σ) (some (.int q.1), mkM q.2) := by
  unfold m_takesName_b70 at h
  refine bfr_run 1 27 [some (.ref 0), some (.int x1), some (.int x2), some (.int x3)] [] [] (mkM σ) (fun _ _ => rfl) ?_
  exact hr27 _ _ _ _ h
set_option maxRecDepth 100000 in
theorem k_m_takesName_b67 (n d : Nat) (r27 : Int32 → Int32 → Int32 → bS → Option (Int32 × bS)) (q : (Int32 × bS)) (hr27 : ∀ (x1 : Int32) (x2 : Int32) (x3 : Int32) (σ : bS), r27 x1 x2 x3 σ = some q → bfr MT (d + 3) M_X12_takesName 27 [some (.ref 0), some (.int x1), some (.int x2), some (.int x3)] [] [] (mkM σ) (some (.int q.1), mkM q.2)) (x1 : Int32) (x2 : Int32) (x3 : Int32) (σ : bS) (h : m_takesName_b67 n r27 x1 x2 x3 σ = some q) : bfr MT (d + 3) M_X12_takesName 67 [some (.ref 0), some (.int x1), some (.int x2), some (.int x3)] [] [] (mkM σ) (some (.int q.1), mkM q.2) := by
  unfold m_takesName_b67 at h
  refine bfr_run 1 70 [some (.ref 0), some (.int x1), some (.int x2), some (.int (x3 + ci_m1))] [] [] (mkM σ) (fun _ _ => rfl) ?_
  exact k_m_takesName_b70 n d _ q hr27 _ _ _ _ h
set_option maxRecDepth 100000 in
theorem k_m_takesName_b27 (n d : Nat) (q : (Int32 × bS)) : ∀ (k : Nat) (x1 : Int32) (x2 : Int32) (x3 : Int32) (σ : bS), m_takesName_b27 n k x1 x2 x3 σ = some q → bfr MT (d + 3) M_X12_takesName 27 [some (.ref 0), some (.int x1), some (.int x2), some (.int x3)] [] [] (mkM σ) (some (.int q.1), mkM q.2) := by
  intro k
  induction k with
  | zero => intro x1 x2 x3 σ h; exact bno h
  | succ k ih =>
    intro x1 x2 x3 σ h
    unfold m_takesName_b27 at h
    refine bfr_br 2 (pc1 := 73) (L1 := [some (.ref 0), some (.int x1), some (.int x2), some (.int x3)]) (J1 := []) (st1 := []) (w1 := mkM σ) (pc2 := 31) (L2 := [some (.ref 0), some (.int x1), some (.int x2), some (.int x3)]) (J2 := []) (st2 := []) (w2 := mkM σ) (fun _ _ => rfl) h (fun h => ?_) (fun h => ?_)
    · refine bfr_br 3 (pc1 := 86) (L1 := [some (.ref 0), some (.int x1), some (.int x2), some (.int x3)]) (J1 := []) (st1 := []) (w1 := mkM σ) (pc2 := 80) (L2 := [some (.ref 0), some (.int x1), some (.int x2), some (.int x3)]) (J2 := []) (st2 := []) (w2 := mkM σ) (fun _ _ => rfl) h (fun h => ?_) (fun h => ?_)
      · exact k_m_takesName_b86 n d q _ _ _ _ _ h
      · refine bfr_call 4 (d1 := d + 2) (M1 := M_X12_tells) (vs := [(.ref 0), (.int ci_4), (.int x2)]) (w1 := mkM σ) (pc2 := 86) (L2 := [some (.ref 0), some (.int x1), some (.int x2), some (.int x3)]) (J2 := []) (rest := []) (fun _ => none) (fun a => mkM a) (fun _ _ => rfl) h (fun a ha => k_m_tells n (d + 2) _ _ _ _ ha) (fun q1 _ h => ?_)
        exact k_m_takesName_b86 n d q _ _ _ _ _ h
    · refine bfr_in (i := x3) (m := 20) 4 (pc1 := 37) (L1 := [some (.ref 0), some (.int x1), some (.int x2), some (.int x3)]) (J1 := []) (st1 := [(.long (sJ σ 25 x3))]) (w1 := mkM σ) (fun _ _ => rfl) h (fun h => ?_)
      refine bfr_in (i := x2) (m := 2001) 4 (pc1 := 43) (L1 := [some (.ref 0), some (.int x1), some (.int x2), some (.int x3)]) (J1 := []) (st1 := [(.long (sJ σ 5 x2)), (.long (sJ σ 25 x3))]) (w1 := mkM σ) (fun _ _ => rfl) h (fun h => ?_)
      refine bfr_br 2 (pc1 := 47) (L1 := [some (.ref 0), some (.int x1), some (.int x2), some (.int x3)]) (J1 := []) (st1 := []) (w1 := mkM σ) (pc2 := 67) (L2 := [some (.ref 0), some (.int x1), some (.int x2), some (.int x3)]) (J2 := []) (st2 := []) (w2 := mkM σ) (fun _ _ => rfl) h (fun h => ?_) (fun h => ?_)
      · refine bfr_in (i := x3) (m := 20) 4 (pc1 := 53) (L1 := [some (.ref 0), some (.int x1), some (.int x2), some (.int x3)]) (J1 := []) (st1 := [(.int (sA σ 26 x3))]) (w1 := mkM σ) (fun _ _ => rfl) h (fun h => ?_)
        refine bfr_br 2 (pc1 := 57) (L1 := [some (.ref 0), some (.int x1), some (.int x2), some (.int x3)]) (J1 := []) (st1 := []) (w1 := mkM σ) (pc2 := 67) (L2 := [some (.ref 0), some (.int x1), some (.int x2), some (.int x3)]) (J2 := []) (st2 := []) (w2 := mkM σ) (fun _ _ => rfl) h (fun h => ?_) (fun h => ?_)
        · refine bfr_in (i := x3) (m := 20) 5 (pc1 := 64) (L1 := [some (.ref 0), some (.int x1), some (.int x2), some (.int x3)]) (J1 := []) (st1 := [(.int (sA σ 27 x3)), (.ref 0)]) (w1 := mkM σ) (fun _ _ => rfl) h (fun h => ?_)
          refine bfr_run 1 67 [some (.ref 0), some (.int x1), some (.int x2), some (.int x3)] [] [] ((mkM σ).set 0 (.inr (.inr (12, (mkM_0 σ).set 35 (.int (sA σ 27 x3)))))) (fun _ _ => rfl) ?_
          rw [mkM_I0_35]
          exact k_m_takesName_b67 n d _ q (ih) _ _ _ _ h
        · exact k_m_takesName_b67 n d _ q (ih) _ _ _ _ h
      · exact k_m_takesName_b67 n d _ q (ih) _ _ _ _ h
set_option maxRecDepth 100000 in
theorem k_m_takesName_b26 (n d : Nat) (q : (Int32 × bS)) (x1 : Int32) (x2 : Int32) (s0 : Int32) (o3 : Option Value) (σ : bS) (h : m_takesName_b26 n x1 x2 s0 σ = some q) : bfr MT (d + 3) M_X12_takesName 26 [some (.ref 0), some (.int x1), some (.int x2), o3] [] [(.int s0)] (mkM σ) (some (.int q.1), mkM q.2) := by
  unfold m_takesName_b26 at h
  refine bfr_run 1 27 [some (.ref 0), some (.int x1), some (.int x2), some (.int s0)] [] [] (mkM σ) (fun _ _ => rfl) ?_
  exact k_m_takesName_b27 n d q _ _ _ _ _ h
set_option maxRecDepth 100000 in
theorem k_m_takesName (n d : Nat) (q : (Int32 × bS)) (x1 : Int32) (σ : bS) (h : m_takesName n x1 σ = some q) : bfr MT (d + 3) M_X12_takesName 0 [some (.ref 0), some (.int x1), none, none] [] [] (mkM σ) (some (.int q.1), mkM q.2) := by
  unfold m_takesName at h
  refine bfr_call 6 (d1 := d + 2) (M1 := M_X12_takes) (vs := [(.ref 0), (.int ci_0)]) (w1 := mkM σ) (pc2 := 10) (L2 := [some (.ref 0), some (.int x1), some (.int (sI σ 0 7)), none]) (J2 := []) (rest := []) (fun a => some (.int a.1)) (fun a => mkM a.2) (fun _ _ => rfl) h (fun a ha => k_m_takes n (d + 0) _ _ _ ha) (fun q2 _ h => ?_)
  refine bfr_br 1 (pc1 := 13) (L1 := [some (.ref 0), some (.int x1), some (.int (sI σ 0 7)), none]) (J1 := []) (st1 := []) (w1 := mkM q2.2) (pc2 := 15) (L2 := [some (.ref 0), some (.int x1), some (.int (sI σ 0 7)), none]) (J2 := []) (st2 := []) (w2 := mkM q2.2) (fun _ _ => rfl) h (fun h => ?_) (fun h => ?_)
  · exact bfr_bz (mk := mkM) 2 (fun _ _ => rfl) h
  · refine bfr_run 3 20 [some (.ref 0), some (.int x1), some (.int (sI σ 0 7)), none] [] [] ((mkM q2.2).set 0 (.inr (.inr (12, (mkM_0 q2.2).set 35 (.int ci_m1))))) (fun _ _ => rfl) ?_
    rw [mkM_I0_35]
    refine bfr_run 4 26 [some (.ref 0), some (.int x1), some (.int (sI σ 0 7)), none] [] [(.int ((sI (uI q2.2 0 35 ci_m1) 0 31) - ci_1))] (mkM (uI q2.2 0 35 ci_m1)) (fun _ _ => rfl) ?_
    exact k_m_takesName_b26 n d q _ _ _ _ _ h
set_option maxRecDepth 100000 in
theorem k_m_emit (n d : Nat) (q : bS) (x1 : Int32) (x2 : Int32) (σ : bS) (h : m_emit n x1 x2 σ = some q) : bfr MT (d + 0) M_X12_emit 0 [some (.ref 0), some (.int x1), some (.int x2)] [] [] (mkM σ) (none, mkM q) := by
  unfold m_emit at h
  refine bfr_run 6 12 [some (.ref 0), some (.int x1), some (.int x2)] [] [(.int ci_1), (.ref 6), (.int cs_500), (.ref 7)] (mkM σ) (fun _ _ => rfl) ?_
  refine bfr_in (i := ci_1) (m := 2) 1 (pc1 := 13) (L1 := [some (.ref 0), some (.int x1), some (.int x2)]) (J1 := []) (st1 := [(.int (sA σ 6 ci_1)), (.int cs_500), (.ref 7)]) (w1 := mkM σ) (fun _ _ => rfl) h (fun h => ?_)
  refine bfr_in (i := (cs_500 + (sA σ 6 ci_1))) (m := 1000) 3 (pc1 := 16) (L1 := [some (.ref 0), some (.int x1), some (.int x2)]) (J1 := []) (st1 := []) (w1 := ((mkM σ).set 7 (.inl (0, 1000, upd (σ.2.1 7) ((cs_500 + (sA σ 6 ci_1))).toNatClampNeg x1)))) (fun _ _ => rfl) h (fun h => ?_)
  rw [mkM_A7]
  refine bfr_run 6 28 [some (.ref 0), some (.int x1), some (.int x2)] [] [(.int ci_1), (.ref 6), (.int cs_500), (.ref 8)] (mkM (uA σ 7 (cs_500 + (sA σ 6 ci_1)) x1)) (fun _ _ => rfl) ?_
  refine bfr_in (i := ci_1) (m := 2) 1 (pc1 := 29) (L1 := [some (.ref 0), some (.int x1), some (.int x2)]) (J1 := []) (st1 := [(.int (sA (uA σ 7 (cs_500 + (sA σ 6 ci_1)) x1) 6 ci_1)), (.int cs_500), (.ref 8)]) (w1 := mkM (uA σ 7 (cs_500 + (sA σ 6 ci_1)) x1)) (fun _ _ => rfl) h (fun h => ?_)
  refine bfr_in (i := (cs_500 + (sA (uA σ 7 (cs_500 + (sA σ 6 ci_1)) x1) 6 ci_1))) (m := 1000) 3 (pc1 := 32) (L1 := [some (.ref 0), some (.int x1), some (.int x2)]) (J1 := []) (st1 := []) (w1 := ((mkM (uA σ 7 (cs_500 + (sA σ 6 ci_1)) x1)).set 8 (.inl (0, 1000, upd ((uA σ 7 (cs_500 + (sA σ 6 ci_1)) x1).2.1 8) ((cs_500 + (sA (uA σ 7 (cs_500 + (sA σ 6 ci_1)) x1) 6 ci_1))).toNatClampNeg x2)))) (fun _ _ => rfl) h (fun h => ?_)
  rw [mkM_A8]
  refine bfr_in (i := ci_1) (m := 2) 5 (pc1 := 39) (L1 := [some (.ref 0), some (.int x1), some (.int x2)]) (J1 := []) (st1 := [(.int (sA (uA (uA σ 7 (cs_500 + (sA σ 6 ci_1)) x1) 8 (cs_500 + (sA (uA σ 7 (cs_500 + (sA σ 6 ci_1)) x1) 6 ci_1)) x2) 6 ci_1)), (.int ci_1), (.ref 6)]) (w1 := mkM (uA (uA σ 7 (cs_500 + (sA σ 6 ci_1)) x1) 8 (cs_500 + (sA (uA σ 7 (cs_500 + (sA σ 6 ci_1)) x1) 6 ci_1)) x2)) (fun _ _ => rfl) h (fun h => ?_)
  refine bfr_in (i := ci_1) (m := 2) 3 (pc1 := 42) (L1 := [some (.ref 0), some (.int x1), some (.int x2)]) (J1 := []) (st1 := []) (w1 := ((mkM (uA (uA σ 7 (cs_500 + (sA σ 6 ci_1)) x1) 8 (cs_500 + (sA (uA σ 7 (cs_500 + (sA σ 6 ci_1)) x1) 6 ci_1)) x2)).set 6 (.inl (0, 2, upd ((uA (uA σ 7 (cs_500 + (sA σ 6 ci_1)) x1) 8 (cs_500 + (sA (uA σ 7 (cs_500 + (sA σ 6 ci_1)) x1) 6 ci_1)) x2).2.1 6) (ci_1).toNatClampNeg ((sA (uA (uA σ 7 (cs_500 + (sA σ 6 ci_1)) x1) 8 (cs_500 + (sA (uA σ 7 (cs_500 + (sA σ 6 ci_1)) x1) 6 ci_1)) x2) 6 ci_1) + ci_1))))) (fun _ _ => rfl) h (fun h => ?_)
  rw [mkM_A6]
  cases h
  exact bfr_ret 1 (fun _ _ => rfl)
set_option maxRecDepth 100000 in
theorem k_m_rank_b19 (n d : Nat) (q : (Int32 × bS)) (s0 : Int32) (o0 : Option Value) (σ : bS) (h : m_rank_b19 n s0 σ = some q) : bfr MT (d + 0) M_X12_rank 19 [o0] [] [(.int s0)] (mkM σ) (some (.int q.1), mkM q.2) := by
  unfold m_rank_b19 at h
  cases h
  exact bfr_ret 1 (fun _ _ => rfl)
set_option maxRecDepth 100000 in
theorem k_m_rank (n d : Nat) (q : (Int32 × bS)) (x0 : Int32) (σ : bS) (h : m_rank n x0 σ = some q) : bfr MT (d + 0) M_X12_rank 0 [some (.int x0)] [] [] (mkM σ) (some (.int q.1), mkM q.2) := by
  unfold m_rank at h
  refine bfr_br 3 (pc1 := 9) (L1 := [some (.int x0)]) (J1 := []) (st1 := []) (w1 := mkM σ) (pc2 := 5) (L2 := [some (.int x0)]) (J2 := []) (st2 := []) (w2 := mkM σ) (fun _ _ => rfl) h (fun h => ?_) (fun h => ?_)
  · refine bfr_br 3 (pc1 := 18) (L1 := [some (.int x0)]) (J1 := []) (st1 := []) (w1 := mkM σ) (pc2 := 14) (L2 := [some (.int x0)]) (J2 := []) (st2 := []) (w2 := mkM σ) (fun _ _ => rfl) h (fun h => ?_) (fun h => ?_)
    · refine bfr_run 1 19 [some (.int x0)] [] [(.int ci_0)] (mkM σ) (fun _ _ => rfl) ?_
      exact k_m_rank_b19 n d q _ _ _ h
    · refine bfr_run 2 19 [some (.int x0)] [] [(.int ci_1)] (mkM σ) (fun _ _ => rfl) ?_
      exact k_m_rank_b19 n d q _ _ _ h
  · refine bfr_run 2 19 [some (.int x0)] [] [(.int ci_2)] (mkM σ) (fun _ _ => rfl) ?_
    exact k_m_rank_b19 n d q _ _ _ h
set_option maxRecDepth 100000 in
theorem k_m_reduce_b52 (n d : Nat) (q : bS) (o0 : Option Value) (o1 : Option Value) (σ : bS) (h : m_reduce_b52 n σ = some q) : bfr MT (d + 1) M_X12_reduce 52 [o0, o1] [] [] (mkM σ) (none, mkM q) := by
  unfold m_reduce_b52 at h
  cases h
  exact bfr_ret 1 (fun _ _ => rfl)
set_option maxRecDepth 100000 in
theorem k_m_reduce_b32 (n d : Nat) (r0 : Int32 → bS → Option bS) (q : bS) (hr0 : ∀ (x1 : Int32) (σ : bS), r0 x1 σ = some q → bfr MT (d + 1) M_X12_reduce 0 [some (.ref 0), some (.int x1)] [] [] (mkM σ) (none, mkM q)) (x1 : Int32) (s1 : Int32) (σ : bS) (h : m_reduce_b32 n r0 x1 s1 σ = some q) : bfr MT (d + 1) M_X12_reduce 32 [some (.ref 0), some (.int x1)] [] [(.int s1), (.ref 0)] (mkM σ) (none, mkM q) := by
  unfold m_reduce_b32 at h
  refine bfr_run 1 35 [some (.ref 0), some (.int x1)] [] [] ((mkM σ).set 0 (.inr (.inr (12, (mkM_0 σ).set 36 (.int s1))))) (fun _ _ => rfl) ?_
  rw [mkM_I0_36]
  refine bfr_in (i := (sI (uI σ 0 36 s1) 0 36)) (m := 500) 6 (pc1 := 45) (L1 := [some (.ref 0), some (.int x1)]) (J1 := []) (st1 := [(.int (sA (uI σ 0 36 s1) 28 (sI (uI σ 0 36 s1) 0 36))), (.ref 0)]) (w1 := mkM (uI σ 0 36 s1)) (fun _ _ => rfl) h (fun h => ?_)
  refine bfr_call 2 (d1 := d + 0) (M1 := M_X12_emit) (vs := [(.ref 0), (.int (sA (uI σ 0 36 s1) 28 (sI (uI σ 0 36 s1) 0 36))), (.int ci_0)]) (w1 := mkM (uI σ 0 36 s1)) (pc2 := 49) (L2 := [some (.ref 0), some (.int x1)]) (J2 := []) (rest := []) (fun _ => none) (fun a => mkM a) (fun _ _ => rfl) h (fun a ha => k_m_emit n (d + 0) _ _ _ _ ha) (fun q1 _ h => ?_)
  refine bfr_run 1 0 [some (.ref 0), some (.int x1)] [] [] (mkM q1) (fun _ _ => rfl) ?_
  exact hr0 _ _ h
set_option maxRecDepth 100000 in
theorem k_m_reduce_b17 (n d : Nat) (r0 : Int32 → bS → Option bS) (q : bS) (hr0 : ∀ (x1 : Int32) (σ : bS), r0 x1 σ = some q → bfr MT (d + 1) M_X12_reduce 0 [some (.ref 0), some (.int x1)] [] [] (mkM σ) (none, mkM q)) (x1 : Int32) (s1 : Int32) (σ : bS) (h : m_reduce_b17 n r0 x1 s1 σ = some q) : bfr MT (d + 1) M_X12_reduce 17 [some (.ref 0), some (.int x1)] [] [(.int s1), (.ref 28)] (mkM σ) (none, mkM q) := by
  unfold m_reduce_b17 at h
  refine bfr_in (i := s1) (m := 500) 1 (pc1 := 18) (L1 := [some (.ref 0), some (.int x1)]) (J1 := []) (st1 := [(.int (sA σ 28 s1))]) (w1 := mkM σ) (fun _ _ => rfl) h (fun h => ?_)
  refine bfr_call 1 (d1 := d + 0) (M1 := M_X12_rank) (vs := [(.int (sA σ 28 s1))]) (w1 := mkM σ) (pc2 := 21) (L2 := [some (.ref 0), some (.int x1)]) (J2 := []) (rest := []) (fun a => some (.int a.1)) (fun a => mkM a.2) (fun _ _ => rfl) h (fun a ha => k_m_rank n (d + 0) _ _ _ ha) (fun q2 _ h => ?_)
  refine bfr_br 2 (pc1 := 52) (L1 := [some (.ref 0), some (.int x1)]) (J1 := []) (st1 := []) (w1 := mkM q2.2) (pc2 := 25) (L2 := [some (.ref 0), some (.int x1)]) (J2 := []) (st2 := []) (w2 := mkM q2.2) (fun _ _ => rfl) h (fun h => ?_) (fun h => ?_)
  · exact k_m_reduce_b52 n d q _ _ _ h
  · refine bfr_run 5 32 [some (.ref 0), some (.int x1)] [] [(.int ((sI q2.2 0 36) - ci_1)), (.ref 0)] (mkM q2.2) (fun _ _ => rfl) ?_
    exact k_m_reduce_b32 n d _ q hr0 _ _ _ h
set_option maxRecDepth 100000 in
theorem k_m_reduce_b0 (n d : Nat) (q : bS) : ∀ (k : Nat) (x1 : Int32) (σ : bS), m_reduce_b0 n k x1 σ = some q → bfr MT (d + 1) M_X12_reduce 0 [some (.ref 0), some (.int x1)] [] [] (mkM σ) (none, mkM q) := by
  intro k
  induction k with
  | zero => intro x1 σ h; exact bno h
  | succ k ih =>
    intro x1 σ h
    unfold m_reduce_b0 at h
    refine bfr_br 3 (pc1 := 52) (L1 := [some (.ref 0), some (.int x1)]) (J1 := []) (st1 := []) (w1 := mkM σ) (pc2 := 7) (L2 := [some (.ref 0), some (.int x1)]) (J2 := []) (st2 := []) (w2 := mkM σ) (fun _ _ => rfl) h (fun h => ?_) (fun h => ?_)
    · exact k_m_reduce_b52 n d q _ _ _ h
    · refine bfr_run 6 17 [some (.ref 0), some (.int x1)] [] [(.int ((sI σ 0 36) - ci_1)), (.ref 28)] (mkM σ) (fun _ _ => rfl) ?_
      exact k_m_reduce_b17 n d _ q (ih) _ _ _ h
theorem k_m_reduce (n d : Nat) (q : bS) (x1 : Int32) (σ : bS) (h : m_reduce n x1 σ = some q) : bfr MT (d + 1) M_X12_reduce 0 [some (.ref 0), some (.int x1)] [] [] (mkM σ) (none, mkM q) := k_m_reduce_b0 n d q _ _ _ h
set_option maxRecDepth 100000 in
theorem k_m_await (n d : Nat) (q : bS) (x1 : Int32) (σ : bS) (h : m_await n x1 σ = some q) : bfr MT (d + 0) M_X12_await 0 [some (.ref 0), some (.int x1)] [] [] (mkM σ) (none, mkM q) := by
  unfold m_await at h
  refine bfr_in (i := (sI σ 0 36)) (m := 500) 6 (pc1 := 10) (L1 := [some (.ref 0), some (.int x1)]) (J1 := []) (st1 := []) (w1 := ((mkM σ).set 28 (.inl (0, 500, upd (σ.2.1 28) ((sI σ 0 36)).toNatClampNeg x1)))) (fun _ _ => rfl) h (fun h => ?_)
  rw [mkM_A28]
  refine bfr_run 6 20 [some (.ref 0), some (.int x1)] [] [] ((mkM (uA σ 28 (sI σ 0 36) x1)).set 0 (.inr (.inr (12, (mkM_0 (uA σ 28 (sI σ 0 36) x1)).set 36 (.int ((sI (uA σ 28 (sI σ 0 36) x1) 0 36) + ci_1)))))) (fun _ _ => rfl) ?_
  rw [mkM_I0_36]
  cases h
  exact bfr_ret 1 (fun _ _ => rfl)
set_option maxRecDepth 100000 in
theorem k_m_takesUnit_b175 (n d : Nat) (q : (Int32 × bS)) (s0 : Int32) (o0 : Option Value) (o1 : Option Value) (σ : bS) (h : m_takesUnit_b175 n s0 σ = some q) : bfr MT (d + 2) M_X12_takesUnit 175 [o0, o1] [] [(.int s0)] (mkM σ) (some (.int q.1), mkM q.2) := by
  unfold m_takesUnit_b175 at h
  cases h
  exact bfr_ret 1 (fun _ _ => rfl)
set_option maxRecDepth 100000 in
theorem k_m_takesUnit_b160 (n d : Nat) (q : (Int32 × bS)) (s1 : Int32) (s2 : Int32) (o1 : Option Value) (σ : bS) (h : m_takesUnit_b160 n s1 s2 σ = some q) : bfr MT (d + 2) M_X12_takesUnit 160 [some (.ref 0), o1] [] [(.int s2), (.int s1), (.ref 0)] (mkM σ) (some (.int q.1), mkM q.2) := by
  unfold m_takesUnit_b160 at h
  refine bfr_call 1 (d1 := d + 1) (M1 := M_X12_emit) (vs := [(.ref 0), (.int s1), (.int s2)]) (w1 := mkM σ) (pc2 := 163) (L2 := [some (.ref 0), o1]) (J2 := []) (rest := []) (fun _ => none) (fun a => mkM a) (fun _ _ => rfl) h (fun a ha => k_m_emit n (d + 1) _ _ _ _ ha) (fun q1 _ h => ?_)
  refine bfr_call 2 (d1 := d + 1) (M1 := M_X12_pass) (vs := [(.ref 0)]) (w1 := mkM q1) (pc2 := 167) (L2 := [some (.ref 0), o1]) (J2 := []) (rest := []) (fun a => some (.int a.1)) (fun a => mkM a.2) (fun _ _ => rfl) h (fun a ha => k_m_pass n (d + 0) _ _ ha) (fun q2 _ h => ?_)
  refine bfr_br 1 (pc1 := 174) (L1 := [some (.ref 0), o1]) (J1 := []) (st1 := []) (w1 := mkM q2.2) (pc2 := 170) (L2 := [some (.ref 0), o1]) (J2 := []) (st2 := []) (w2 := mkM q2.2) (fun _ _ => rfl) h (fun h => ?_) (fun h => ?_)
  · refine bfr_run 1 175 [some (.ref 0), o1] [] [(.int ci_m1)] (mkM q2.2) (fun _ _ => rfl) ?_
    exact k_m_takesUnit_b175 n d q _ _ _ _ h
  · refine bfr_run 2 175 [some (.ref 0), o1] [] [(.int ci_0)] (mkM q2.2) (fun _ _ => rfl) ?_
    exact k_m_takesUnit_b175 n d q _ _ _ _ h
set_option maxRecDepth 100000 in
theorem k_m_takesUnit_b148 (n d : Nat) (q : (Int32 × bS)) (s1 : Int32) (s2 : Int32) (o1 : Option Value) (σ : bS) (h : m_takesUnit_b148 n s1 s2 σ = some q) : bfr MT (d + 2) M_X12_takesUnit 148 [some (.ref 0), o1] [] [(.int s2), (.int s1), (.ref 0)] (mkM σ) (some (.int q.1), mkM q.2) := by
  unfold m_takesUnit_b148 at h
  refine bfr_run 1 160 [some (.ref 0), o1] [] [(.int s2), (.int s1), (.ref 0)] (mkM σ) (fun _ _ => rfl) ?_
  exact k_m_takesUnit_b160 n d q _ _ _ _ h
set_option maxRecDepth 100000 in
theorem k_m_takesUnit_b132 (n d : Nat) (q : (Int32 × bS)) (x1 : Int32) (s1 : Int32) (σ : bS) (h : m_takesUnit_b132 n x1 s1 σ = some q) : bfr MT (d + 2) M_X12_takesUnit 132 [some (.ref 0), some (.int x1)] [] [(.int s1), (.ref 0)] (mkM σ) (some (.int q.1), mkM q.2) := by
  unfold m_takesUnit_b132 at h
  refine bfr_br 2 (pc1 := 151) (L1 := [some (.ref 0), some (.int x1)]) (J1 := []) (st1 := [(.int s1), (.ref 0)]) (w1 := mkM σ) (pc2 := 136) (L2 := [some (.ref 0), some (.int x1)]) (J2 := []) (st2 := [(.int s1), (.ref 0)]) (w2 := mkM σ) (fun _ _ => rfl) h (fun h => ?_) (fun h => ?_)
  · refine bfr_in (i := (sI σ 0 7)) (m := 2001) 5 (pc1 := 160) (L1 := [some (.ref 0), some (.int x1)]) (J1 := []) (st1 := [(.int (sA σ 4 (sI σ 0 7))), (.int s1), (.ref 0)]) (w1 := mkM σ) (fun _ _ => rfl) h (fun h => ?_)
    exact k_m_takesUnit_b160 n d q _ _ _ _ h
  · refine bfr_in (i := (sI σ 0 7)) (m := 2001) 5 (pc1 := 145) (L1 := [some (.ref 0), some (.int x1)]) (J1 := []) (st1 := [(.int (sA σ 4 (sI σ 0 7))), (.int s1), (.ref 0)]) (w1 := mkM σ) (fun _ _ => rfl) h (fun h => ?_)
    refine bfr_run 2 148 [some (.ref 0), some (.int x1)] [] [(.int ((sA σ 4 (sI σ 0 7)) - cb_16)), (.int s1), (.ref 0)] (mkM σ) (fun _ _ => rfl) ?_
    exact k_m_takesUnit_b148 n d q _ _ _ _ h
set_option maxRecDepth 100000 in
theorem k_m_takesUnit_b122 (n d : Nat) (q : (Int32 × bS)) (x1 : Int32) (σ : bS) (h : m_takesUnit_b122 n x1 σ = some q) : bfr MT (d + 2) M_X12_takesUnit 122 [some (.ref 0), some (.int x1)] [] [] (mkM σ) (some (.int q.1), mkM q.2) := by
  unfold m_takesUnit_b122 at h
  refine bfr_br 3 (pc1 := 131) (L1 := [some (.ref 0), some (.int x1)]) (J1 := []) (st1 := [(.ref 0)]) (w1 := mkM σ) (pc2 := 127) (L2 := [some (.ref 0), some (.int x1)]) (J2 := []) (st2 := [(.ref 0)]) (w2 := mkM σ) (fun _ _ => rfl) h (fun h => ?_) (fun h => ?_)
  · refine bfr_run 1 132 [some (.ref 0), some (.int x1)] [] [(.int ci_0), (.ref 0)] (mkM σ) (fun _ _ => rfl) ?_
    exact k_m_takesUnit_b132 n d q _ _ _ h
  · refine bfr_run 2 132 [some (.ref 0), some (.int x1)] [] [(.int ci_1), (.ref 0)] (mkM σ) (fun _ _ => rfl) ?_
    exact k_m_takesUnit_b132 n d q _ _ _ h
set_option maxRecDepth 100000 in
theorem k_m_takesUnit_b121 (n d : Nat) (q : (Int32 × bS)) (s0 : Int32) (o0 : Option Value) (o1 : Option Value) (σ : bS) (h : m_takesUnit_b121 n s0 σ = some q) : bfr MT (d + 2) M_X12_takesUnit 121 [o0, o1] [] [(.int s0)] (mkM σ) (some (.int q.1), mkM q.2) := by
  unfold m_takesUnit_b121 at h
  cases h
  exact bfr_ret 1 (fun _ _ => rfl)
set_option maxRecDepth 100000 in
theorem k_m_takesUnit_b90 (n d : Nat) (q : (Int32 × bS)) (s0 : Int32) (o1 : Option Value) (σ : bS) (h : m_takesUnit_b90 n s0 σ = some q) : bfr MT (d + 2) M_X12_takesUnit 90 [some (.ref 0), o1] [] [(.int s0)] (mkM σ) (some (.int q.1), mkM q.2) := by
  unfold m_takesUnit_b90 at h
  refine bfr_in (i := (sI σ 0 7)) (m := 2001) 6 (pc1 := 100) (L1 := [some (.ref 0), some (.int s0)]) (J1 := []) (st1 := [(.int (sA σ 2 (sI σ 0 7)))]) (w1 := mkM σ) (fun _ _ => rfl) h (fun h => ?_)
  refine bfr_br 2 (pc1 := 122) (L1 := [some (.ref 0), some (.int s0)]) (J1 := []) (st1 := []) (w1 := mkM σ) (pc2 := 104) (L2 := [some (.ref 0), some (.int s0)]) (J2 := []) (st2 := []) (w2 := mkM σ) (fun _ _ => rfl) h (fun h => ?_) (fun h => ?_)
  · exact k_m_takesUnit_b122 n d q _ _ h
  · refine bfr_br 2 (pc1 := 108) (L1 := [some (.ref 0), some (.int s0)]) (J1 := []) (st1 := []) (w1 := mkM σ) (pc2 := 122) (L2 := [some (.ref 0), some (.int s0)]) (J2 := []) (st2 := []) (w2 := mkM σ) (fun _ _ => rfl) h (fun h => ?_) (fun h => ?_)
    · refine bfr_call 3 (d1 := d + 1) (M1 := M_X12_wrong) (vs := [(.ref 0), (.int ci_1)]) (w1 := mkM σ) (pc2 := 113) (L2 := [some (.ref 0), some (.int s0)]) (J2 := []) (rest := []) (fun a => some (.int a.1)) (fun a => mkM a.2) (fun _ _ => rfl) h (fun a ha => k_m_wrong n (d + 1) _ _ _ ha) (fun q3 _ h => ?_)
      refine bfr_br 1 (pc1 := 120) (L1 := [some (.ref 0), some (.int s0)]) (J1 := []) (st1 := []) (w1 := mkM q3.2) (pc2 := 116) (L2 := [some (.ref 0), some (.int s0)]) (J2 := []) (st2 := []) (w2 := mkM q3.2) (fun _ _ => rfl) h (fun h => ?_) (fun h => ?_)
      · refine bfr_run 1 121 [some (.ref 0), some (.int s0)] [] [(.int ci_m1)] (mkM q3.2) (fun _ _ => rfl) ?_
        exact k_m_takesUnit_b121 n d q _ _ _ _ h
      · refine bfr_run 2 121 [some (.ref 0), some (.int s0)] [] [(.int ci_0)] (mkM q3.2) (fun _ _ => rfl) ?_
        exact k_m_takesUnit_b121 n d q _ _ _ _ h
    · exact k_m_takesUnit_b122 n d q _ _ h
set_option maxRecDepth 100000 in
theorem k_m_takesUnit_b89 (n d : Nat) (q : (Int32 × bS)) (o1 : Option Value) (σ : bS) (h : m_takesUnit_b89 n σ = some q) : bfr MT (d + 2) M_X12_takesUnit 89 [some (.ref 0), o1] [] [] (mkM σ) (some (.int q.1), mkM q.2) := by
  unfold m_takesUnit_b89 at h
  refine bfr_run 1 90 [some (.ref 0), o1] [] [(.int ci_0)] (mkM σ) (fun _ _ => rfl) ?_
  exact k_m_takesUnit_b90 n d q _ _ _ h
set_option maxRecDepth 100000 in
theorem k_m_takesUnit_b31 (n d : Nat) (q : (Int32 × bS)) (s0 : Int32) (o0 : Option Value) (o1 : Option Value) (σ : bS) (h : m_takesUnit_b31 n s0 σ = some q) : bfr MT (d + 2) M_X12_takesUnit 31 [o0, o1] [] [(.int s0)] (mkM σ) (some (.int q.1), mkM q.2) := by
  unfold m_takesUnit_b31 at h
  cases h
  exact bfr_ret 1 (fun _ _ => rfl)
set_option maxRecDepth 100000 in
theorem k_m_takesUnit (n d : Nat) (q : (Int32 × bS)) (σ : bS) (h : m_takesUnit n σ = some q) : bfr MT (d + 2) M_X12_takesUnit 0 [some (.ref 0), none] [] [] (mkM σ) (some (.int q.1), mkM q.2) := by
  unfold m_takesUnit at h
  refine bfr_call 3 (d1 := d + 1) (M1 := M_X12_isSign) (vs := [(.ref 0), (.int cb_40)]) (w1 := mkM σ) (pc2 := 6) (L2 := [some (.ref 0), none]) (J2 := []) (rest := []) (fun a => some (.int a.1)) (fun a => mkM a.2) (fun _ _ => rfl) h (fun a ha => k_m_isSign n (d + 1) _ _ _ ha) (fun q4 _ h => ?_)
  refine bfr_br 1 (pc1 := 58) (L1 := [some (.ref 0), none]) (J1 := []) (st1 := []) (w1 := mkM q4.2) (pc2 := 9) (L2 := [some (.ref 0), none]) (J2 := []) (st2 := []) (w2 := mkM q4.2) (fun _ _ => rfl) h (fun h => ?_) (fun h => ?_)
  · refine bfr_in (i := (sI q4.2 0 7)) (m := 2001) 5 (pc1 := 67) (L1 := [some (.ref 0), none]) (J1 := []) (st1 := [(.int (sA q4.2 2 (sI q4.2 0 7)))]) (w1 := mkM q4.2) (fun _ _ => rfl) h (fun h => ?_)
    refine bfr_br 2 (pc1 := 71) (L1 := [some (.ref 0), none]) (J1 := []) (st1 := []) (w1 := mkM q4.2) (pc2 := 89) (L2 := [some (.ref 0), none]) (J2 := []) (st2 := []) (w2 := mkM q4.2) (fun _ _ => rfl) h (fun h => ?_) (fun h => ?_)
    · refine bfr_in (i := (sI q4.2 0 7)) (m := 2001) 5 (pc1 := 80) (L1 := [some (.ref 0), none]) (J1 := []) (st1 := [(.int (sA q4.2 4 (sI q4.2 0 7)))]) (w1 := mkM q4.2) (fun _ _ => rfl) h (fun h => ?_)
      refine bfr_br 2 (pc1 := 89) (L1 := [some (.ref 0), none]) (J1 := []) (st1 := []) (w1 := mkM q4.2) (pc2 := 85) (L2 := [some (.ref 0), none]) (J2 := []) (st2 := []) (w2 := mkM q4.2) (fun _ _ => rfl) h (fun h => ?_) (fun h => ?_)
      · exact k_m_takesUnit_b89 n d q _ _ h
      · refine bfr_run 2 90 [some (.ref 0), none] [] [(.int ci_1)] (mkM q4.2) (fun _ _ => rfl) ?_
        exact k_m_takesUnit_b90 n d q _ _ _ h
    · exact k_m_takesUnit_b89 n d q _ _ h
  · refine bfr_br 4 (pc1 := 18) (L1 := [some (.ref 0), none]) (J1 := []) (st1 := []) (w1 := mkM q4.2) (pc2 := 32) (L2 := [some (.ref 0), none]) (J2 := []) (st2 := []) (w2 := mkM q4.2) (fun _ _ => rfl) h (fun h => ?_) (fun h => ?_)
    · refine bfr_call 3 (d1 := d + 1) (M1 := M_X12_wrong) (vs := [(.ref 0), (.int ci_2)]) (w1 := mkM q4.2) (pc2 := 23) (L2 := [some (.ref 0), none]) (J2 := []) (rest := []) (fun a => some (.int a.1)) (fun a => mkM a.2) (fun _ _ => rfl) h (fun a ha => k_m_wrong n (d + 1) _ _ _ ha) (fun q5 _ h => ?_)
      refine bfr_br 1 (pc1 := 30) (L1 := [some (.ref 0), none]) (J1 := []) (st1 := []) (w1 := mkM q5.2) (pc2 := 26) (L2 := [some (.ref 0), none]) (J2 := []) (st2 := []) (w2 := mkM q5.2) (fun _ _ => rfl) h (fun h => ?_) (fun h => ?_)
      · refine bfr_run 1 31 [some (.ref 0), none] [] [(.int ci_m1)] (mkM q5.2) (fun _ _ => rfl) ?_
        exact k_m_takesUnit_b31 n d q _ _ _ _ h
      · refine bfr_run 2 31 [some (.ref 0), none] [] [(.int ci_0)] (mkM q5.2) (fun _ _ => rfl) ?_
        exact k_m_takesUnit_b31 n d q _ _ _ _ h
    · refine bfr_call 2 (d1 := d + 1) (M1 := M_X12_pass) (vs := [(.ref 0)]) (w1 := mkM q4.2) (pc2 := 36) (L2 := [some (.ref 0), none]) (J2 := []) (rest := []) (fun a => some (.int a.1)) (fun a => mkM a.2) (fun _ _ => rfl) h (fun a ha => k_m_pass n (d + 0) _ _ ha) (fun q6 _ h => ?_)
      refine bfr_br 1 (pc1 := 39) (L1 := [some (.ref 0), none]) (J1 := []) (st1 := []) (w1 := mkM q6.2) (pc2 := 41) (L2 := [some (.ref 0), none]) (J2 := []) (st2 := []) (w2 := mkM q6.2) (fun _ _ => rfl) h (fun h => ?_) (fun h => ?_)
      · cases h
        exact bfr_ret 2 (fun _ _ => rfl)
      · refine bfr_run 6 51 [some (.ref 0), none] [] [] ((mkM q6.2).set 0 (.inr (.inr (12, (mkM_0 q6.2).set 38 (.int ((sI q6.2 0 38) + ci_1)))))) (fun _ _ => rfl) ?_
        rw [mkM_I0_38]
        refine bfr_call 3 (d1 := d + 1) (M1 := M_X12_await) (vs := [(.ref 0), (.int ci_0)]) (w1 := mkM (uI q6.2 0 38 ((sI q6.2 0 38) + ci_1))) (pc2 := 56) (L2 := [some (.ref 0), none]) (J2 := []) (rest := []) (fun _ => none) (fun a => mkM a) (fun _ _ => rfl) h (fun a ha => k_m_await n (d + 1) _ _ _ ha) (fun q7 _ h => ?_)
        cases h
        exact bfr_ret 2 (fun _ _ => rfl)
