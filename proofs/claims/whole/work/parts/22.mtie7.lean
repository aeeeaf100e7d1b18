set_option maxRecDepth 100000 in
theorem k_m_see_b63 (n d : Nat) (q : (Int32 × bS)) (s0 : Int32) (o0 : Option Value) (o1 : Option Value) (o2 : Option Value) (σ : bS) (h : m_see_b63 n s0 σ = some q) : bfr MT (d + 1) M_X12_see 63 [o0, o1, o2] [] [(.int s0)] (mkM σ) (some (.int q.1), mkM q.2) := by
  unfold m_see_b63 at h
  cases h
  exact bfr_ret 1 (fun _ _ => rfl)
set_option maxRecDepth 100000 in
theorem k_m_see_b25 (n d : Nat) (q : (Int32 × bS)) (o0 : Option Value) (o1 : Option Value) (o2 : Option Value) (σ : bS) (h : m_see_b25 n σ = some q) : bfr MT (d + 1) M_X12_see 25 [o0, o1, o2] [] [] (mkM σ) (some (.int q.1), mkM q.2) := by
  unfold m_see_b25 at h
  cases h
  exact bfr_ret 2 (fun _ _ => rfl)
set_option maxRecDepth 100000 in
theorem k_m_see (n d : Nat) (q : (Int32 × bS)) (x1 : Int32) (x2 : Int32) (σ : bS) (h : m_see n x1 x2 σ = some q) : bfr MT (d + 1) M_X12_see 0 [some (.ref 0), some (.int x1), some (.int x2)] [] [] (mkM σ) (some (.int q.1), mkM q.2) := by
  unfold m_see at h
  refine bfr_call 3 (d1 := d + 0) (M1 := M_X12_isMan) (vs := [(.ref 0), (.int x1)]) (w1 := mkM σ) (pc2 := 5) (L2 := [some (.ref 0), some (.int x1), some (.int x2)]) (J2 := []) (rest := []) (fun a => some (.int a.1)) (fun a => mkM a.2) (fun _ _ => rfl) h (fun a ha => k_m_isMan n (d + 0) _ _ _ ha) (fun q1 _ h => ?_)
  refine bfr_br 1 (pc1 := 25) (L1 := [some (.ref 0), some (.int x1), some (.int x2)]) (J1 := []) (st1 := []) (w1 := mkM q1.2) (pc2 := 8) (L2 := [some (.ref 0), some (.int x1), some (.int x2)]) (J2 := []) (st2 := []) (w2 := mkM q1.2) (fun _ _ => rfl) h (fun h => ?_) (fun h => ?_)
  · exact k_m_see_b25 n d q _ _ _ _ h
  · refine bfr_call 3 (d1 := d + 0) (M1 := M_X12_isBank) (vs := [(.ref 0), (.int x2)]) (w1 := mkM q1.2) (pc2 := 13) (L2 := [some (.ref 0), some (.int x1), some (.int x2)]) (J2 := []) (rest := []) (fun a => some (.int a.1)) (fun a => mkM a.2) (fun _ _ => rfl) h (fun a ha => k_m_isBank n (d + 0) _ _ _ ha) (fun q2 _ h => ?_)
    refine bfr_br 1 (pc1 := 25) (L1 := [some (.ref 0), some (.int x1), some (.int x2)]) (J1 := []) (st1 := []) (w1 := mkM q2.2) (pc2 := 16) (L2 := [some (.ref 0), some (.int x1), some (.int x2)]) (J2 := []) (st2 := []) (w2 := mkM q2.2) (fun _ _ => rfl) h (fun h => ?_) (fun h => ?_)
    · exact k_m_see_b25 n d q _ _ _ _ h
    · refine bfr_br 4 (pc1 := 25) (L1 := [some (.ref 0), some (.int x1), some (.int x2)]) (J1 := []) (st1 := []) (w1 := mkM q2.2) (pc2 := 27) (L2 := [some (.ref 0), some (.int x1), some (.int x2)]) (J2 := []) (st2 := []) (w2 := mkM q2.2) (fun _ _ => rfl) h (fun h => ?_) (fun h => ?_)
      · exact k_m_see_b25 n d q _ _ _ _ h
      · refine bfr_in (i := (sI q2.2 0 62)) (m := 12) 6 (pc1 := 37) (L1 := [some (.ref 0), some (.int x1), some (.int x2)]) (J1 := []) (st1 := []) (w1 := ((mkM q2.2).set 44 (.inl (0, 12, upd (q2.2.2.1 44) ((sI q2.2 0 62)).toNatClampNeg x1)))) (fun _ _ => rfl) h (fun h => ?_)
        rw [mkM_A44]
        refine bfr_in (i := (sI (uA q2.2 44 (sI q2.2 0 62) x1) 0 62)) (m := 12) 6 (pc1 := 47) (L1 := [some (.ref 0), some (.int x1), some (.int x2)]) (J1 := []) (st1 := []) (w1 := ((mkM (uA q2.2 44 (sI q2.2 0 62) x1)).set 45 (.inl (0, 12, upd ((uA q2.2 44 (sI q2.2 0 62) x1).2.1 45) ((sI (uA q2.2 44 (sI q2.2 0 62) x1) 0 62)).toNatClampNeg x2)))) (fun _ _ => rfl) h (fun h => ?_)
        rw [mkM_A45]
        refine bfr_run 6 57 [some (.ref 0), some (.int x1), some (.int x2)] [] [] ((mkM (uA (uA q2.2 44 (sI q2.2 0 62) x1) 45 (sI (uA q2.2 44 (sI q2.2 0 62) x1) 0 62) x2)).set 0 (.inr (.inr (12, (mkM_0 (uA (uA q2.2 44 (sI q2.2 0 62) x1) 45 (sI (uA q2.2 44 (sI q2.2 0 62) x1) 0 62) x2)).set 62 (.int ((sI (uA (uA q2.2 44 (sI q2.2 0 62) x1) 45 (sI (uA q2.2 44 (sI q2.2 0 62) x1) 0 62) x2) 0 62) + ci_1)))))) (fun _ _ => rfl) ?_
        rw [mkM_I0_62]
        refine bfr_run 4 63 [some (.ref 0), some (.int x1), some (.int x2)] [] [(.int ((sI (uI (uA (uA q2.2 44 (sI q2.2 0 62) x1) 45 (sI (uA q2.2 44 (sI q2.2 0 62) x1) 0 62) x2) 0 62 ((sI (uA (uA q2.2 44 (sI q2.2 0 62) x1) 45 (sI (uA q2.2 44 (sI q2.2 0 62) x1) 0 62) x2) 0 62) + ci_1)) 0 62) - ci_1))] (mkM (uI (uA (uA q2.2 44 (sI q2.2 0 62) x1) 45 (sI (uA q2.2 44 (sI q2.2 0 62) x1) 0 62) x2) 0 62 ((sI (uA (uA q2.2 44 (sI q2.2 0 62) x1) 45 (sI (uA q2.2 44 (sI q2.2 0 62) x1) 0 62) x2) 0 62) + ci_1))) (fun _ _ => rfl) ?_
        exact k_m_see_b63 n d q _ _ _ _ _ h
set_option maxRecDepth 100000 in
theorem k_m_say_b16 (n d : Nat) (q : (Int32 × bS)) (o0 : Option Value) (o1 : Option Value) (o2 : Option Value) (σ : bS) (h : m_say_b16 n σ = some q) : bfr MT (d + 1) M_X12_say 16 [o0, o1, o2] [] [] (mkM σ) (some (.int q.1), mkM q.2) := by
  unfold m_say_b16 at h
  exact bfr_bz (mk := mkM) 2 (fun _ _ => rfl) h
set_option maxRecDepth 100000 in
theorem k_m_say (n d : Nat) (q : (Int32 × bS)) (x1 : Int32) (x2 : Int32) (σ : bS) (h : m_say n x1 x2 σ = some q) : bfr MT (d + 1) M_X12_say 0 [some (.ref 0), some (.int x1), some (.int x2)] [] [] (mkM σ) (some (.int q.1), mkM q.2) := by
  unfold m_say at h
  refine bfr_call 3 (d1 := d + 0) (M1 := M_X12_isMan) (vs := [(.ref 0), (.int x1)]) (w1 := mkM σ) (pc2 := 5) (L2 := [some (.ref 0), some (.int x1), some (.int x2)]) (J2 := []) (rest := []) (fun a => some (.int a.1)) (fun a => mkM a.2) (fun _ _ => rfl) h (fun a ha => k_m_isMan n (d + 0) _ _ _ ha) (fun q1 _ h => ?_)
  refine bfr_br 1 (pc1 := 16) (L1 := [some (.ref 0), some (.int x1), some (.int x2)]) (J1 := []) (st1 := []) (w1 := mkM q1.2) (pc2 := 8) (L2 := [some (.ref 0), some (.int x1), some (.int x2)]) (J2 := []) (st2 := []) (w2 := mkM q1.2) (fun _ _ => rfl) h (fun h => ?_) (fun h => ?_)
  · exact k_m_say_b16 n d q _ _ _ _ h
  · refine bfr_call 3 (d1 := d + 0) (M1 := M_X12_isBank) (vs := [(.ref 0), (.int x2)]) (w1 := mkM q1.2) (pc2 := 13) (L2 := [some (.ref 0), some (.int x1), some (.int x2)]) (J2 := []) (rest := []) (fun a => some (.int a.1)) (fun a => mkM a.2) (fun _ _ => rfl) h (fun a ha => k_m_isBank n (d + 0) _ _ _ ha) (fun q2 _ h => ?_)
    refine bfr_br 1 (pc1 := 16) (L1 := [some (.ref 0), some (.int x1), some (.int x2)]) (J1 := []) (st1 := []) (w1 := mkM q2.2) (pc2 := 18) (L2 := [some (.ref 0), some (.int x1), some (.int x2)]) (J2 := []) (st2 := []) (w2 := mkM q2.2) (fun _ _ => rfl) h (fun h => ?_) (fun h => ?_)
    · exact k_m_say_b16 n d q _ _ _ _ h
    · refine bfr_in (i := x1) (m := 7) 5 (pc1 := 25) (L1 := [some (.ref 0), some (.int x1), some (.int x2)]) (J1 := []) (st1 := []) (w1 := ((mkM q2.2).set 46 (.inl (0, 7, upd (q2.2.2.1 46) (x1).toNatClampNeg x2)))) (fun _ _ => rfl) h (fun h => ?_)
      rw [mkM_A46]
      exact bfr_bz (mk := mkM) 2 (fun _ _ => rfl) h
set_option maxRecDepth 100000 in
theorem k_m_forget_b12 (n d : Nat) (q : (Int32 × bS)) : ∀ (k : Nat) (x1 : Int32) (x2 : Int32) (σ : bS), m_forget_b12 n k x1 x2 σ = some q → bfr MT (d + 0) M_X12_forget 12 [some (.ref 0), some (.int x1), some (.int x2)] [] [] (mkM σ) (some (.int q.1), mkM q.2) := by
  intro k
  induction k with
  | zero => intro x1 x2 σ h; exact bno h
  | succ k ih =>
    intro x1 x2 σ h
    unfold m_forget_b12 at h
    refine bfr_br 3 (pc1 := 31) (L1 := [some (.ref 0), some (.int x1), some (.int x2)]) (J1 := []) (st1 := []) (w1 := mkM σ) (pc2 := 18) (L2 := [some (.ref 0), some (.int x1), some (.int x2)]) (J2 := []) (st2 := []) (w2 := mkM σ) (fun _ _ => rfl) h (fun h => ?_) (fun h => ?_)
    · cases h
      exact bfr_ret 2 (fun _ _ => rfl)
    · refine bfr_in (i := x2) (m := 7) 5 (pc1 := 25) (L1 := [some (.ref 0), some (.int x1), some (.int x2)]) (J1 := []) (st1 := []) (w1 := ((mkM σ).set 46 (.inl (0, 7, upd (σ.2.1 46) (x2).toNatClampNeg ci_m1)))) (fun _ _ => rfl) h (fun h => ?_)
      rw [mkM_A46]
      refine bfr_run 1 28 [some (.ref 0), some (.int x1), some (.int (x2 + ci_1))] [] [] (mkM (uA σ 46 x2 ci_m1)) (fun _ _ => rfl) ?_
      refine bfr_run 1 12 [some (.ref 0), some (.int x1), some (.int (x2 + ci_1))] [] [] (mkM (uA σ 46 x2 ci_m1)) (fun _ _ => rfl) ?_
      exact ih _ _ _ h
set_option maxRecDepth 100000 in
theorem k_m_forget (n d : Nat) (q : (Int32 × bS)) (σ : bS) (h : m_forget n σ = some q) : bfr MT (d + 0) M_X12_forget 0 [some (.ref 0), none, none] [] [] (mkM σ) (some (.int q.1), mkM q.2) := by
  unfold m_forget at h
  refine bfr_run 6 10 [some (.ref 0), some (.int (sI σ 0 62)), none] [] [] ((mkM σ).set 0 (.inr (.inr (12, (mkM_0 σ).set 62 (.int ci_0))))) (fun _ _ => rfl) ?_
  rw [mkM_I0_62]
  refine bfr_run 2 12 [some (.ref 0), some (.int (sI σ 0 62)), some (.int ci_0)] [] [] (mkM (uI σ 0 62 ci_0)) (fun _ _ => rfl) ?_
  exact k_m_forget_b12 n d q _ _ _ _ h
set_option maxRecDepth 100000 in
theorem k_m_knows_b63 (n d : Nat) (r23 : Int32 → Int32 → bS → Option (Int32 × bS)) (q : (Int32 × bS)) (hr23 : ∀ (x1 : Int32) (x2 : Int32) (o3 : Option Value) (σ : bS), r23 x1 x2 σ = some q → bfr MT (d + 0) M_X12_knows 23 [some (.ref 0), some (.int x1), some (.int x2), o3] [] [] (mkM σ) (some (.int q.1), mkM q.2)) (x1 : Int32) (x2 : Int32) (x3 : Int32) (σ : bS) (h : m_knows_b63 n r23 x1 x2 x3 σ = some q) : bfr MT (d + 0) M_X12_knows 63 [some (.ref 0), some (.int x1), some (.int x2), some (.int x3)] [] [] (mkM σ) (some (.int q.1), mkM q.2) := by
  unfold m_knows_b63 at h
  refine bfr_run 6 73 [some (.ref 0), some (.int x1), some (.int x2), some (.int x3)] [] [(.int x2), (.ref 45), (.int x3), (.ref 47)] (mkM σ) (fun _ _ => rfl) ?_
  refine bfr_in (i := x2) (m := 12) 1 (pc1 := 74) (L1 := [some (.ref 0), some (.int x1), some (.int x2), some (.int x3)]) (J1 := []) (st1 := [(.int (sA σ 45 x2)), (.int x3), (.ref 47)]) (w1 := mkM σ) (fun _ _ => rfl) h (fun h => ?_)
  refine bfr_in (i := x3) (m := 7) 1 (pc1 := 75) (L1 := [some (.ref 0), some (.int x1), some (.int x2), some (.int x3)]) (J1 := []) (st1 := []) (w1 := ((mkM σ).set 47 (.inl (0, 7, upd (σ.2.1 47) (x3).toNatClampNeg (sA σ 45 x2))))) (fun _ _ => rfl) h (fun h => ?_)
  rw [mkM_A47]
  refine bfr_run 1 78 [some (.ref 0), some (.int x1), some (.int (x2 + ci_1)), some (.int x3)] [] [] (mkM (uA σ 47 x3 (sA σ 45 x2))) (fun _ _ => rfl) ?_
  refine bfr_run 1 23 [some (.ref 0), some (.int x1), some (.int (x2 + ci_1)), some (.int x3)] [] [] (mkM (uA σ 47 x3 (sA σ 45 x2))) (fun _ _ => rfl) ?_
  exact hr23 _ _ _ _ h
set_option maxRecDepth 100000 in
theorem k_m_knows_b35 (n d : Nat) (r23 : Int32 → Int32 → bS → Option (Int32 × bS)) (q : (Int32 × bS)) (hr23 : ∀ (x1 : Int32) (x2 : Int32) (o3 : Option Value) (σ : bS), r23 x1 x2 σ = some q → bfr MT (d + 0) M_X12_knows 23 [some (.ref 0), some (.int x1), some (.int x2), o3] [] [] (mkM σ) (some (.int q.1), mkM q.2)) (x1 : Int32) (x2 : Int32) (s1 : Int32) (o3 : Option Value) (σ : bS) (h : m_knows_b35 n r23 x1 x2 s1 σ = some q) : bfr MT (d + 0) M_X12_knows 35 [some (.ref 0), some (.int x1), some (.int x2), o3] [] [(.int s1), (.ref 44)] (mkM σ) (some (.int q.1), mkM q.2) := by
  unfold m_knows_b35 at h
  refine bfr_in (i := s1) (m := 12) 1 (pc1 := 36) (L1 := [some (.ref 0), some (.int x1), some (.int x2), o3]) (J1 := []) (st1 := [(.int (sA σ 44 s1))]) (w1 := mkM σ) (fun _ _ => rfl) h (fun h => ?_)
  refine bfr_in (i := (sA σ 44 s1)) (m := 7) 5 (pc1 := 43) (L1 := [some (.ref 0), some (.int x1), some (.int x2), some (.int (sA σ 44 s1))]) (J1 := []) (st1 := [(.int (sA σ 47 (sA σ 44 s1)))]) (w1 := mkM σ) (fun _ _ => rfl) h (fun h => ?_)
  refine bfr_br 1 (pc1 := 63) (L1 := [some (.ref 0), some (.int x1), some (.int x2), some (.int (sA σ 44 s1))]) (J1 := []) (st1 := []) (w1 := mkM σ) (pc2 := 46) (L2 := [some (.ref 0), some (.int x1), some (.int x2), some (.int (sA σ 44 s1))]) (J2 := []) (st2 := []) (w2 := mkM σ) (fun _ _ => rfl) h (fun h => ?_) (fun h => ?_)
  · exact k_m_knows_b63 n d _ q hr23 _ _ _ _ h
  · refine bfr_in (i := (sA σ 44 s1)) (m := 7) 4 (pc1 := 52) (L1 := [some (.ref 0), some (.int x1), some (.int x2), some (.int (sA σ 44 s1))]) (J1 := []) (st1 := [(.int (sA σ 47 (sA σ 44 s1)))]) (w1 := mkM σ) (fun _ _ => rfl) h (fun h => ?_)
    refine bfr_in (i := x2) (m := 12) 4 (pc1 := 58) (L1 := [some (.ref 0), some (.int x1), some (.int x2), some (.int (sA σ 44 s1))]) (J1 := []) (st1 := [(.int (sA σ 45 x2)), (.int (sA σ 47 (sA σ 44 s1)))]) (w1 := mkM σ) (fun _ _ => rfl) h (fun h => ?_)
    refine bfr_br 1 (pc1 := 63) (L1 := [some (.ref 0), some (.int x1), some (.int x2), some (.int (sA σ 44 s1))]) (J1 := []) (st1 := []) (w1 := mkM σ) (pc2 := 61) (L2 := [some (.ref 0), some (.int x1), some (.int x2), some (.int (sA σ 44 s1))]) (J2 := []) (st2 := []) (w2 := mkM σ) (fun _ _ => rfl) h (fun h => ?_) (fun h => ?_)
    · exact k_m_knows_b63 n d _ q hr23 _ _ _ _ h
    · exact bfr_bz (mk := mkM) 2 (fun _ _ => rfl) h
set_option maxRecDepth 100000 in
theorem k_m_knows_b23 (n d : Nat) (q : (Int32 × bS)) : ∀ (k : Nat) (x1 : Int32) (x2 : Int32) (o3 : Option Value) (σ : bS), m_knows_b23 n k x1 x2 σ = some q → bfr MT (d + 0) M_X12_knows 23 [some (.ref 0), some (.int x1), some (.int x2), o3] [] [] (mkM σ) (some (.int q.1), mkM q.2) := by
  intro k
  induction k with
  | zero => intro x1 x2 o3 σ h; exact bno h
  | succ k ih =>
    intro x1 x2 o3 σ h
    unfold m_knows_b23 at h
    refine bfr_br 3 (pc1 := 81) (L1 := [some (.ref 0), some (.int x1), some (.int x2), o3]) (J1 := []) (st1 := []) (w1 := mkM σ) (pc2 := 28) (L2 := [some (.ref 0), some (.int x1), some (.int x2), o3]) (J2 := []) (st2 := []) (w2 := mkM σ) (fun _ _ => rfl) h (fun h => ?_) (fun h => ?_)
    · exact bfr_bz (mk := mkM) 2 (fun _ _ => rfl) h
    · refine bfr_run 5 35 [some (.ref 0), some (.int x1), some (.int x2), o3] [] [(.int (x2 - ci_1)), (.ref 44)] (mkM σ) (fun _ _ => rfl) ?_
      exact k_m_knows_b35 n d _ q (ih) _ _ _ _ _ h
set_option maxRecDepth 100000 in
theorem k_m_knows_b2 (n d : Nat) (q : (Int32 × bS)) : ∀ (k : Nat) (x1 : Int32) (x2 : Int32) (o3 : Option Value) (σ : bS), m_knows_b2 n k x1 x2 σ = some q → bfr MT (d + 0) M_X12_knows 2 [some (.ref 0), some (.int x1), some (.int x2), o3] [] [] (mkM σ) (some (.int q.1), mkM q.2) := by
  intro k
  induction k with
  | zero => intro x1 x2 o3 σ h; exact bno h
  | succ k ih =>
    intro x1 x2 o3 σ h
    unfold m_knows_b2 at h
    refine bfr_br 3 (pc1 := 21) (L1 := [some (.ref 0), some (.int x1), some (.int x2), o3]) (J1 := []) (st1 := []) (w1 := mkM σ) (pc2 := 8) (L2 := [some (.ref 0), some (.int x1), some (.int x2), o3]) (J2 := []) (st2 := []) (w2 := mkM σ) (fun _ _ => rfl) h (fun h => ?_) (fun h => ?_)
    · refine bfr_run 2 23 [some (.ref 0), some (.int x1), some (.int ci_1), o3] [] [] (mkM σ) (fun _ _ => rfl) ?_
      exact k_m_knows_b23 n d q _ _ _ _ _ h
    · refine bfr_in (i := x2) (m := 7) 5 (pc1 := 15) (L1 := [some (.ref 0), some (.int x1), some (.int x2), o3]) (J1 := []) (st1 := []) (w1 := ((mkM σ).set 47 (.inl (0, 7, upd (σ.2.1 47) (x2).toNatClampNeg ci_m1)))) (fun _ _ => rfl) h (fun h => ?_)
      rw [mkM_A47]
      refine bfr_run 1 18 [some (.ref 0), some (.int x1), some (.int (x2 + ci_1)), o3] [] [] (mkM (uA σ 47 x2 ci_m1)) (fun _ _ => rfl) ?_
      refine bfr_run 1 2 [some (.ref 0), some (.int x1), some (.int (x2 + ci_1)), o3] [] [] (mkM (uA σ 47 x2 ci_m1)) (fun _ _ => rfl) ?_
      exact ih _ _ _ _ h
set_option maxRecDepth 100000 in
theorem k_m_knows (n d : Nat) (q : (Int32 × bS)) (x1 : Int32) (σ : bS) (h : m_knows n x1 σ = some q) : bfr MT (d + 0) M_X12_knows 0 [some (.ref 0), some (.int x1), none, none] [] [] (mkM σ) (some (.int q.1), mkM q.2) := by
  unfold m_knows at h
  refine bfr_run 2 2 [some (.ref 0), some (.int x1), some (.int ci_0), none] [] [] (mkM σ) (fun _ _ => rfl) ?_
  exact k_m_knows_b2 n d q _ _ _ _ _ h
set_option maxRecDepth 100000 in
theorem k_m_fits_b69 (n d : Nat) (r41 : Int32 → Int32 → bS → Option (Int32 × bS)) (q : (Int32 × bS)) (hr41 : ∀ (x2 : Int32) (x3 : Int32) (o1 : Option Value) (σ : bS), r41 x2 x3 σ = some q → bfr MT (d + 1) M_X12_fits 41 [some (.ref 0), o1, some (.int x2), some (.int x3)] [] [] (mkM σ) (some (.int q.1), mkM q.2)) (x2 : Int32) (x3 : Int32) (o1 : Option Value) (σ : bS) (h : m_fits_b69 n r41 x2 x3 σ = some q) : bfr MT (d + 1) M_X12_fits 69 [some (.ref 0), o1, some (.int x2), some (.int x3)] [] [] (mkM σ) (some (.int q.1), mkM q.2) := by
  unfold m_fits_b69 at h
  refine bfr_run 1 72 [some (.ref 0), o1, some (.int x2), some (.int (x3 + ci_1))] [] [] (mkM σ) (fun _ _ => rfl) ?_
  refine bfr_run 1 41 [some (.ref 0), o1, some (.int x2), some (.int (x3 + ci_1))] [] [] (mkM σ) (fun _ _ => rfl) ?_
  exact hr41 _ _ _ _ h
set_option maxRecDepth 100000 in
theorem k_m_fits_b41 (n d : Nat) (q : (Int32 × bS)) : ∀ (k : Nat) (x2 : Int32) (x3 : Int32) (o1 : Option Value) (σ : bS), m_fits_b41 n k x2 x3 σ = some q → bfr MT (d + 1) M_X12_fits 41 [some (.ref 0), o1, some (.int x2), some (.int x3)] [] [] (mkM σ) (some (.int q.1), mkM q.2) := by
  intro k
  induction k with
  | zero => intro x2 x3 o1 σ h; exact bno h
  | succ k ih =>
    intro x2 x3 o1 σ h
    unfold m_fits_b41 at h
    refine bfr_in (i := ci_0) (m := 2) 5 (pc1 := 48) (L1 := [some (.ref 0), o1, some (.int x2), some (.int x3)]) (J1 := []) (st1 := [(.int (sA σ 20 ci_0)), (.int x3)]) (w1 := mkM σ) (fun _ _ => rfl) h (fun h => ?_)
    refine bfr_br 1 (pc1 := 75) (L1 := [some (.ref 0), o1, some (.int x2), some (.int x3)]) (J1 := []) (st1 := []) (w1 := mkM σ) (pc2 := 51) (L2 := [some (.ref 0), o1, some (.int x2), some (.int x3)]) (J2 := []) (st2 := []) (w2 := mkM σ) (fun _ _ => rfl) h (fun h => ?_) (fun h => ?_)
    · cases h
      exact bfr_ret 2 (fun _ _ => rfl)
    · refine bfr_in (i := x3) (m := 7) 4 (pc1 := 57) (L1 := [some (.ref 0), o1, some (.int x2), some (.int x3)]) (J1 := []) (st1 := [(.int (sA σ 47 x3))]) (w1 := mkM σ) (fun _ _ => rfl) h (fun h => ?_)
      refine bfr_br 1 (pc1 := 69) (L1 := [some (.ref 0), o1, some (.int x2), some (.int x3)]) (J1 := []) (st1 := []) (w1 := mkM σ) (pc2 := 60) (L2 := [some (.ref 0), o1, some (.int x2), some (.int x3)]) (J2 := []) (st2 := []) (w2 := mkM σ) (fun _ _ => rfl) h (fun h => ?_) (fun h => ?_)
      · exact k_m_fits_b69 n d _ q (ih) _ _ _ _ h
      · refine bfr_in (i := ci_0) (m := 2) 5 (pc1 := 67) (L1 := [some (.ref 0), o1, some (.int x2), some (.int x3)]) (J1 := []) (st1 := [(.int (sA σ 12 ci_0)), (.int x2)]) (w1 := mkM σ) (fun _ _ => rfl) h (fun h => ?_)
        refine bfr_run 2 69 [some (.ref 0), o1, some (.int (x2 * (sA σ 12 ci_0))), some (.int x3)] [] [] (mkM σ) (fun _ _ => rfl) ?_
        exact k_m_fits_b69 n d _ q (ih) _ _ _ _ h
set_option maxRecDepth 100000 in
theorem k_m_fits_b38 (n d : Nat) (q : (Int32 × bS)) (s0 : Int32) (o1 : Option Value) (o2 : Option Value) (o3 : Option Value) (σ : bS) (h : m_fits_b38 n s0 σ = some q) : bfr MT (d + 1) M_X12_fits 38 [some (.ref 0), o1, o2, o3] [] [(.int s0)] (mkM σ) (some (.int q.1), mkM q.2) := by
  unfold m_fits_b38 at h
  refine bfr_run 3 41 [some (.ref 0), o1, some (.int s0), some (.int ci_0)] [] [] (mkM σ) (fun _ _ => rfl) ?_
  exact k_m_fits_b41 n d q _ _ _ _ _ h
set_option maxRecDepth 100000 in
theorem k_m_fits (n d : Nat) (q : (Int32 × bS)) (x1 : Int32) (σ : bS) (h : m_fits n x1 σ = some q) : bfr MT (d + 1) M_X12_fits 0 [some (.ref 0), some (.int x1), none, none] [] [] (mkM σ) (some (.int q.1), mkM q.2) := by
  unfold m_fits at h
  refine bfr_call 5 (d1 := d + 0) (M1 := M_X12_isIn) (vs := [(.int x1), (.int ci_0), (.int (sI σ 0 62))]) (w1 := mkM σ) (pc2 := 9) (L2 := [some (.ref 0), some (.int x1), none, none]) (J2 := []) (rest := []) (fun a => some (.int a.1)) (fun a => mkM a.2) (fun _ _ => rfl) h (fun a ha => k_m_isIn n (d + 0) _ _ _ _ _ ha) (fun q1 _ h => ?_)
  refine bfr_br 1 (pc1 := 12) (L1 := [some (.ref 0), some (.int x1), none, none]) (J1 := []) (st1 := []) (w1 := mkM q1.2) (pc2 := 14) (L2 := [some (.ref 0), some (.int x1), none, none]) (J2 := []) (st2 := []) (w2 := mkM q1.2) (fun _ _ => rfl) h (fun h => ?_) (fun h => ?_)
  · cases h
    exact bfr_ret 2 (fun _ _ => rfl)
  · refine bfr_call 3 (d1 := d + 0) (M1 := M_X12_knows) (vs := [(.ref 0), (.int x1)]) (w1 := mkM q1.2) (pc2 := 19) (L2 := [some (.ref 0), some (.int x1), none, none]) (J2 := []) (rest := []) (fun a => some (.int a.1)) (fun a => mkM a.2) (fun _ _ => rfl) h (fun a ha => k_m_knows n (d + 0) _ _ _ ha) (fun q2 _ h => ?_)
    refine bfr_br 1 (pc1 := 22) (L1 := [some (.ref 0), some (.int x1), none, none]) (J1 := []) (st1 := []) (w1 := mkM q2.2) (pc2 := 24) (L2 := [some (.ref 0), some (.int x1), none, none]) (J2 := []) (st2 := []) (w2 := mkM q2.2) (fun _ _ => rfl) h (fun h => ?_) (fun h => ?_)
    · cases h
      exact bfr_ret 2 (fun _ _ => rfl)
    · refine bfr_br 2 (pc1 := 28) (L1 := [some (.ref 0), some (.int x1), none, none]) (J1 := []) (st1 := []) (w1 := mkM q2.2) (pc2 := 37) (L2 := [some (.ref 0), some (.int x1), none, none]) (J2 := []) (st2 := []) (w2 := mkM q2.2) (fun _ _ => rfl) h (fun h => ?_) (fun h => ?_)
      · refine bfr_in (i := ci_0) (m := 2) 4 (pc1 := 34) (L1 := [some (.ref 0), some (.int x1), none, none]) (J1 := []) (st1 := [(.int (sA q2.2 12 ci_0))]) (w1 := mkM q2.2) (fun _ _ => rfl) h (fun h => ?_)
        refine bfr_run 1 38 [some (.ref 0), some (.int x1), none, none] [] [(.int (sA q2.2 12 ci_0))] (mkM q2.2) (fun _ _ => rfl) ?_
        exact k_m_fits_b38 n d q _ _ _ _ _ h
      · refine bfr_run 1 38 [some (.ref 0), some (.int x1), none, none] [] [(.int ci_1)] (mkM q2.2) (fun _ _ => rfl) ?_
        exact k_m_fits_b38 n d q _ _ _ _ _ h
set_option maxRecDepth 100000 in
theorem k_m_sure_b65 (n d : Nat) (q : (Int32 × bS)) (s0 : Int32) (o0 : Option Value) (o1 : Option Value) (o2 : Option Value) (σ : bS) (h : m_sure_b65 n s0 σ = some q) : bfr MT (d + 1) M_X12_sure 65 [o0, o1, o2] [] [(.int s0)] (mkM σ) (some (.int q.1), mkM q.2) := by
  unfold m_sure_b65 at h
  cases h
  exact bfr_ret 1 (fun _ _ => rfl)
set_option maxRecDepth 100000 in
theorem k_m_sure_b20 (n d : Nat) (q : (Int32 × bS)) (o0 : Option Value) (o1 : Option Value) (o2 : Option Value) (σ : bS) (h : m_sure_b20 n σ = some q) : bfr MT (d + 1) M_X12_sure 20 [o0, o1, o2] [] [] (mkM σ) (some (.int q.1), mkM q.2) := by
  unfold m_sure_b20 at h
  cases h
  exact bfr_ret 2 (fun _ _ => rfl)
set_option maxRecDepth 100000 in
theorem k_m_sure (n d : Nat) (q : (Int32 × bS)) (x1 : Int32) (x2 : Int32) (σ : bS) (h : m_sure n x1 x2 σ = some q) : bfr MT (d + 1) M_X12_sure 0 [some (.ref 0), some (.int x1), some (.int x2)] [] [] (mkM σ) (some (.int q.1), mkM q.2) := by
  unfold m_sure at h
  refine bfr_call 5 (d1 := d + 0) (M1 := M_X12_isIn) (vs := [(.int x1), (.int ci_0), (.int (sI σ 0 62))]) (w1 := mkM σ) (pc2 := 9) (L2 := [some (.ref 0), some (.int x1), some (.int x2)]) (J2 := []) (rest := []) (fun a => some (.int a.1)) (fun a => mkM a.2) (fun _ _ => rfl) h (fun a ha => k_m_isIn n (d + 0) _ _ _ _ _ ha) (fun q1 _ h => ?_)
  refine bfr_br 1 (pc1 := 20) (L1 := [some (.ref 0), some (.int x1), some (.int x2)]) (J1 := []) (st1 := []) (w1 := mkM q1.2) (pc2 := 12) (L2 := [some (.ref 0), some (.int x1), some (.int x2)]) (J2 := []) (st2 := []) (w2 := mkM q1.2) (fun _ _ => rfl) h (fun h => ?_) (fun h => ?_)
  · exact k_m_sure_b20 n d q _ _ _ _ h
  · refine bfr_call 3 (d1 := d + 0) (M1 := M_X12_isMan) (vs := [(.ref 0), (.int x2)]) (w1 := mkM q1.2) (pc2 := 17) (L2 := [some (.ref 0), some (.int x1), some (.int x2)]) (J2 := []) (rest := []) (fun a => some (.int a.1)) (fun a => mkM a.2) (fun _ _ => rfl) h (fun a ha => k_m_isMan n (d + 0) _ _ _ ha) (fun q2 _ h => ?_)
    refine bfr_br 1 (pc1 := 20) (L1 := [some (.ref 0), some (.int x1), some (.int x2)]) (J1 := []) (st1 := []) (w1 := mkM q2.2) (pc2 := 22) (L2 := [some (.ref 0), some (.int x1), some (.int x2)]) (J2 := []) (st2 := []) (w2 := mkM q2.2) (fun _ _ => rfl) h (fun h => ?_) (fun h => ?_)
    · exact k_m_sure_b20 n d q _ _ _ _ h
    · refine bfr_call 3 (d1 := d + 0) (M1 := M_X12_knows) (vs := [(.ref 0), (.int x1)]) (w1 := mkM q2.2) (pc2 := 27) (L2 := [some (.ref 0), some (.int x1), some (.int x2)]) (J2 := []) (rest := []) (fun a => some (.int a.1)) (fun a => mkM a.2) (fun _ _ => rfl) h (fun a ha => k_m_knows n (d + 0) _ _ _ ha) (fun q3 _ h => ?_)
      refine bfr_br 1 (pc1 := 30) (L1 := [some (.ref 0), some (.int x1), some (.int x2)]) (J1 := []) (st1 := []) (w1 := mkM q3.2) (pc2 := 33) (L2 := [some (.ref 0), some (.int x1), some (.int x2)]) (J2 := []) (st2 := []) (w2 := mkM q3.2) (fun _ _ => rfl) h (fun h => ?_) (fun h => ?_)
      · cases h
        exact bfr_ret 2 (fun _ _ => rfl)
      · refine bfr_in (i := x2) (m := 7) 4 (pc1 := 39) (L1 := [some (.ref 0), some (.int x1), some (.int x2)]) (J1 := []) (st1 := [(.int (sA q3.2 47 x2))]) (w1 := mkM q3.2) (fun _ _ => rfl) h (fun h => ?_)
        refine bfr_br 1 (pc1 := 49) (L1 := [some (.ref 0), some (.int x1), some (.int x2)]) (J1 := []) (st1 := []) (w1 := mkM q3.2) (pc2 := 42) (L2 := [some (.ref 0), some (.int x1), some (.int x2)]) (J2 := []) (st2 := []) (w2 := mkM q3.2) (fun _ _ => rfl) h (fun h => ?_) (fun h => ?_)
        · refine bfr_in (i := ci_0) (m := 2) 4 (pc1 := 55) (L1 := [some (.ref 0), some (.int x1), some (.int x2)]) (J1 := []) (st1 := [(.int (sA q3.2 12 ci_0))]) (w1 := mkM q3.2) (fun _ _ => rfl) h (fun h => ?_)
          refine bfr_br 2 (pc1 := 59) (L1 := [some (.ref 0), some (.int x1), some (.int x2)]) (J1 := []) (st1 := []) (w1 := mkM q3.2) (pc2 := 63) (L2 := [some (.ref 0), some (.int x1), some (.int x2)]) (J2 := []) (st2 := []) (w2 := mkM q3.2) (fun _ _ => rfl) h (fun h => ?_) (fun h => ?_)
          · refine bfr_run 2 65 [some (.ref 0), some (.int x1), some (.int x2)] [] [(.int ci_0)] (mkM q3.2) (fun _ _ => rfl) ?_
            exact k_m_sure_b65 n d q _ _ _ _ _ h
          · refine bfr_run 1 65 [some (.ref 0), some (.int x1), some (.int x2)] [] [(.int cb_m2)] (mkM q3.2) (fun _ _ => rfl) ?_
            exact k_m_sure_b65 n d q _ _ _ _ _ h
        · refine bfr_in (i := x2) (m := 7) 4 (pc1 := 48) (L1 := [some (.ref 0), some (.int x1), some (.int x2)]) (J1 := []) (st1 := [(.int (sA q3.2 47 x2))]) (w1 := mkM q3.2) (fun _ _ => rfl) h (fun h => ?_)
          cases h
          exact bfr_ret 1 (fun _ _ => rfl)
set_option maxRecDepth 100000 in
theorem k_m_trust_b77 (n d : Nat) (r28 : Int32 → Int32 → bS → Option (Int32 × bS)) (q : (Int32 × bS)) (hr28 : ∀ (x2 : Int32) (x3 : Int32) (o1 : Option Value) (σ : bS), r28 x2 x3 σ = some q → bfr MT (d + 1) M_X12_trust 28 [some (.ref 0), o1, some (.int x2), some (.int x3)] [] [] (mkM σ) (some (.int q.1), mkM q.2)) (x2 : Int32) (x3 : Int32) (o1 : Option Value) (σ : bS) (h : m_trust_b77 n r28 x2 x3 σ = some q) : bfr MT (d + 1) M_X12_trust 77 [some (.ref 0), o1, some (.int x2), some (.int x3)] [] [] (mkM σ) (some (.int q.1), mkM q.2) := by
  unfold m_trust_b77 at h
  refine bfr_run 1 80 [some (.ref 0), o1, some (.int x2), some (.int (x3 + ci_1))] [] [] (mkM σ) (fun _ _ => rfl) ?_
  refine bfr_run 1 28 [some (.ref 0), o1, some (.int x2), some (.int (x3 + ci_1))] [] [] (mkM σ) (fun _ _ => rfl) ?_
  exact hr28 _ _ _ _ h
set_option maxRecDepth 100000 in
theorem k_m_trust_b71 (n d : Nat) (r28 : Int32 → Int32 → bS → Option (Int32 × bS)) (q : (Int32 × bS)) (hr28 : ∀ (x2 : Int32) (x3 : Int32) (o1 : Option Value) (σ : bS), r28 x2 x3 σ = some q → bfr MT (d + 1) M_X12_trust 28 [some (.ref 0), o1, some (.int x2), some (.int x3)] [] [] (mkM σ) (some (.int q.1), mkM q.2)) (x2 : Int32) (x3 : Int32) (o1 : Option Value) (σ : bS) (h : m_trust_b71 n r28 x2 x3 σ = some q) : bfr MT (d + 1) M_X12_trust 71 [some (.ref 0), o1, some (.int x2), some (.int x3)] [] [] (mkM σ) (some (.int q.1), mkM q.2) := by
  unfold m_trust_b71 at h
  refine bfr_run 6 77 [some (.ref 0), o1, some (.int (x2 ||| (ci_1 <<< (x3 &&& 31)))), some (.int x3)] [] [] (mkM σ) (fun _ _ => rfl) ?_
  exact k_m_trust_b77 n d _ q hr28 _ _ _ _ h
set_option maxRecDepth 100000 in
theorem k_m_trust_b28 (n d : Nat) (q : (Int32 × bS)) : ∀ (k : Nat) (x2 : Int32) (x3 : Int32) (o1 : Option Value) (σ : bS), m_trust_b28 n k x2 x3 σ = some q → bfr MT (d + 1) M_X12_trust 28 [some (.ref 0), o1, some (.int x2), some (.int x3)] [] [] (mkM σ) (some (.int q.1), mkM q.2) := by
  intro k
  induction k with
  | zero => intro x2 x3 o1 σ h; exact bno h
  | succ k ih =>
    intro x2 x3 o1 σ h
    unfold m_trust_b28 at h
    refine bfr_in (i := ci_0) (m := 2) 5 (pc1 := 35) (L1 := [some (.ref 0), o1, some (.int x2), some (.int x3)]) (J1 := []) (st1 := [(.int (sA σ 20 ci_0)), (.int x3)]) (w1 := mkM σ) (fun _ _ => rfl) h (fun h => ?_)
    refine bfr_br 1 (pc1 := 83) (L1 := [some (.ref 0), o1, some (.int x2), some (.int x3)]) (J1 := []) (st1 := []) (w1 := mkM σ) (pc2 := 38) (L2 := [some (.ref 0), o1, some (.int x2), some (.int x3)]) (J2 := []) (st2 := []) (w2 := mkM σ) (fun _ _ => rfl) h (fun h => ?_) (fun h => ?_)
    · cases h
      exact bfr_ret 2 (fun _ _ => rfl)
    · refine bfr_in (i := x3) (m := 7) 4 (pc1 := 44) (L1 := [some (.ref 0), o1, some (.int x2), some (.int x3)]) (J1 := []) (st1 := [(.int (sA σ 46 x3))]) (w1 := mkM σ) (fun _ _ => rfl) h (fun h => ?_)
      refine bfr_br 1 (pc1 := 77) (L1 := [some (.ref 0), o1, some (.int x2), some (.int x3)]) (J1 := []) (st1 := []) (w1 := mkM σ) (pc2 := 47) (L2 := [some (.ref 0), o1, some (.int x2), some (.int x3)]) (J2 := []) (st2 := []) (w2 := mkM σ) (fun _ _ => rfl) h (fun h => ?_) (fun h => ?_)
      · exact k_m_trust_b77 n d _ q (ih) _ _ _ _ h
      · refine bfr_in (i := x3) (m := 7) 4 (pc1 := 53) (L1 := [some (.ref 0), o1, some (.int x2), some (.int x3)]) (J1 := []) (st1 := [(.int (sA σ 47 x3))]) (w1 := mkM σ) (fun _ _ => rfl) h (fun h => ?_)
        refine bfr_br 1 (pc1 := 71) (L1 := [some (.ref 0), o1, some (.int x2), some (.int x3)]) (J1 := []) (st1 := []) (w1 := mkM σ) (pc2 := 56) (L2 := [some (.ref 0), o1, some (.int x2), some (.int x3)]) (J2 := []) (st2 := []) (w2 := mkM σ) (fun _ _ => rfl) h (fun h => ?_) (fun h => ?_)
        · exact k_m_trust_b71 n d _ q (ih) _ _ _ _ h
        · refine bfr_in (i := x3) (m := 7) 4 (pc1 := 62) (L1 := [some (.ref 0), o1, some (.int x2), some (.int x3)]) (J1 := []) (st1 := [(.int (sA σ 47 x3))]) (w1 := mkM σ) (fun _ _ => rfl) h (fun h => ?_)
          refine bfr_in (i := x3) (m := 7) 4 (pc1 := 68) (L1 := [some (.ref 0), o1, some (.int x2), some (.int x3)]) (J1 := []) (st1 := [(.int (sA σ 46 x3)), (.int (sA σ 47 x3))]) (w1 := mkM σ) (fun _ _ => rfl) h (fun h => ?_)
          refine bfr_br 1 (pc1 := 71) (L1 := [some (.ref 0), o1, some (.int x2), some (.int x3)]) (J1 := []) (st1 := []) (w1 := mkM σ) (pc2 := 77) (L2 := [some (.ref 0), o1, some (.int x2), some (.int x3)]) (J2 := []) (st2 := []) (w2 := mkM σ) (fun _ _ => rfl) h (fun h => ?_) (fun h => ?_)
          · exact k_m_trust_b71 n d _ q (ih) _ _ _ _ h
          · exact k_m_trust_b77 n d _ q (ih) _ _ _ _ h
set_option maxRecDepth 100000 in
theorem k_m_trust (n d : Nat) (q : (Int32 × bS)) (x1 : Int32) (σ : bS) (h : m_trust n x1 σ = some q) : bfr MT (d + 1) M_X12_trust 0 [some (.ref 0), some (.int x1), none, none] [] [] (mkM σ) (some (.int q.1), mkM q.2) := by
  unfold m_trust at h
  refine bfr_call 5 (d1 := d + 0) (M1 := M_X12_isIn) (vs := [(.int x1), (.int ci_0), (.int (sI σ 0 62))]) (w1 := mkM σ) (pc2 := 9) (L2 := [some (.ref 0), some (.int x1), none, none]) (J2 := []) (rest := []) (fun a => some (.int a.1)) (fun a => mkM a.2) (fun _ _ => rfl) h (fun a ha => k_m_isIn n (d + 0) _ _ _ _ _ ha) (fun q1 _ h => ?_)
  refine bfr_br 1 (pc1 := 12) (L1 := [some (.ref 0), some (.int x1), none, none]) (J1 := []) (st1 := []) (w1 := mkM q1.2) (pc2 := 14) (L2 := [some (.ref 0), some (.int x1), none, none]) (J2 := []) (st2 := []) (w2 := mkM q1.2) (fun _ _ => rfl) h (fun h => ?_) (fun h => ?_)
  · cases h
    exact bfr_ret 2 (fun _ _ => rfl)
  · refine bfr_call 3 (d1 := d + 0) (M1 := M_X12_knows) (vs := [(.ref 0), (.int x1)]) (w1 := mkM q1.2) (pc2 := 19) (L2 := [some (.ref 0), some (.int x1), none, none]) (J2 := []) (rest := []) (fun a => some (.int a.1)) (fun a => mkM a.2) (fun _ _ => rfl) h (fun a ha => k_m_knows n (d + 0) _ _ _ ha) (fun q2 _ h => ?_)
    refine bfr_br 1 (pc1 := 22) (L1 := [some (.ref 0), some (.int x1), none, none]) (J1 := []) (st1 := []) (w1 := mkM q2.2) (pc2 := 24) (L2 := [some (.ref 0), some (.int x1), none, none]) (J2 := []) (st2 := []) (w2 := mkM q2.2) (fun _ _ => rfl) h (fun h => ?_) (fun h => ?_)
    · cases h
      exact bfr_ret 2 (fun _ _ => rfl)
    · refine bfr_run 4 28 [some (.ref 0), some (.int x1), some (.int ci_0), some (.int ci_0)] [] [] (mkM q2.2) (fun _ _ => rfl) ?_
      exact k_m_trust_b28 n d q _ _ _ _ _ h
set_option maxRecDepth 100000 in
theorem k_m_hold (n d : Nat) (q : (Int32 × bS)) (x1 : Int32) (σ : bS) (h : m_hold n x1 σ = some q) : bfr MT (d + 1) M_X12_hold 0 [some (.ref 0), some (.int x1)] [] [] (mkM σ) (some (.int q.1), mkM q.2) := by
  unfold m_hold at h
  refine bfr_call 4 (d1 := d + 0) (M1 := M_X12_isIn) (vs := [(.int x1), (.int ci_0), (.int ci_2)]) (w1 := mkM σ) (pc2 := 6) (L2 := [some (.ref 0), some (.int x1)]) (J2 := []) (rest := []) (fun a => some (.int a.1)) (fun a => mkM a.2) (fun _ _ => rfl) h (fun a ha => k_m_isIn n (d + 0) _ _ _ _ _ ha) (fun q1 _ h => ?_)
  refine bfr_br 1 (pc1 := 9) (L1 := [some (.ref 0), some (.int x1)]) (J1 := []) (st1 := []) (w1 := mkM q1.2) (pc2 := 11) (L2 := [some (.ref 0), some (.int x1)]) (J2 := []) (st2 := []) (w2 := mkM q1.2) (fun _ _ => rfl) h (fun h => ?_) (fun h => ?_)
  · exact bfr_bz (mk := mkM) 2 (fun _ _ => rfl) h
  · refine bfr_run 6 20 [some (.ref 0), some (.int x1)] [] [(.int (cb_48 * x1)), (.int cs_144), (.int ci_0), (.ref 0)] (mkM q1.2) (fun _ _ => rfl) ?_
    refine bfr_call 2 (d1 := d + 0) (M1 := M_X12_copies) (vs := [(.ref 0), (.int ci_0), (.int (cs_144 + (cb_48 * x1)))]) (w1 := mkM q1.2) (pc2 := 24) (L2 := [some (.ref 0), some (.int x1)]) (J2 := []) (rest := []) (fun _ => none) (fun a => mkM a) (fun _ _ => rfl) h (fun a ha => k_m_copies n (d + 0) _ _ _ _ ha) (fun q2 _ h => ?_)
    refine bfr_in (i := x1) (m := 3) 5 (pc1 := 31) (L1 := [some (.ref 0), some (.int x1)]) (J1 := []) (st1 := []) (w1 := ((mkM q2).set 30 (.inl (2, 3, upd (q2.2.1 30) (x1).toNatClampNeg (vp_nar .boolean ci_1))))) (fun _ _ => rfl) h (fun h => ?_)
    rw [mkM_A30]
    exact bfr_bz (mk := mkM) 2 (fun _ _ => rfl) h
set_option maxRecDepth 100000 in
theorem k_m_restore_b18 (n d : Nat) (q : (Int32 × bS)) (o0 : Option Value) (o1 : Option Value) (σ : bS) (h : m_restore_b18 n σ = some q) : bfr MT (d + 1) M_X12_restore 18 [o0, o1] [] [] (mkM σ) (some (.int q.1), mkM q.2) := by
  unfold m_restore_b18 at h
  exact bfr_bz (mk := mkM) 2 (fun _ _ => rfl) h
set_option maxRecDepth 100000 in
theorem k_m_restore (n d : Nat) (q : (Int32 × bS)) (x1 : Int32) (σ : bS) (h : m_restore n x1 σ = some q) : bfr MT (d + 1) M_X12_restore 0 [some (.ref 0), some (.int x1)] [] [] (mkM σ) (some (.int q.1), mkM q.2) := by
  unfold m_restore at h
  refine bfr_call 4 (d1 := d + 0) (M1 := M_X12_isIn) (vs := [(.int x1), (.int ci_0), (.int ci_2)]) (w1 := mkM σ) (pc2 := 6) (L2 := [some (.ref 0), some (.int x1)]) (J2 := []) (rest := []) (fun a => some (.int a.1)) (fun a => mkM a.2) (fun _ _ => rfl) h (fun a ha => k_m_isIn n (d + 0) _ _ _ _ _ ha) (fun q1 _ h => ?_)
  refine bfr_br 1 (pc1 := 18) (L1 := [some (.ref 0), some (.int x1)]) (J1 := []) (st1 := []) (w1 := mkM q1.2) (pc2 := 9) (L2 := [some (.ref 0), some (.int x1)]) (J2 := []) (st2 := []) (w2 := mkM q1.2) (fun _ _ => rfl) h (fun h => ?_) (fun h => ?_)
  · exact k_m_restore_b18 n d q _ _ _ h
  · refine bfr_in (i := x1) (m := 3) 4 (pc1 := 15) (L1 := [some (.ref 0), some (.int x1)]) (J1 := []) (st1 := [(.int (sA q1.2 30 x1))]) (w1 := mkM q1.2) (fun _ _ => rfl) h (fun h => ?_)
    refine bfr_br 1 (pc1 := 18) (L1 := [some (.ref 0), some (.int x1)]) (J1 := []) (st1 := []) (w1 := mkM q1.2) (pc2 := 20) (L2 := [some (.ref 0), some (.int x1)]) (J2 := []) (st2 := []) (w2 := mkM q1.2) (fun _ _ => rfl) h (fun h => ?_) (fun h => ?_)
    · exact k_m_restore_b18 n d q _ _ _ h
    · refine bfr_run 6 29 [some (.ref 0), some (.int x1)] [] [(.int (cs_144 + (cb_48 * x1))), (.ref 0)] (mkM q1.2) (fun _ _ => rfl) ?_
      refine bfr_call 2 (d1 := d + 0) (M1 := M_X12_copies) (vs := [(.ref 0), (.int (cs_144 + (cb_48 * x1))), (.int ci_0)]) (w1 := mkM q1.2) (pc2 := 33) (L2 := [some (.ref 0), some (.int x1)]) (J2 := []) (rest := []) (fun _ => none) (fun a => mkM a) (fun _ _ => rfl) h (fun a ha => k_m_copies n (d + 0) _ _ _ _ ha) (fun q2 _ h => ?_)
      refine bfr_run 3 38 [some (.ref 0), some (.int x1)] [] [] ((mkM q2).set 0 (.inr (.inr (12, (mkM_0 q2).set 41 (.int ci_0))))) (fun _ _ => rfl) ?_
      rw [mkM_I0_41]
      exact bfr_bz (mk := mkM) 2 (fun _ _ => rfl) h
set_option maxRecDepth 100000 in
theorem k_m_heldMany_b21 (n d : Nat) (r4 : Int32 → Int32 → bS → Option (Int32 × bS)) (q : (Int32 × bS)) (hr4 : ∀ (x1 : Int32) (x2 : Int32) (σ : bS), r4 x1 x2 σ = some q → bfr MT (d + 0) M_X12_heldMany 4 [some (.ref 0), some (.int x1), some (.int x2)] [] [] (mkM σ) (some (.int q.1), mkM q.2)) (x1 : Int32) (x2 : Int32) (σ : bS) (h : m_heldMany_b21 n r4 x1 x2 σ = some q) : bfr MT (d + 0) M_X12_heldMany 21 [some (.ref 0), some (.int x1), some (.int x2)] [] [] (mkM σ) (some (.int q.1), mkM q.2) := by
  unfold m_heldMany_b21 at h
  refine bfr_run 1 24 [some (.ref 0), some (.int x1), some (.int (x2 + ci_1))] [] [] (mkM σ) (fun _ _ => rfl) ?_
  refine bfr_run 1 4 [some (.ref 0), some (.int x1), some (.int (x2 + ci_1))] [] [] (mkM σ) (fun _ _ => rfl) ?_
  exact hr4 _ _ _ h
set_option maxRecDepth 100000 in
theorem k_m_heldMany_b4 (n d : Nat) (q : (Int32 × bS)) : ∀ (k : Nat) (x1 : Int32) (x2 : Int32) (σ : bS), m_heldMany_b4 n k x1 x2 σ = some q → bfr MT (d + 0) M_X12_heldMany 4 [some (.ref 0), some (.int x1), some (.int x2)] [] [] (mkM σ) (some (.int q.1), mkM q.2) := by
  intro k
  induction k with
  | zero => intro x1 x2 σ h; exact bno h
  | succ k ih =>
    intro x1 x2 σ h
    unfold m_heldMany_b4 at h
    refine bfr_br 3 (pc1 := 27) (L1 := [some (.ref 0), some (.int x1), some (.int x2)]) (J1 := []) (st1 := []) (w1 := mkM σ) (pc2 := 9) (L2 := [some (.ref 0), some (.int x1), some (.int x2)]) (J2 := []) (st2 := []) (w2 := mkM σ) (fun _ _ => rfl) h (fun h => ?_) (fun h => ?_)
    · cases h
      exact bfr_ret 2 (fun _ _ => rfl)
    · refine bfr_in (i := x2) (m := 3) 4 (pc1 := 15) (L1 := [some (.ref 0), some (.int x1), some (.int x2)]) (J1 := []) (st1 := [(.int (sA σ 30 x2))]) (w1 := mkM σ) (fun _ _ => rfl) h (fun h => ?_)
      refine bfr_br 1 (pc1 := 21) (L1 := [some (.ref 0), some (.int x1), some (.int x2)]) (J1 := []) (st1 := []) (w1 := mkM σ) (pc2 := 18) (L2 := [some (.ref 0), some (.int x1), some (.int x2)]) (J2 := []) (st2 := []) (w2 := mkM σ) (fun _ _ => rfl) h (fun h => ?_) (fun h => ?_)
      · exact k_m_heldMany_b21 n d _ q (ih) _ _ _ h
      · refine bfr_run 1 21 [some (.ref 0), some (.int (x1 + ci_1)), some (.int x2)] [] [] (mkM σ) (fun _ _ => rfl) ?_
        exact k_m_heldMany_b21 n d _ q (ih) _ _ _ h
set_option maxRecDepth 100000 in
theorem k_m_heldMany (n d : Nat) (q : (Int32 × bS)) (σ : bS) (h : m_heldMany n σ = some q) : bfr MT (d + 0) M_X12_heldMany 0 [some (.ref 0), none, none] [] [] (mkM σ) (some (.int q.1), mkM q.2) := by
  unfold m_heldMany at h
  refine bfr_run 4 4 [some (.ref 0), some (.int ci_0), some (.int ci_0)] [] [] (mkM σ) (fun _ _ => rfl) ?_
  exact k_m_heldMany_b4 n d q _ _ _ _ h
set_option maxRecDepth 100000 in
theorem k_m_saidBy_b29 (n d : Nat) (r4 : Int32 → Int32 → bS → Option (Int32 × bS)) (q : (Int32 × bS)) (hr4 : ∀ (x1 : Int32) (x2 : Int32) (σ : bS), r4 x1 x2 σ = some q → bfr MT (d + 0) M_X12_saidBy 4 [some (.ref 0), some (.int x1), some (.int x2)] [] [] (mkM σ) (some (.int q.1), mkM q.2)) (x1 : Int32) (x2 : Int32) (σ : bS) (h : m_saidBy_b29 n r4 x1 x2 σ = some q) : bfr MT (d + 0) M_X12_saidBy 29 [some (.ref 0), some (.int x1), some (.int x2)] [] [] (mkM σ) (some (.int q.1), mkM q.2) := by
  unfold m_saidBy_b29 at h
  refine bfr_run 1 32 [some (.ref 0), some (.int x1), some (.int (x2 + ci_1))] [] [] (mkM σ) (fun _ _ => rfl) ?_
  refine bfr_run 1 4 [some (.ref 0), some (.int x1), some (.int (x2 + ci_1))] [] [] (mkM σ) (fun _ _ => rfl) ?_
  exact hr4 _ _ _ h
set_option maxRecDepth 100000 in
theorem k_m_saidBy_b4 (n d : Nat) (q : (Int32 × bS)) : ∀ (k : Nat) (x1 : Int32) (x2 : Int32) (σ : bS), m_saidBy_b4 n k x1 x2 σ = some q → bfr MT (d + 0) M_X12_saidBy 4 [some (.ref 0), some (.int x1), some (.int x2)] [] [] (mkM σ) (some (.int q.1), mkM q.2) := by
  intro k
  induction k with
  | zero => intro x1 x2 σ h; exact bno h
  | succ k ih =>
    intro x1 x2 σ h
    unfold m_saidBy_b4 at h
    refine bfr_in (i := ci_0) (m := 2) 5 (pc1 := 11) (L1 := [some (.ref 0), some (.int x1), some (.int x2)]) (J1 := []) (st1 := [(.int (sA σ 20 ci_0)), (.int x2)]) (w1 := mkM σ) (fun _ _ => rfl) h (fun h => ?_)
    refine bfr_br 1 (pc1 := 35) (L1 := [some (.ref 0), some (.int x1), some (.int x2)]) (J1 := []) (st1 := []) (w1 := mkM σ) (pc2 := 14) (L2 := [some (.ref 0), some (.int x1), some (.int x2)]) (J2 := []) (st2 := []) (w2 := mkM σ) (fun _ _ => rfl) h (fun h => ?_) (fun h => ?_)
    · cases h
      exact bfr_ret 2 (fun _ _ => rfl)
    · refine bfr_in (i := x2) (m := 7) 4 (pc1 := 20) (L1 := [some (.ref 0), some (.int x1), some (.int x2)]) (J1 := []) (st1 := [(.int (sA σ 46 x2))]) (w1 := mkM σ) (fun _ _ => rfl) h (fun h => ?_)
      refine bfr_br 1 (pc1 := 29) (L1 := [some (.ref 0), some (.int x1), some (.int x2)]) (J1 := []) (st1 := []) (w1 := mkM σ) (pc2 := 23) (L2 := [some (.ref 0), some (.int x1), some (.int x2)]) (J2 := []) (st2 := []) (w2 := mkM σ) (fun _ _ => rfl) h (fun h => ?_) (fun h => ?_)
      · exact k_m_saidBy_b29 n d _ q (ih) _ _ _ h
      · refine bfr_run 6 29 [some (.ref 0), some (.int (x1 ||| (ci_1 <<< (x2 &&& 31)))), some (.int x2)] [] [] (mkM σ) (fun _ _ => rfl) ?_
        exact k_m_saidBy_b29 n d _ q (ih) _ _ _ h
set_option maxRecDepth 100000 in
theorem k_m_saidBy (n d : Nat) (q : (Int32 × bS)) (σ : bS) (h : m_saidBy n σ = some q) : bfr MT (d + 0) M_X12_saidBy 0 [some (.ref 0), none, none] [] [] (mkM σ) (some (.int q.1), mkM q.2) := by
  unfold m_saidBy at h
  refine bfr_run 4 4 [some (.ref 0), some (.int ci_0), some (.int ci_0)] [] [] (mkM σ) (fun _ _ => rfl) ?_
  exact k_m_saidBy_b4 n d q _ _ _ _ h
set_option maxRecDepth 100000 in
theorem k_m_count_b157 (n d : Nat) (q : (Int32 × bS)) (s0 : Int32) (o0 : Option Value) (o1 : Option Value) (σ : bS) (h : m_count_b157 n s0 σ = some q) : bfr MT (d + 1) M_X12_count 157 [o0, o1] [] [(.int s0)] (mkM σ) (some (.int q.1), mkM q.2) := by
  unfold m_count_b157 at h
  cases h
  exact bfr_ret 1 (fun _ _ => rfl)
set_option maxRecDepth 100000 in
theorem k_m_count (n d : Nat) (q : (Int32 × bS)) (x1 : Int32) (σ : bS) (h : m_count n x1 σ = some q) : bfr MT (d + 1) M_X12_count 0 [some (.ref 0), some (.int x1)] [] [] (mkM σ) (some (.int q.1), mkM q.2) := by
  unfold m_count at h
  refine bfr_br 2 (pc1 := 4) (L1 := [some (.ref 0), some (.int x1)]) (J1 := []) (st1 := []) (w1 := mkM σ) (pc2 := 11) (L2 := [some (.ref 0), some (.int x1)]) (J2 := []) (st2 := []) (w2 := mkM σ) (fun _ _ => rfl) h (fun h => ?_) (fun h => ?_)
  · refine bfr_in (i := ci_0) (m := 2) 4 (pc1 := 10) (L1 := [some (.ref 0), some (.int x1)]) (J1 := []) (st1 := [(.int (sA σ 12 ci_0))]) (w1 := mkM σ) (fun _ _ => rfl) h (fun h => ?_)
    cases h
    exact bfr_ret 1 (fun _ _ => rfl)
  · refine bfr_br 3 (pc1 := 16) (L1 := [some (.ref 0), some (.int x1)]) (J1 := []) (st1 := []) (w1 := mkM σ) (pc2 := 23) (L2 := [some (.ref 0), some (.int x1)]) (J2 := []) (st2 := []) (w2 := mkM σ) (fun _ _ => rfl) h (fun h => ?_) (fun h => ?_)
    · refine bfr_in (i := ci_0) (m := 2) 4 (pc1 := 22) (L1 := [some (.ref 0), some (.int x1)]) (J1 := []) (st1 := [(.int (sA σ 13 ci_0))]) (w1 := mkM σ) (fun _ _ => rfl) h (fun h => ?_)
      cases h
      exact bfr_ret 1 (fun _ _ => rfl)
    · refine bfr_br 3 (pc1 := 28) (L1 := [some (.ref 0), some (.int x1)]) (J1 := []) (st1 := []) (w1 := mkM σ) (pc2 := 35) (L2 := [some (.ref 0), some (.int x1)]) (J2 := []) (st2 := []) (w2 := mkM σ) (fun _ _ => rfl) h (fun h => ?_) (fun h => ?_)
      · refine bfr_in (i := ci_0) (m := 2) 4 (pc1 := 34) (L1 := [some (.ref 0), some (.int x1)]) (J1 := []) (st1 := [(.int (sA σ 17 ci_0))]) (w1 := mkM σ) (fun _ _ => rfl) h (fun h => ?_)
        cases h
        exact bfr_ret 1 (fun _ _ => rfl)
      · refine bfr_br 3 (pc1 := 40) (L1 := [some (.ref 0), some (.int x1)]) (J1 := []) (st1 := []) (w1 := mkM σ) (pc2 := 47) (L2 := [some (.ref 0), some (.int x1)]) (J2 := []) (st2 := []) (w2 := mkM σ) (fun _ _ => rfl) h (fun h => ?_) (fun h => ?_)
        · refine bfr_in (i := ci_0) (m := 2) 4 (pc1 := 46) (L1 := [some (.ref 0), some (.int x1)]) (J1 := []) (st1 := [(.int (sA σ 20 ci_0))]) (w1 := mkM σ) (fun _ _ => rfl) h (fun h => ?_)
          cases h
          exact bfr_ret 1 (fun _ _ => rfl)
        · refine bfr_br 3 (pc1 := 52) (L1 := [some (.ref 0), some (.int x1)]) (J1 := []) (st1 := []) (w1 := mkM σ) (pc2 := 59) (L2 := [some (.ref 0), some (.int x1)]) (J2 := []) (st2 := []) (w2 := mkM σ) (fun _ _ => rfl) h (fun h => ?_) (fun h => ?_)
          · refine bfr_in (i := ci_0) (m := 2208) 4 (pc1 := 58) (L1 := [some (.ref 0), some (.int x1)]) (J1 := []) (st1 := [(.int (sA σ 29 ci_0))]) (w1 := mkM σ) (fun _ _ => rfl) h (fun h => ?_)
            cases h
            exact bfr_ret 1 (fun _ _ => rfl)
          · refine bfr_br 3 (pc1 := 64) (L1 := [some (.ref 0), some (.int x1)]) (J1 := []) (st1 := []) (w1 := mkM σ) (pc2 := 72) (L2 := [some (.ref 0), some (.int x1)]) (J2 := []) (st2 := []) (w2 := mkM σ) (fun _ _ => rfl) h (fun h => ?_) (fun h => ?_)
            · refine bfr_in (i := cb_40) (m := 2208) 4 (pc1 := 71) (L1 := [some (.ref 0), some (.int x1)]) (J1 := []) (st1 := [(.int (sA σ 29 cb_40))]) (w1 := mkM σ) (fun _ _ => rfl) h (fun h => ?_)
              cases h
              exact bfr_ret 1 (fun _ _ => rfl)
            · refine bfr_br 3 (pc1 := 78) (L1 := [some (.ref 0), some (.int x1)]) (J1 := []) (st1 := []) (w1 := mkM σ) (pc2 := 86) (L2 := [some (.ref 0), some (.int x1)]) (J2 := []) (st2 := []) (w2 := mkM σ) (fun _ _ => rfl) h (fun h => ?_) (fun h => ?_)
              · refine bfr_in (i := cb_41) (m := 2208) 4 (pc1 := 85) (L1 := [some (.ref 0), some (.int x1)]) (J1 := []) (st1 := [(.int (sA σ 29 cb_41))]) (w1 := mkM σ) (fun _ _ => rfl) h (fun h => ?_)
                cases h
                exact bfr_ret 1 (fun _ _ => rfl)
              · refine bfr_br 3 (pc1 := 92) (L1 := [some (.ref 0), some (.int x1)]) (J1 := []) (st1 := []) (w1 := mkM σ) (pc2 := 97) (L2 := [some (.ref 0), some (.int x1)]) (J2 := []) (st2 := []) (w2 := mkM σ) (fun _ _ => rfl) h (fun h => ?_) (fun h => ?_)
                · cases h
                  exact bfr_ret 3 (fun _ _ => rfl)
                · refine bfr_br 3 (pc1 := 103) (L1 := [some (.ref 0), some (.int x1)]) (J1 := []) (st1 := []) (w1 := mkM σ) (pc2 := 108) (L2 := [some (.ref 0), some (.int x1)]) (J2 := []) (st2 := []) (w2 := mkM σ) (fun _ _ => rfl) h (fun h => ?_) (fun h => ?_)
                  · cases h
                    exact bfr_ret 3 (fun _ _ => rfl)
                  · refine bfr_br 3 (pc1 := 114) (L1 := [some (.ref 0), some (.int x1)]) (J1 := []) (st1 := []) (w1 := mkM σ) (pc2 := 119) (L2 := [some (.ref 0), some (.int x1)]) (J2 := []) (st2 := []) (w2 := mkM σ) (fun _ _ => rfl) h (fun h => ?_) (fun h => ?_)
                    · cases h
                      exact bfr_ret 3 (fun _ _ => rfl)
                    · refine bfr_br 3 (pc1 := 125) (L1 := [some (.ref 0), some (.int x1)]) (J1 := []) (st1 := []) (w1 := mkM σ) (pc2 := 130) (L2 := [some (.ref 0), some (.int x1)]) (J2 := []) (st2 := []) (w2 := mkM σ) (fun _ _ => rfl) h (fun h => ?_) (fun h => ?_)
                      · refine bfr_call 2 (d1 := d + 0) (M1 := M_X12_heldMany) (vs := [(.ref 0)]) (w1 := mkM σ) (pc2 := 129) (L2 := [some (.ref 0), some (.int x1)]) (J2 := []) (rest := []) (fun a => some (.int a.1)) (fun a => mkM a.2) (fun _ _ => rfl) h (fun a ha => k_m_heldMany n (d + 0) _ _ ha) (fun q1 _ h => ?_)
                        cases h
                        exact bfr_ret 1 (fun _ _ => rfl)
                      · refine bfr_br 3 (pc1 := 136) (L1 := [some (.ref 0), some (.int x1)]) (J1 := []) (st1 := []) (w1 := mkM σ) (pc2 := 141) (L2 := [some (.ref 0), some (.int x1)]) (J2 := []) (st2 := []) (w2 := mkM σ) (fun _ _ => rfl) h (fun h => ?_) (fun h => ?_)
                        · refine bfr_call 2 (d1 := d + 0) (M1 := M_X12_saidBy) (vs := [(.ref 0)]) (w1 := mkM σ) (pc2 := 140) (L2 := [some (.ref 0), some (.int x1)]) (J2 := []) (rest := []) (fun a => some (.int a.1)) (fun a => mkM a.2) (fun _ _ => rfl) h (fun a ha => k_m_saidBy n (d + 0) _ _ ha) (fun q2 _ h => ?_)
                          cases h
                          exact bfr_ret 1 (fun _ _ => rfl)
                        · refine bfr_br 3 (pc1 := 147) (L1 := [some (.ref 0), some (.int x1)]) (J1 := []) (st1 := []) (w1 := mkM σ) (pc2 := 156) (L2 := [some (.ref 0), some (.int x1)]) (J2 := []) (st2 := []) (w2 := mkM σ) (fun _ _ => rfl) h (fun h => ?_) (fun h => ?_)
                          · refine bfr_in (i := ci_0) (m := 8) 4 (pc1 := 153) (L1 := [some (.ref 0), some (.int x1)]) (J1 := []) (st1 := [(.int (sA σ 24 ci_0))]) (w1 := mkM σ) (fun _ _ => rfl) h (fun h => ?_)
                            refine bfr_run 1 157 [some (.ref 0), some (.int x1)] [] [(.int (sA σ 24 ci_0))] (mkM σ) (fun _ _ => rfl) ?_
                            exact k_m_count_b157 n d q _ _ _ _ h
                          · refine bfr_run 1 157 [some (.ref 0), some (.int x1)] [] [(.int ci_m1)] (mkM σ) (fun _ _ => rfl) ?_
                            exact k_m_count_b157 n d q _ _ _ _ h
