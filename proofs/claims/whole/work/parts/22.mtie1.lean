set_option maxRecDepth 100000 in
theorem k_m_joiner_b53 (n d : Nat) (q : (Int32 × bS)) (s0 : Int32) (o0 : Option Value) (σ : bS) (h : m_joiner_b53 n s0 σ = some q) : bfr MT (d + 1) M_X12_joiner 53 [o0] [] [(.int s0)] (mkM σ) (some (.int q.1), mkM q.2) := by
  unfold m_joiner_b53 at h
  cases h
  exact bfr_ret 1 (fun _ _ => rfl)
set_option maxRecDepth 100000 in
theorem k_m_joiner (n d : Nat) (q : (Int32 × bS)) (σ : bS) (h : m_joiner n σ = some q) : bfr MT (d + 1) M_X12_joiner 0 [some (.ref 0)] [] [] (mkM σ) (some (.int q.1), mkM q.2) := by
  unfold m_joiner at h
  refine bfr_call 3 (d1 := d + 0) (M1 := M_X12_isSign) (vs := [(.ref 0), (.int cb_43)]) (w1 := mkM σ) (pc2 := 6) (L2 := [some (.ref 0)]) (J2 := []) (rest := []) (fun a => some (.int a.1)) (fun a => mkM a.2) (fun _ _ => rfl) h (fun a ha => k_m_isSign n (d + 0) _ _ _ ha) (fun q1 _ h => ?_)
  refine bfr_br 1 (pc1 := 13) (L1 := [some (.ref 0)]) (J1 := []) (st1 := []) (w1 := mkM q1.2) (pc2 := 9) (L2 := [some (.ref 0)]) (J2 := []) (st2 := []) (w2 := mkM q1.2) (fun _ _ => rfl) h (fun h => ?_) (fun h => ?_)
  · refine bfr_call 3 (d1 := d + 0) (M1 := M_X12_isSign) (vs := [(.ref 0), (.int cb_45)]) (w1 := mkM q1.2) (pc2 := 19) (L2 := [some (.ref 0)]) (J2 := []) (rest := []) (fun a => some (.int a.1)) (fun a => mkM a.2) (fun _ _ => rfl) h (fun a ha => k_m_isSign n (d + 0) _ _ _ ha) (fun q2 _ h => ?_)
    refine bfr_br 1 (pc1 := 26) (L1 := [some (.ref 0)]) (J1 := []) (st1 := []) (w1 := mkM q2.2) (pc2 := 22) (L2 := [some (.ref 0)]) (J2 := []) (st2 := []) (w2 := mkM q2.2) (fun _ _ => rfl) h (fun h => ?_) (fun h => ?_)
    · refine bfr_call 3 (d1 := d + 0) (M1 := M_X12_isSign) (vs := [(.ref 0), (.int cb_42)]) (w1 := mkM q2.2) (pc2 := 32) (L2 := [some (.ref 0)]) (J2 := []) (rest := []) (fun a => some (.int a.1)) (fun a => mkM a.2) (fun _ _ => rfl) h (fun a ha => k_m_isSign n (d + 0) _ _ _ ha) (fun q3 _ h => ?_)
      refine bfr_br 1 (pc1 := 39) (L1 := [some (.ref 0)]) (J1 := []) (st1 := []) (w1 := mkM q3.2) (pc2 := 35) (L2 := [some (.ref 0)]) (J2 := []) (st2 := []) (w2 := mkM q3.2) (fun _ _ => rfl) h (fun h => ?_) (fun h => ?_)
      · refine bfr_call 3 (d1 := d + 0) (M1 := M_X12_isSign) (vs := [(.ref 0), (.int cb_47)]) (w1 := mkM q3.2) (pc2 := 45) (L2 := [some (.ref 0)]) (J2 := []) (rest := []) (fun a => some (.int a.1)) (fun a => mkM a.2) (fun _ _ => rfl) h (fun a ha => k_m_isSign n (d + 0) _ _ _ ha) (fun q4 _ h => ?_)
        refine bfr_br 1 (pc1 := 52) (L1 := [some (.ref 0)]) (J1 := []) (st1 := []) (w1 := mkM q4.2) (pc2 := 48) (L2 := [some (.ref 0)]) (J2 := []) (st2 := []) (w2 := mkM q4.2) (fun _ _ => rfl) h (fun h => ?_) (fun h => ?_)
        · refine bfr_run 1 53 [some (.ref 0)] [] [(.int ci_0)] (mkM q4.2) (fun _ _ => rfl) ?_
          exact k_m_joiner_b53 n d q _ _ _ h
        · refine bfr_run 2 53 [some (.ref 0)] [] [(.int ci_5)] (mkM q4.2) (fun _ _ => rfl) ?_
          exact k_m_joiner_b53 n d q _ _ _ h
      · refine bfr_run 2 53 [some (.ref 0)] [] [(.int ci_4)] (mkM q3.2) (fun _ _ => rfl) ?_
        exact k_m_joiner_b53 n d q _ _ _ h
    · refine bfr_run 2 53 [some (.ref 0)] [] [(.int ci_3)] (mkM q2.2) (fun _ _ => rfl) ?_
      exact k_m_joiner_b53 n d q _ _ _ h
  · refine bfr_run 2 53 [some (.ref 0)] [] [(.int ci_2)] (mkM q1.2) (fun _ _ => rfl) ?_
    exact k_m_joiner_b53 n d q _ _ _ h
set_option maxRecDepth 100000 in
theorem k_m_expr_b134 (n d : Nat) (r14 : Int32 → Int32 → bS → Option (Int32 × bS)) (q : (Int32 × bS)) (hr14 : ∀ (x1 : Int32) (x2 : Int32) (o3 : Option Value) (o4 : Option Value) (σ : bS), r14 x1 x2 σ = some q → bfr MT (d + 3) M_X12_expr 14 [some (.ref 0), some (.int x1), some (.int x2), o3, o4] [] [] (mkM σ) (some (.int q.1), mkM q.2)) (x1 : Int32) (x2 : Int32) (o3 : Option Value) (o4 : Option Value) (σ : bS) (h : m_expr_b134 n r14 x1 x2 σ = some q) : bfr MT (d + 3) M_X12_expr 134 [some (.ref 0), some (.int x1), some (.int x2), o3, o4] [] [] (mkM σ) (some (.int q.1), mkM q.2) := by
  unfold m_expr_b134 at h
  refine bfr_run 1 14 [some (.ref 0), some (.int x1), some (.int x2), o3, o4] [] [] (mkM σ) (fun _ _ => rfl) ?_
  exact hr14 _ _ _ _ _ h
set_option maxRecDepth 100000 in
theorem k_m_expr_b126 (n d : Nat) (r14 : Int32 → Int32 → bS → Option (Int32 × bS)) (q : (Int32 × bS)) (hr14 : ∀ (x1 : Int32) (x2 : Int32) (o3 : Option Value) (o4 : Option Value) (σ : bS), r14 x1 x2 σ = some q → bfr MT (d + 3) M_X12_expr 14 [some (.ref 0), some (.int x1), some (.int x2), o3, o4] [] [] (mkM σ) (some (.int q.1), mkM q.2)) (x1 : Int32) (x2 : Int32) (s1 : Int32) (o3 : Option Value) (o4 : Option Value) (σ : bS) (h : m_expr_b126 n r14 x1 x2 s1 σ = some q) : bfr MT (d + 3) M_X12_expr 126 [some (.ref 0), some (.int x1), some (.int x2), o3, o4] [] [(.int s1), (.ref 0)] (mkM σ) (some (.int q.1), mkM q.2) := by
  unfold m_expr_b126 at h
  refine bfr_run 1 129 [some (.ref 0), some (.int x1), some (.int x2), o3, o4] [] [] ((mkM σ).set 0 (.inr (.inr (12, (mkM_0 σ).set 38 (.int s1))))) (fun _ _ => rfl) ?_
  rw [mkM_I0_38]
  refine bfr_run 1 134 [some (.ref 0), some (.int x1), some (.int x2), o3, o4] [] [] (mkM (uI σ 0 38 s1)) (fun _ _ => rfl) ?_
  exact k_m_expr_b134 n d _ q hr14 _ _ _ _ _ h
set_option maxRecDepth 100000 in
theorem k_m_expr_b116 (n d : Nat) (r14 : Int32 → Int32 → bS → Option (Int32 × bS)) (q : (Int32 × bS)) (hr14 : ∀ (x1 : Int32) (x2 : Int32) (o3 : Option Value) (o4 : Option Value) (σ : bS), r14 x1 x2 σ = some q → bfr MT (d + 3) M_X12_expr 14 [some (.ref 0), some (.int x1), some (.int x2), o3, o4] [] [] (mkM σ) (some (.int q.1), mkM q.2)) (x1 : Int32) (x2 : Int32) (s1 : Int32) (o3 : Option Value) (o4 : Option Value) (σ : bS) (h : m_expr_b116 n r14 x1 x2 s1 σ = some q) : bfr MT (d + 3) M_X12_expr 116 [some (.ref 0), some (.int x1), some (.int x2), o3, o4] [] [(.int s1), (.ref 0)] (mkM σ) (some (.int q.1), mkM q.2) := by
  unfold m_expr_b116 at h
  refine bfr_run 1 119 [some (.ref 0), some (.int x1), some (.int x2), o3, o4] [] [] ((mkM σ).set 0 (.inr (.inr (12, (mkM_0 σ).set 36 (.int s1))))) (fun _ _ => rfl) ?_
  rw [mkM_I0_36]
  refine bfr_run 5 126 [some (.ref 0), some (.int x1), some (.int x2), o3, o4] [] [(.int ((sI (uI σ 0 36 s1) 0 38) - ci_1)), (.ref 0)] (mkM (uI σ 0 36 s1)) (fun _ _ => rfl) ?_
  exact k_m_expr_b126 n d _ q hr14 _ _ _ _ _ _ h
set_option maxRecDepth 100000 in
theorem k_m_expr_b51 (n d : Nat) (r14 : Int32 → Int32 → bS → Option (Int32 × bS)) (q : (Int32 × bS)) (hr14 : ∀ (x1 : Int32) (x2 : Int32) (o3 : Option Value) (o4 : Option Value) (σ : bS), r14 x1 x2 σ = some q → bfr MT (d + 3) M_X12_expr 14 [some (.ref 0), some (.int x1), some (.int x2), o3, o4] [] [] (mkM σ) (some (.int q.1), mkM q.2)) (x2 : Int32) (s0 : Int32) (o1 : Option Value) (o3 : Option Value) (o4 : Option Value) (σ : bS) (h : m_expr_b51 n r14 x2 s0 σ = some q) : bfr MT (d + 3) M_X12_expr 51 [some (.ref 0), o1, some (.int x2), o3, o4] [] [(.int s0)] (mkM σ) (some (.int q.1), mkM q.2) := by
  unfold m_expr_b51 at h
  refine bfr_run 2 134 [some (.ref 0), some (.int s0), some (.int x2), o3, o4] [] [] (mkM σ) (fun _ _ => rfl) ?_
  exact k_m_expr_b134 n d _ q hr14 _ _ _ _ _ h
set_option maxRecDepth 100000 in
theorem k_m_expr_b14 (n d : Nat) (q : (Int32 × bS)) : ∀ (k : Nat) (x1 : Int32) (x2 : Int32) (o3 : Option Value) (o4 : Option Value) (σ : bS), m_expr_b14 n k x1 x2 σ = some q → bfr MT (d + 3) M_X12_expr 14 [some (.ref 0), some (.int x1), some (.int x2), o3, o4] [] [] (mkM σ) (some (.int q.1), mkM q.2) := by
  intro k
  induction k with
  | zero => intro x1 x2 o3 o4 σ h; exact bno h
  | succ k ih =>
    intro x1 x2 o3 o4 σ h
    unfold m_expr_b14 at h
    refine bfr_br 2 (pc1 := 137) (L1 := [some (.ref 0), some (.int x1), some (.int x2), o3, o4]) (J1 := []) (st1 := []) (w1 := mkM σ) (pc2 := 18) (L2 := [some (.ref 0), some (.int x1), some (.int x2), o3, o4]) (J2 := []) (st2 := []) (w2 := mkM σ) (fun _ _ => rfl) h (fun h => ?_) (fun h => ?_)
    · refine bfr_call 3 (d1 := d + 2) (M1 := M_X12_reduce) (vs := [(.ref 0), (.int ci_1)]) (w1 := mkM σ) (pc2 := 142) (L2 := [some (.ref 0), some (.int x1), some (.int x2), o3, o4]) (J2 := []) (rest := []) (fun _ => none) (fun a => mkM a) (fun _ _ => rfl) h (fun a ha => k_m_reduce n (d + 1) _ _ _ ha) (fun q1 _ h => ?_)
      exact bfr_bz (mk := mkM) 2 (fun _ _ => rfl) h
    · refine bfr_call 2 (d1 := d + 2) (M1 := M_X12_joiner) (vs := [(.ref 0)]) (w1 := mkM σ) (pc2 := 22) (L2 := [some (.ref 0), some (.int x1), some (.int x2), o3, o4]) (J2 := []) (rest := []) (fun a => some (.int a.1)) (fun a => mkM a.2) (fun _ _ => rfl) h (fun a ha => k_m_joiner n (d + 1) _ _ ha) (fun q2 _ h => ?_)
      refine bfr_br 3 (pc1 := 55) (L1 := [some (.ref 0), some (.int x1), some (.int x2), some (.int q2.1), o4]) (J1 := []) (st1 := []) (w1 := mkM q2.2) (pc2 := 27) (L2 := [some (.ref 0), some (.int x1), some (.int x2), some (.int q2.1), o4]) (J2 := []) (st2 := []) (w2 := mkM q2.2) (fun _ _ => rfl) h (fun h => ?_) (fun h => ?_)
      · refine bfr_br 2 (pc1 := 86) (L1 := [some (.ref 0), some (.int x1), some (.int x2), some (.int q2.1), o4]) (J1 := []) (st1 := []) (w1 := mkM q2.2) (pc2 := 59) (L2 := [some (.ref 0), some (.int x1), some (.int x2), some (.int q2.1), o4]) (J2 := []) (st2 := []) (w2 := mkM q2.2) (fun _ _ => rfl) h (fun h => ?_) (fun h => ?_)
        · refine bfr_br 3 (pc1 := 132) (L1 := [some (.ref 0), some (.int x1), some (.int x2), some (.int q2.1), o4]) (J1 := []) (st1 := []) (w1 := mkM q2.2) (pc2 := 93) (L2 := [some (.ref 0), some (.int x1), some (.int x2), some (.int q2.1), o4]) (J2 := []) (st2 := []) (w2 := mkM q2.2) (fun _ _ => rfl) h (fun h => ?_) (fun h => ?_)
          · refine bfr_run 2 134 [some (.ref 0), some (.int x1), some (.int ci_0), some (.int q2.1), o4] [] [] (mkM q2.2) (fun _ _ => rfl) ?_
            exact k_m_expr_b134 n d _ q (ih) _ _ _ _ _ h
          · refine bfr_call 3 (d1 := d + 2) (M1 := M_X12_takesSign) (vs := [(.ref 0), (.int cb_41)]) (w1 := mkM q2.2) (pc2 := 99) (L2 := [some (.ref 0), some (.int x1), some (.int x2), some (.int q2.1), o4]) (J2 := []) (rest := []) (fun a => some (.int a.1)) (fun a => mkM a.2) (fun _ _ => rfl) h (fun a ha => k_m_takesSign n (d + 0) _ _ _ ha) (fun q3 _ h => ?_)
            refine bfr_br 1 (pc1 := 102) (L1 := [some (.ref 0), some (.int x1), some (.int x2), some (.int q2.1), o4]) (J1 := []) (st1 := []) (w1 := mkM q3.2) (pc2 := 104) (L2 := [some (.ref 0), some (.int x1), some (.int x2), some (.int q2.1), o4]) (J2 := []) (st2 := []) (w2 := mkM q3.2) (fun _ _ => rfl) h (fun h => ?_) (fun h => ?_)
            · exact bfr_bz (mk := mkM) 2 (fun _ _ => rfl) h
            · refine bfr_call 3 (d1 := d + 2) (M1 := M_X12_reduce) (vs := [(.ref 0), (.int ci_1)]) (w1 := mkM q3.2) (pc2 := 109) (L2 := [some (.ref 0), some (.int x1), some (.int x2), some (.int q2.1), o4]) (J2 := []) (rest := []) (fun _ => none) (fun a => mkM a) (fun _ _ => rfl) h (fun a ha => k_m_reduce n (d + 1) _ _ _ ha) (fun q4 _ h => ?_)
              refine bfr_run 5 116 [some (.ref 0), some (.int x1), some (.int x2), some (.int q2.1), o4] [] [(.int ((sI q4 0 36) - ci_1)), (.ref 0)] (mkM q4) (fun _ _ => rfl) ?_
              exact k_m_expr_b116 n d _ q (ih) _ _ _ _ _ _ h
        · refine bfr_call 3 (d1 := d + 2) (M1 := M_X12_rank) (vs := [(.int q2.1)]) (w1 := mkM q2.2) (pc2 := 64) (L2 := [some (.ref 0), some (.int x1), some (.int x2), some (.int q2.1), o4]) (J2 := []) (rest := [(.ref 0)]) (fun a => some (.int a.1)) (fun a => mkM a.2) (fun _ _ => rfl) h (fun a ha => k_m_rank n (d + 2) _ _ _ ha) (fun q5 _ h => ?_)
          refine bfr_call 1 (d1 := d + 2) (M1 := M_X12_reduce) (vs := [(.ref 0), (.int q5.1)]) (w1 := mkM q5.2) (pc2 := 67) (L2 := [some (.ref 0), some (.int x1), some (.int x2), some (.int q2.1), o4]) (J2 := []) (rest := []) (fun _ => none) (fun a => mkM a) (fun _ _ => rfl) h (fun a ha => k_m_reduce n (d + 1) _ _ _ ha) (fun q6 _ h => ?_)
          refine bfr_call 3 (d1 := d + 2) (M1 := M_X12_await) (vs := [(.ref 0), (.int q2.1)]) (w1 := mkM q6) (pc2 := 72) (L2 := [some (.ref 0), some (.int x1), some (.int x2), some (.int q2.1), o4]) (J2 := []) (rest := []) (fun _ => none) (fun a => mkM a) (fun _ _ => rfl) h (fun a ha => k_m_await n (d + 2) _ _ _ ha) (fun q7 _ h => ?_)
          refine bfr_call 2 (d1 := d + 2) (M1 := M_X12_pass) (vs := [(.ref 0)]) (w1 := mkM q7) (pc2 := 76) (L2 := [some (.ref 0), some (.int x1), some (.int x2), some (.int q2.1), o4]) (J2 := []) (rest := []) (fun a => some (.int a.1)) (fun a => mkM a.2) (fun _ _ => rfl) h (fun a ha => k_m_pass n (d + 1) _ _ ha) (fun q8 _ h => ?_)
          refine bfr_br 1 (pc1 := 79) (L1 := [some (.ref 0), some (.int x1), some (.int x2), some (.int q2.1), o4]) (J1 := []) (st1 := []) (w1 := mkM q8.2) (pc2 := 81) (L2 := [some (.ref 0), some (.int x1), some (.int x2), some (.int q2.1), o4]) (J2 := []) (st2 := []) (w2 := mkM q8.2) (fun _ _ => rfl) h (fun h => ?_) (fun h => ?_)
          · exact bfr_bz (mk := mkM) 2 (fun _ _ => rfl) h
          · refine bfr_run 3 134 [some (.ref 0), some (.int ci_1), some (.int x2), some (.int q2.1), o4] [] [] (mkM q8.2) (fun _ _ => rfl) ?_
            exact k_m_expr_b134 n d _ q (ih) _ _ _ _ _ h
      · refine bfr_call 2 (d1 := d + 2) (M1 := M_X12_takesUnit) (vs := [(.ref 0)]) (w1 := mkM q2.2) (pc2 := 31) (L2 := [some (.ref 0), some (.int x1), some (.int x2), some (.int q2.1), o4]) (J2 := []) (rest := []) (fun a => some (.int a.1)) (fun a => mkM a.2) (fun _ _ => rfl) h (fun a ha => k_m_takesUnit n (d + 0) _ _ ha) (fun q9 _ h => ?_)
        refine bfr_br 3 (pc1 := 40) (L1 := [some (.ref 0), some (.int x1), some (.int x2), some (.int q2.1), some (.int q9.1)]) (J1 := []) (st1 := []) (w1 := mkM q9.2) (pc2 := 38) (L2 := [some (.ref 0), some (.int x1), some (.int x2), some (.int q2.1), some (.int q9.1)]) (J2 := []) (st2 := []) (w2 := mkM q9.2) (fun _ _ => rfl) h (fun h => ?_) (fun h => ?_)
        · refine bfr_br 3 (pc1 := 46) (L1 := [some (.ref 0), some (.int x1), some (.int x2), some (.int q2.1), some (.int q9.1)]) (J1 := []) (st1 := []) (w1 := mkM q9.2) (pc2 := 50) (L2 := [some (.ref 0), some (.int x1), some (.int x2), some (.int q2.1), some (.int q9.1)]) (J2 := []) (st2 := []) (w2 := mkM q9.2) (fun _ _ => rfl) h (fun h => ?_) (fun h => ?_)
          · refine bfr_run 2 51 [some (.ref 0), some (.int x1), some (.int x2), some (.int q2.1), some (.int q9.1)] [] [(.int ci_1)] (mkM q9.2) (fun _ _ => rfl) ?_
            exact k_m_expr_b51 n d _ q (ih) _ _ _ _ _ _ h
          · refine bfr_run 1 51 [some (.ref 0), some (.int x1), some (.int x2), some (.int q2.1), some (.int q9.1)] [] [(.int ci_0)] (mkM q9.2) (fun _ _ => rfl) ?_
            exact k_m_expr_b51 n d _ q (ih) _ _ _ _ _ _ h
        · exact bfr_bz (mk := mkM) 2 (fun _ _ => rfl) h
set_option maxRecDepth 100000 in
theorem k_m_expr (n d : Nat) (q : (Int32 × bS)) (σ : bS) (h : m_expr n σ = some q) : bfr MT (d + 3) M_X12_expr 0 [some (.ref 0), none, none, none, none] [] [] (mkM σ) (some (.int q.1), mkM q.2) := by
  unfold m_expr at h
  refine bfr_run 3 5 [some (.ref 0), none, none, none, none] [] [] ((mkM σ).set 0 (.inr (.inr (12, (mkM_0 σ).set 36 (.int ci_0))))) (fun _ _ => rfl) ?_
  rw [mkM_I0_36]
  refine bfr_run 3 10 [some (.ref 0), none, none, none, none] [] [] ((mkM (uI σ 0 36 ci_0)).set 0 (.inr (.inr (12, (mkM_0 (uI σ 0 36 ci_0)).set 38 (.int ci_0))))) (fun _ _ => rfl) ?_
  rw [mkM_I0_38]
  refine bfr_run 4 14 [some (.ref 0), some (.int ci_1), some (.int ci_1), none, none] [] [] (mkM (uI (uI σ 0 36 ci_0) 0 38 ci_0)) (fun _ _ => rfl) ?_
  exact k_m_expr_b14 n d q _ _ _ _ _ _ h
set_option maxRecDepth 100000 in
theorem k_m_sumOf_b57 (n d : Nat) (q : (Int32 × bS)) (o0 : Option Value) (o1 : Option Value) (o2 : Option Value) (o3 : Option Value) (σ : bS) (h : m_sumOf_b57 n σ = some q) : bfr MT (d + 4) M_X12_sumOf 57 [o0, o1, o2, o3] [] [] (mkM σ) (some (.int q.1), mkM q.2) := by
  unfold m_sumOf_b57 at h
  exact bfr_bz (mk := mkM) 2 (fun _ _ => rfl) h
set_option maxRecDepth 100000 in
theorem k_m_sumOf (n d : Nat) (q : (Int32 × bS)) (x1 : Int32) (x2 : Int32) (σ : bS) (h : m_sumOf n x1 x2 σ = some q) : bfr MT (d + 4) M_X12_sumOf 0 [some (.ref 0), some (.int x1), some (.int x2), none] [] [] (mkM σ) (some (.int q.1), mkM q.2) := by
  unfold m_sumOf at h
  refine bfr_in (i := ci_1) (m := 2) 4 (pc1 := 6) (L1 := [some (.ref 0), some (.int x1), some (.int x2), none]) (J1 := []) (st1 := [(.int (sA σ 6 ci_1))]) (w1 := mkM σ) (fun _ _ => rfl) h (fun h => ?_)
  refine bfr_call 3 (d1 := d + 3) (M1 := M_X12_expr) (vs := [(.ref 0)]) (w1 := mkM σ) (pc2 := 11) (L2 := [some (.ref 0), some (.int x1), some (.int x2), some (.int (sA σ 6 ci_1))]) (J2 := []) (rest := []) (fun a => some (.int a.1)) (fun a => mkM a.2) (fun _ _ => rfl) h (fun a ha => k_m_expr n (d + 0) _ _ ha) (fun q1 _ h => ?_)
  refine bfr_br 1 (pc1 := 14) (L1 := [some (.ref 0), some (.int x1), some (.int x2), some (.int (sA σ 6 ci_1))]) (J1 := []) (st1 := []) (w1 := mkM q1.2) (pc2 := 16) (L2 := [some (.ref 0), some (.int x1), some (.int x2), some (.int (sA σ 6 ci_1))]) (J2 := []) (st2 := []) (w2 := mkM q1.2) (fun _ _ => rfl) h (fun h => ?_) (fun h => ?_)
  · exact bfr_bz (mk := mkM) 2 (fun _ _ => rfl) h
  · refine bfr_br 2 (pc1 := 57) (L1 := [some (.ref 0), some (.int x1), some (.int x2), some (.int (sA σ 6 ci_1))]) (J1 := []) (st1 := []) (w1 := mkM q1.2) (pc2 := 20) (L2 := [some (.ref 0), some (.int x1), some (.int x2), some (.int (sA σ 6 ci_1))]) (J2 := []) (st2 := []) (w2 := mkM q1.2) (fun _ _ => rfl) h (fun h => ?_) (fun h => ?_)
    · exact k_m_sumOf_b57 n d q _ _ _ _ _ h
    · refine bfr_run 6 31 [some (.ref 0), some (.int x1), some (.int x2), some (.int (sA σ 6 ci_1))] [] [(.int (cb_14 * x1)), (.int cs_196), (.ref 10)] (mkM q1.2) (fun _ _ => rfl) ?_
      refine bfr_in (i := ((cs_196 + (cb_14 * x1)) + x2)) (m := 392) 5 (pc1 := 36) (L1 := [some (.ref 0), some (.int x1), some (.int x2), some (.int (sA σ 6 ci_1))]) (J1 := []) (st1 := []) (w1 := ((mkM q1.2).set 10 (.inl (0, 392, upd (q1.2.2.1 10) (((cs_196 + (cb_14 * x1)) + x2)).toNatClampNeg (sA σ 6 ci_1))))) (fun _ _ => rfl) h (fun h => ?_)
      rw [mkM_A10]
      refine bfr_run 6 47 [some (.ref 0), some (.int x1), some (.int x2), some (.int (sA σ 6 ci_1))] [] [(.int (cb_14 * x1)), (.int cs_196), (.ref 11)] (mkM (uA q1.2 10 ((cs_196 + (cb_14 * x1)) + x2) (sA σ 6 ci_1))) (fun _ _ => rfl) ?_
      refine bfr_run 6 55 [some (.ref 0), some (.int x1), some (.int x2), some (.int (sA σ 6 ci_1))] [] [(.int ci_1), (.ref 6), (.int ((cs_196 + (cb_14 * x1)) + x2)), (.ref 11)] (mkM (uA q1.2 10 ((cs_196 + (cb_14 * x1)) + x2) (sA σ 6 ci_1))) (fun _ _ => rfl) ?_
      refine bfr_in (i := ci_1) (m := 2) 1 (pc1 := 56) (L1 := [some (.ref 0), some (.int x1), some (.int x2), some (.int (sA σ 6 ci_1))]) (J1 := []) (st1 := [(.int (sA (uA q1.2 10 ((cs_196 + (cb_14 * x1)) + x2) (sA σ 6 ci_1)) 6 ci_1)), (.int ((cs_196 + (cb_14 * x1)) + x2)), (.ref 11)]) (w1 := mkM (uA q1.2 10 ((cs_196 + (cb_14 * x1)) + x2) (sA σ 6 ci_1))) (fun _ _ => rfl) h (fun h => ?_)
      refine bfr_in (i := ((cs_196 + (cb_14 * x1)) + x2)) (m := 392) 1 (pc1 := 57) (L1 := [some (.ref 0), some (.int x1), some (.int x2), some (.int (sA σ 6 ci_1))]) (J1 := []) (st1 := []) (w1 := ((mkM (uA q1.2 10 ((cs_196 + (cb_14 * x1)) + x2) (sA σ 6 ci_1))).set 11 (.inl (0, 392, upd ((uA q1.2 10 ((cs_196 + (cb_14 * x1)) + x2) (sA σ 6 ci_1)).2.1 11) (((cs_196 + (cb_14 * x1)) + x2)).toNatClampNeg (sA (uA q1.2 10 ((cs_196 + (cb_14 * x1)) + x2) (sA σ 6 ci_1)) 6 ci_1))))) (fun _ _ => rfl) h (fun h => ?_)
      rw [mkM_A11]
      exact k_m_sumOf_b57 n d q _ _ _ _ _ h
set_option maxRecDepth 100000 in
theorem k_m_lawTold_b145 (n d : Nat) (q : (Int32 × bS)) (o0 : Option Value) (o1 : Option Value) (o2 : Option Value) (σ : bS) (h : m_lawTold_b145 n σ = some q) : bfr MT (d + 5) M_X12_lawTold 145 [o0, o1, o2] [] [] (mkM σ) (some (.int q.1), mkM q.2) := by
  unfold m_lawTold_b145 at h
  exact bfr_bz (mk := mkM) 2 (fun _ _ => rfl) h
set_option maxRecDepth 100000 in
theorem k_m_lawTold_b99 (n d : Nat) (r13 : Int32 → Int32 → bS → Option (Int32 × bS)) (q : (Int32 × bS)) (hr13 : ∀ (x1 : Int32) (x2 : Int32) (σ : bS), r13 x1 x2 σ = some q → bfr MT (d + 5) M_X12_lawTold 13 [some (.ref 0), some (.int x1), some (.int x2)] [] [] (mkM σ) (some (.int q.1), mkM q.2)) (o0 : Option Value) (o1 : Option Value) (o2 : Option Value) (σ : bS) (h : m_lawTold_b99 n r13 σ = some q) : bfr MT (d + 5) M_X12_lawTold 99 [o0, o1, o2] [] [] (mkM σ) (some (.int q.1), mkM q.2) := by
  unfold m_lawTold_b99 at h
  exact bfr_bz (mk := mkM) 2 (fun _ _ => rfl) h
set_option maxRecDepth 100000 in
theorem k_m_lawTold_b75 (n d : Nat) (r13 : Int32 → Int32 → bS → Option (Int32 × bS)) (q : (Int32 × bS)) (hr13 : ∀ (x1 : Int32) (x2 : Int32) (σ : bS), r13 x1 x2 σ = some q → bfr MT (d + 5) M_X12_lawTold 13 [some (.ref 0), some (.int x1), some (.int x2)] [] [] (mkM σ) (some (.int q.1), mkM q.2)) (o0 : Option Value) (o1 : Option Value) (o2 : Option Value) (σ : bS) (h : m_lawTold_b75 n r13 σ = some q) : bfr MT (d + 5) M_X12_lawTold 75 [o0, o1, o2] [] [] (mkM σ) (some (.int q.1), mkM q.2) := by
  unfold m_lawTold_b75 at h
  exact bfr_bz (mk := mkM) 2 (fun _ _ => rfl) h
set_option maxRecDepth 100000 in
theorem k_m_lawTold_b51 (n d : Nat) (r13 : Int32 → Int32 → bS → Option (Int32 × bS)) (q : (Int32 × bS)) (hr13 : ∀ (x1 : Int32) (x2 : Int32) (σ : bS), r13 x1 x2 σ = some q → bfr MT (d + 5) M_X12_lawTold 13 [some (.ref 0), some (.int x1), some (.int x2)] [] [] (mkM σ) (some (.int q.1), mkM q.2)) (o0 : Option Value) (o1 : Option Value) (o2 : Option Value) (σ : bS) (h : m_lawTold_b51 n r13 σ = some q) : bfr MT (d + 5) M_X12_lawTold 51 [o0, o1, o2] [] [] (mkM σ) (some (.int q.1), mkM q.2) := by
  unfold m_lawTold_b51 at h
  exact bfr_bz (mk := mkM) 2 (fun _ _ => rfl) h
set_option maxRecDepth 100000 in
theorem k_m_lawTold_b13 (n d : Nat) (q : (Int32 × bS)) : ∀ (k : Nat) (x1 : Int32) (x2 : Int32) (σ : bS), m_lawTold_b13 n k x1 x2 σ = some q → bfr MT (d + 5) M_X12_lawTold 13 [some (.ref 0), some (.int x1), some (.int x2)] [] [] (mkM σ) (some (.int q.1), mkM q.2) := by
  intro k
  induction k with
  | zero => intro x1 x2 σ h; exact bno h
  | succ k ih =>
    intro x1 x2 σ h
    unfold m_lawTold_b13 at h
    refine bfr_call 3 (d1 := d + 4) (M1 := M_X12_isWord) (vs := [(.ref 0), (.int cb_13)]) (w1 := mkM σ) (pc2 := 19) (L2 := [some (.ref 0), some (.int x1), some (.int x2)]) (J2 := []) (rest := []) (fun a => some (.int a.1)) (fun a => mkM a.2) (fun _ _ => rfl) h (fun a ha => k_m_isWord n (d + 4) _ _ _ ha) (fun q1 _ h => ?_)
    refine bfr_br 1 (pc1 := 118) (L1 := [some (.ref 0), some (.int x1), some (.int x2)]) (J1 := []) (st1 := []) (w1 := mkM q1.2) (pc2 := 22) (L2 := [some (.ref 0), some (.int x1), some (.int x2)]) (J2 := []) (st2 := []) (w2 := mkM q1.2) (fun _ _ => rfl) h (fun h => ?_) (fun h => ?_)
    · refine bfr_call 6 (d1 := d + 4) (M1 := M_X12_sumOf) (vs := [(.ref 0), (.int x1), (.int (ci_3 * x2))]) (w1 := mkM q1.2) (pc2 := 126) (L2 := [some (.ref 0), some (.int x1), some (.int x2)]) (J2 := []) (rest := []) (fun a => some (.int a.1)) (fun a => mkM a.2) (fun _ _ => rfl) h (fun a ha => k_m_sumOf n (d + 0) _ _ _ _ ha) (fun q2 _ h => ?_)
      refine bfr_br 1 (pc1 := 129) (L1 := [some (.ref 0), some (.int x1), some (.int x2)]) (J1 := []) (st1 := []) (w1 := mkM q2.2) (pc2 := 131) (L2 := [some (.ref 0), some (.int x1), some (.int x2)]) (J2 := []) (st2 := []) (w2 := mkM q2.2) (fun _ _ => rfl) h (fun h => ?_) (fun h => ?_)
      · exact bfr_bz (mk := mkM) 2 (fun _ _ => rfl) h
      · refine bfr_br 2 (pc1 := 145) (L1 := [some (.ref 0), some (.int x1), some (.int x2)]) (J1 := []) (st1 := []) (w1 := mkM q2.2) (pc2 := 135) (L2 := [some (.ref 0), some (.int x1), some (.int x2)]) (J2 := []) (st2 := []) (w2 := mkM q2.2) (fun _ _ => rfl) h (fun h => ?_) (fun h => ?_)
        · exact k_m_lawTold_b145 n d q _ _ _ _ h
        · refine bfr_run 6 144 [some (.ref 0), some (.int x1), some (.int x2)] [] [(.int x2), (.int (cb_14 + x1)), (.ref 9)] (mkM q2.2) (fun _ _ => rfl) ?_
          refine bfr_in (i := (cb_14 + x1)) (m := 28) 1 (pc1 := 145) (L1 := [some (.ref 0), some (.int x1), some (.int x2)]) (J1 := []) (st1 := []) (w1 := ((mkM q2.2).set 9 (.inl (0, 28, upd (q2.2.2.1 9) ((cb_14 + x1)).toNatClampNeg x2)))) (fun _ _ => rfl) h (fun h => ?_)
          rw [mkM_A9]
          exact k_m_lawTold_b145 n d q _ _ _ _ h
    · refine bfr_br 3 (pc1 := 27) (L1 := [some (.ref 0), some (.int x1), some (.int x2)]) (J1 := []) (st1 := []) (w1 := mkM q1.2) (pc2 := 33) (L2 := [some (.ref 0), some (.int x1), some (.int x2)]) (J2 := []) (st2 := []) (w2 := mkM q1.2) (fun _ _ => rfl) h (fun h => ?_) (fun h => ?_)
      · refine bfr_call 3 (d1 := d + 4) (M1 := M_X12_wrong) (vs := [(.ref 0), (.int ci_2)]) (w1 := mkM q1.2) (pc2 := 32) (L2 := [some (.ref 0), some (.int x1), some (.int x2)]) (J2 := []) (rest := []) (fun a => some (.int a.1)) (fun a => mkM a.2) (fun _ _ => rfl) h (fun a ha => k_m_wrong n (d + 4) _ _ _ ha) (fun q3 _ h => ?_)
        exact bfr_bz (mk := mkM) 1 (fun _ _ => rfl) h
      · refine bfr_call 2 (d1 := d + 4) (M1 := M_X12_pass) (vs := [(.ref 0)]) (w1 := mkM q1.2) (pc2 := 37) (L2 := [some (.ref 0), some (.int x1), some (.int x2)]) (J2 := []) (rest := []) (fun a => some (.int a.1)) (fun a => mkM a.2) (fun _ _ => rfl) h (fun a ha => k_m_pass n (d + 3) _ _ ha) (fun q4 _ h => ?_)
        refine bfr_br 1 (pc1 := 51) (L1 := [some (.ref 0), some (.int x1), some (.int x2)]) (J1 := []) (st1 := []) (w1 := mkM q4.2) (pc2 := 40) (L2 := [some (.ref 0), some (.int x1), some (.int x2)]) (J2 := []) (st2 := []) (w2 := mkM q4.2) (fun _ _ => rfl) h (fun h => ?_) (fun h => ?_)
        · exact k_m_lawTold_b51 n d _ q (ih) _ _ _ _ h
        · refine bfr_call 6 (d1 := d + 4) (M1 := M_X12_sumOf) (vs := [(.ref 0), (.int x1), (.int (ci_3 * x2))]) (w1 := mkM q4.2) (pc2 := 48) (L2 := [some (.ref 0), some (.int x1), some (.int x2)]) (J2 := []) (rest := []) (fun a => some (.int a.1)) (fun a => mkM a.2) (fun _ _ => rfl) h (fun a ha => k_m_sumOf n (d + 0) _ _ _ _ ha) (fun q5 _ h => ?_)
          refine bfr_br 1 (pc1 := 51) (L1 := [some (.ref 0), some (.int x1), some (.int x2)]) (J1 := []) (st1 := []) (w1 := mkM q5.2) (pc2 := 53) (L2 := [some (.ref 0), some (.int x1), some (.int x2)]) (J2 := []) (st2 := []) (w2 := mkM q5.2) (fun _ _ => rfl) h (fun h => ?_) (fun h => ?_)
          · exact k_m_lawTold_b51 n d _ q (ih) _ _ _ _ h
          · refine bfr_call 3 (d1 := d + 4) (M1 := M_X12_takesSign) (vs := [(.ref 0), (.int cb_60)]) (w1 := mkM q5.2) (pc2 := 59) (L2 := [some (.ref 0), some (.int x1), some (.int x2)]) (J2 := []) (rest := []) (fun a => some (.int a.1)) (fun a => mkM a.2) (fun _ _ => rfl) h (fun a ha => k_m_takesSign n (d + 2) _ _ _ ha) (fun q6 _ h => ?_)
            refine bfr_br 1 (pc1 := 75) (L1 := [some (.ref 0), some (.int x1), some (.int x2)]) (J1 := []) (st1 := []) (w1 := mkM q6.2) (pc2 := 62) (L2 := [some (.ref 0), some (.int x1), some (.int x2)]) (J2 := []) (st2 := []) (w2 := mkM q6.2) (fun _ _ => rfl) h (fun h => ?_) (fun h => ?_)
            · exact k_m_lawTold_b75 n d _ q (ih) _ _ _ _ h
            · refine bfr_run 6 68 [some (.ref 0), some (.int x1), some (.int x2)] [] [(.int ci_1), (.int (ci_3 * x2)), (.int x1), (.ref 0)] (mkM q6.2) (fun _ _ => rfl) ?_
              refine bfr_call 2 (d1 := d + 4) (M1 := M_X12_sumOf) (vs := [(.ref 0), (.int x1), (.int ((ci_3 * x2) + ci_1))]) (w1 := mkM q6.2) (pc2 := 72) (L2 := [some (.ref 0), some (.int x1), some (.int x2)]) (J2 := []) (rest := []) (fun a => some (.int a.1)) (fun a => mkM a.2) (fun _ _ => rfl) h (fun a ha => k_m_sumOf n (d + 0) _ _ _ _ ha) (fun q7 _ h => ?_)
              refine bfr_br 1 (pc1 := 75) (L1 := [some (.ref 0), some (.int x1), some (.int x2)]) (J1 := []) (st1 := []) (w1 := mkM q7.2) (pc2 := 77) (L2 := [some (.ref 0), some (.int x1), some (.int x2)]) (J2 := []) (st2 := []) (w2 := mkM q7.2) (fun _ _ => rfl) h (fun h => ?_) (fun h => ?_)
              · exact k_m_lawTold_b75 n d _ q (ih) _ _ _ _ h
              · refine bfr_call 3 (d1 := d + 4) (M1 := M_X12_takesWord) (vs := [(.ref 0), (.int cb_14)]) (w1 := mkM q7.2) (pc2 := 83) (L2 := [some (.ref 0), some (.int x1), some (.int x2)]) (J2 := []) (rest := []) (fun a => some (.int a.1)) (fun a => mkM a.2) (fun _ _ => rfl) h (fun a ha => k_m_takesWord n (d + 2) _ _ _ ha) (fun q8 _ h => ?_)
                refine bfr_br 1 (pc1 := 99) (L1 := [some (.ref 0), some (.int x1), some (.int x2)]) (J1 := []) (st1 := []) (w1 := mkM q8.2) (pc2 := 86) (L2 := [some (.ref 0), some (.int x1), some (.int x2)]) (J2 := []) (st2 := []) (w2 := mkM q8.2) (fun _ _ => rfl) h (fun h => ?_) (fun h => ?_)
                · exact k_m_lawTold_b99 n d _ q (ih) _ _ _ _ h
                · refine bfr_run 6 92 [some (.ref 0), some (.int x1), some (.int x2)] [] [(.int ci_2), (.int (ci_3 * x2)), (.int x1), (.ref 0)] (mkM q8.2) (fun _ _ => rfl) ?_
                  refine bfr_call 2 (d1 := d + 4) (M1 := M_X12_sumOf) (vs := [(.ref 0), (.int x1), (.int ((ci_3 * x2) + ci_2))]) (w1 := mkM q8.2) (pc2 := 96) (L2 := [some (.ref 0), some (.int x1), some (.int x2)]) (J2 := []) (rest := []) (fun a => some (.int a.1)) (fun a => mkM a.2) (fun _ _ => rfl) h (fun a ha => k_m_sumOf n (d + 0) _ _ _ _ ha) (fun q9 _ h => ?_)
                  refine bfr_br 1 (pc1 := 99) (L1 := [some (.ref 0), some (.int x1), some (.int x2)]) (J1 := []) (st1 := []) (w1 := mkM q9.2) (pc2 := 101) (L2 := [some (.ref 0), some (.int x1), some (.int x2)]) (J2 := []) (st2 := []) (w2 := mkM q9.2) (fun _ _ => rfl) h (fun h => ?_) (fun h => ?_)
                  · exact k_m_lawTold_b99 n d _ q (ih) _ _ _ _ h
                  · refine bfr_call 3 (d1 := d + 4) (M1 := M_X12_takesWord) (vs := [(.ref 0), (.int cb_15)]) (w1 := mkM q9.2) (pc2 := 107) (L2 := [some (.ref 0), some (.int x1), some (.int x2)]) (J2 := []) (rest := []) (fun a => some (.int a.1)) (fun a => mkM a.2) (fun _ _ => rfl) h (fun a ha => k_m_takesWord n (d + 2) _ _ _ ha) (fun q10 _ h => ?_)
                    refine bfr_br 1 (pc1 := 110) (L1 := [some (.ref 0), some (.int x1), some (.int x2)]) (J1 := []) (st1 := []) (w1 := mkM q10.2) (pc2 := 112) (L2 := [some (.ref 0), some (.int x1), some (.int x2)]) (J2 := []) (st2 := []) (w2 := mkM q10.2) (fun _ _ => rfl) h (fun h => ?_) (fun h => ?_)
                    · exact bfr_bz (mk := mkM) 2 (fun _ _ => rfl) h
                    · refine bfr_run 1 115 [some (.ref 0), some (.int x1), some (.int (x2 + ci_1))] [] [] (mkM q10.2) (fun _ _ => rfl) ?_
                      refine bfr_run 1 13 [some (.ref 0), some (.int x1), some (.int (x2 + ci_1))] [] [] (mkM q10.2) (fun _ _ => rfl) ?_
                      exact ih _ _ _ h
set_option maxRecDepth 100000 in
theorem k_m_lawTold (n d : Nat) (q : (Int32 × bS)) (x1 : Int32) (σ : bS) (h : m_lawTold n x1 σ = some q) : bfr MT (d + 5) M_X12_lawTold 0 [some (.ref 0), some (.int x1), none] [] [] (mkM σ) (some (.int q.1), mkM q.2) := by
  unfold m_lawTold at h
  refine bfr_call 3 (d1 := d + 4) (M1 := M_X12_takesSign) (vs := [(.ref 0), (.int cb_61)]) (w1 := mkM σ) (pc2 := 6) (L2 := [some (.ref 0), some (.int x1), none]) (J2 := []) (rest := []) (fun a => some (.int a.1)) (fun a => mkM a.2) (fun _ _ => rfl) h (fun a ha => k_m_takesSign n (d + 2) _ _ _ ha) (fun q11 _ h => ?_)
  refine bfr_br 1 (pc1 := 9) (L1 := [some (.ref 0), some (.int x1), none]) (J1 := []) (st1 := []) (w1 := mkM q11.2) (pc2 := 11) (L2 := [some (.ref 0), some (.int x1), none]) (J2 := []) (st2 := []) (w2 := mkM q11.2) (fun _ _ => rfl) h (fun h => ?_) (fun h => ?_)
  · exact bfr_bz (mk := mkM) 2 (fun _ _ => rfl) h
  · refine bfr_run 2 13 [some (.ref 0), some (.int x1), some (.int ci_0)] [] [] (mkM q11.2) (fun _ _ => rfl) ?_
    exact k_m_lawTold_b13 n d q _ _ _ _ h
set_option maxRecDepth 100000 in
theorem k_m_tellBank_b38 (n d : Nat) (q : (Int32 × bS)) (o0 : Option Value) (σ : bS) (h : m_tellBank_b38 n σ = some q) : bfr MT (d + 4) M_X12_tellBank 38 [o0] [] [] (mkM σ) (some (.int q.1), mkM q.2) := by
  unfold m_tellBank_b38 at h
  exact bfr_bz (mk := mkM) 2 (fun _ _ => rfl) h
set_option maxRecDepth 100000 in
theorem k_m_tellBank (n d : Nat) (q : (Int32 × bS)) (σ : bS) (h : m_tellBank n σ = some q) : bfr MT (d + 4) M_X12_tellBank 0 [some (.ref 0)] [] [] (mkM σ) (some (.int q.1), mkM q.2) := by
  unfold m_tellBank at h
  refine bfr_in (i := ci_1) (m := 2) 4 (pc1 := 6) (L1 := [some (.ref 0)]) (J1 := []) (st1 := [(.int (sA σ 12 ci_1))]) (w1 := mkM σ) (fun _ _ => rfl) h (fun h => ?_)
  refine bfr_br 2 (pc1 := 11) (L1 := [some (.ref 0)]) (J1 := []) (st1 := []) (w1 := mkM σ) (pc2 := 17) (L2 := [some (.ref 0)]) (J2 := []) (st2 := []) (w2 := mkM σ) (fun _ _ => rfl) h (fun h => ?_) (fun h => ?_)
  · refine bfr_call 3 (d1 := d + 3) (M1 := M_X12_wrong) (vs := [(.ref 0), (.int ci_2)]) (w1 := mkM σ) (pc2 := 16) (L2 := [some (.ref 0)]) (J2 := []) (rest := []) (fun a => some (.int a.1)) (fun a => mkM a.2) (fun _ _ => rfl) h (fun a ha => k_m_wrong n (d + 3) _ _ _ ha) (fun q1 _ h => ?_)
    exact bfr_bz (mk := mkM) 1 (fun _ _ => rfl) h
  · refine bfr_call 2 (d1 := d + 3) (M1 := M_X12_pass) (vs := [(.ref 0)]) (w1 := mkM σ) (pc2 := 21) (L2 := [some (.ref 0)]) (J2 := []) (rest := []) (fun a => some (.int a.1)) (fun a => mkM a.2) (fun _ _ => rfl) h (fun a ha => k_m_pass n (d + 2) _ _ ha) (fun q2 _ h => ?_)
    refine bfr_br 1 (pc1 := 38) (L1 := [some (.ref 0)]) (J1 := []) (st1 := []) (w1 := mkM q2.2) (pc2 := 24) (L2 := [some (.ref 0)]) (J2 := []) (st2 := []) (w2 := mkM q2.2) (fun _ _ => rfl) h (fun h => ?_) (fun h => ?_)
    · exact k_m_tellBank_b38 n d q _ _ h
    · refine bfr_in (i := ci_1) (m := 2) 6 (pc1 := 32) (L1 := [some (.ref 0)]) (J1 := []) (st1 := [(.int (sA q2.2 12 ci_1)), (.int ci_0), (.ref 0)]) (w1 := mkM q2.2) (fun _ _ => rfl) h (fun h => ?_)
      refine bfr_call 1 (d1 := d + 3) (M1 := M_X12_names) (vs := [(.ref 0), (.int ci_0), (.int (sA q2.2 12 ci_1))]) (w1 := mkM q2.2) (pc2 := 35) (L2 := [some (.ref 0)]) (J2 := []) (rest := []) (fun a => some (.int a.1)) (fun a => mkM a.2) (fun _ _ => rfl) h (fun a ha => k_m_names n (d + 0) _ _ _ _ ha) (fun q3 _ h => ?_)
      refine bfr_br 1 (pc1 := 38) (L1 := [some (.ref 0)]) (J1 := []) (st1 := []) (w1 := mkM q3.2) (pc2 := 40) (L2 := [some (.ref 0)]) (J2 := []) (st2 := []) (w2 := mkM q3.2) (fun _ _ => rfl) h (fun h => ?_) (fun h => ?_)
      · exact k_m_tellBank_b38 n d q _ _ h
      · refine bfr_in (i := ci_1) (m := 2) 5 (pc1 := 47) (L1 := [some (.ref 0)]) (J1 := []) (st1 := [(.int (sA q3.2 12 ci_1)), (.int ci_1), (.ref 12)]) (w1 := mkM q3.2) (fun _ _ => rfl) h (fun h => ?_)
        refine bfr_in (i := ci_1) (m := 2) 3 (pc1 := 50) (L1 := [some (.ref 0)]) (J1 := []) (st1 := []) (w1 := ((mkM q3.2).set 12 (.inl (0, 2, upd (q3.2.2.1 12) (ci_1).toNatClampNeg ((sA q3.2 12 ci_1) + ci_1))))) (fun _ _ => rfl) h (fun h => ?_)
        rw [mkM_A12]
        exact bfr_bz (mk := mkM) 2 (fun _ _ => rfl) h
set_option maxRecDepth 100000 in
theorem k_m_tellPath_b105 (n d : Nat) (q : (Int32 × bS)) (x1 : Int32) (o2 : Option Value) (σ : bS) (h : m_tellPath_b105 n x1 σ = some q) : bfr MT (d + 4) M_X12_tellPath 105 [some (.ref 0), some (.int x1), o2] [] [] (mkM σ) (some (.int q.1), mkM q.2) := by
  unfold m_tellPath_b105 at h
  refine bfr_call 4 (d1 := d + 3) (M1 := M_X12_takesInt) (vs := [(.ref 0), (.int ci_1), (.int cb_9)]) (w1 := mkM σ) (pc2 := 112) (L2 := [some (.ref 0), some (.int x1), o2]) (J2 := []) (rest := []) (fun a => some (.int a.1)) (fun a => mkM a.2) (fun _ _ => rfl) h (fun a ha => k_m_takesInt n (d + 0) _ _ _ _ ha) (fun q1 _ h => ?_)
  refine bfr_br 1 (pc1 := 115) (L1 := [some (.ref 0), some (.int x1), o2]) (J1 := []) (st1 := []) (w1 := mkM q1.2) (pc2 := 117) (L2 := [some (.ref 0), some (.int x1), o2]) (J2 := []) (st2 := []) (w2 := mkM q1.2) (fun _ _ => rfl) h (fun h => ?_) (fun h => ?_)
  · exact bfr_bz (mk := mkM) 2 (fun _ _ => rfl) h
  · refine bfr_in (i := x1) (m := 20) 6 (pc1 := 127) (L1 := [some (.ref 0), some (.int x1), o2]) (J1 := []) (st1 := []) (w1 := ((mkM q1.2).set 16 (.inl (0, 20, upd (q1.2.2.1 16) (x1).toNatClampNeg (sI q1.2 0 35))))) (fun _ _ => rfl) h (fun h => ?_)
    rw [mkM_A16]
    refine bfr_in (i := ci_1) (m := 2) 5 (pc1 := 134) (L1 := [some (.ref 0), some (.int x1), o2]) (J1 := []) (st1 := [(.int (sA (uA q1.2 16 x1 (sI q1.2 0 35)) 13 ci_1)), (.int ci_1), (.ref 13)]) (w1 := mkM (uA q1.2 16 x1 (sI q1.2 0 35))) (fun _ _ => rfl) h (fun h => ?_)
    refine bfr_in (i := ci_1) (m := 2) 3 (pc1 := 137) (L1 := [some (.ref 0), some (.int x1), o2]) (J1 := []) (st1 := []) (w1 := ((mkM (uA q1.2 16 x1 (sI q1.2 0 35))).set 13 (.inl (0, 2, upd ((uA q1.2 16 x1 (sI q1.2 0 35)).2.1 13) (ci_1).toNatClampNeg ((sA (uA q1.2 16 x1 (sI q1.2 0 35)) 13 ci_1) + ci_1))))) (fun _ _ => rfl) h (fun h => ?_)
    rw [mkM_A13]
    exact bfr_bz (mk := mkM) 2 (fun _ _ => rfl) h
set_option maxRecDepth 100000 in
theorem k_m_tellPath_b42 (n d : Nat) (q : (Int32 × bS)) (o0 : Option Value) (o1 : Option Value) (o2 : Option Value) (σ : bS) (h : m_tellPath_b42 n σ = some q) : bfr MT (d + 4) M_X12_tellPath 42 [o0, o1, o2] [] [] (mkM σ) (some (.int q.1), mkM q.2) := by
  unfold m_tellPath_b42 at h
  exact bfr_bz (mk := mkM) 2 (fun _ _ => rfl) h
set_option maxRecDepth 100000 in
theorem k_m_tellPath (n d : Nat) (q : (Int32 × bS)) (σ : bS) (h : m_tellPath n σ = some q) : bfr MT (d + 4) M_X12_tellPath 0 [some (.ref 0), none, none] [] [] (mkM σ) (some (.int q.1), mkM q.2) := by
  unfold m_tellPath at h
  refine bfr_in (i := ci_1) (m := 2) 5 (pc1 := 8) (L1 := [some (.ref 0), none, none]) (J1 := []) (st1 := [(.int (sA σ 13 ci_1)), (.int cb_10)]) (w1 := mkM σ) (fun _ _ => rfl) h (fun h => ?_)
  refine bfr_in (i := ci_1) (m := 2) 6 (pc1 := 16) (L1 := [some (.ref 0), some (.int (cb_10 + (sA σ 13 ci_1))), none]) (J1 := []) (st1 := [(.int (sA σ 13 ci_1))]) (w1 := mkM σ) (fun _ _ => rfl) h (fun h => ?_)
  refine bfr_br 2 (pc1 := 21) (L1 := [some (.ref 0), some (.int (cb_10 + (sA σ 13 ci_1))), none]) (J1 := []) (st1 := []) (w1 := mkM σ) (pc2 := 27) (L2 := [some (.ref 0), some (.int (cb_10 + (sA σ 13 ci_1))), none]) (J2 := []) (st2 := []) (w2 := mkM σ) (fun _ _ => rfl) h (fun h => ?_) (fun h => ?_)
  · refine bfr_call 3 (d1 := d + 3) (M1 := M_X12_wrong) (vs := [(.ref 0), (.int ci_2)]) (w1 := mkM σ) (pc2 := 26) (L2 := [some (.ref 0), some (.int (cb_10 + (sA σ 13 ci_1))), none]) (J2 := []) (rest := []) (fun a => some (.int a.1)) (fun a => mkM a.2) (fun _ _ => rfl) h (fun a ha => k_m_wrong n (d + 3) _ _ _ ha) (fun q2 _ h => ?_)
    exact bfr_bz (mk := mkM) 1 (fun _ _ => rfl) h
  · refine bfr_call 2 (d1 := d + 3) (M1 := M_X12_pass) (vs := [(.ref 0)]) (w1 := mkM σ) (pc2 := 31) (L2 := [some (.ref 0), some (.int (cb_10 + (sA σ 13 ci_1))), none]) (J2 := []) (rest := []) (fun a => some (.int a.1)) (fun a => mkM a.2) (fun _ _ => rfl) h (fun a ha => k_m_pass n (d + 2) _ _ ha) (fun q3 _ h => ?_)
    refine bfr_br 1 (pc1 := 42) (L1 := [some (.ref 0), some (.int (cb_10 + (sA σ 13 ci_1))), none]) (J1 := []) (st1 := []) (w1 := mkM q3.2) (pc2 := 34) (L2 := [some (.ref 0), some (.int (cb_10 + (sA σ 13 ci_1))), none]) (J2 := []) (st2 := []) (w2 := mkM q3.2) (fun _ _ => rfl) h (fun h => ?_) (fun h => ?_)
    · exact k_m_tellPath_b42 n d q _ _ _ _ h
    · refine bfr_call 3 (d1 := d + 3) (M1 := M_X12_takesName) (vs := [(.ref 0), (.int ci_0)]) (w1 := mkM q3.2) (pc2 := 39) (L2 := [some (.ref 0), some (.int (cb_10 + (sA σ 13 ci_1))), none]) (J2 := []) (rest := []) (fun a => some (.int a.1)) (fun a => mkM a.2) (fun _ _ => rfl) h (fun a ha => k_m_takesName n (d + 0) _ _ _ ha) (fun q4 _ h => ?_)
      refine bfr_br 1 (pc1 := 42) (L1 := [some (.ref 0), some (.int (cb_10 + (sA σ 13 ci_1))), none]) (J1 := []) (st1 := []) (w1 := mkM q4.2) (pc2 := 44) (L2 := [some (.ref 0), some (.int (cb_10 + (sA σ 13 ci_1))), none]) (J2 := []) (st2 := []) (w2 := mkM q4.2) (fun _ _ => rfl) h (fun h => ?_) (fun h => ?_)
      · exact k_m_tellPath_b42 n d q _ _ _ _ h
      · refine bfr_in (i := (cb_10 + (sA σ 13 ci_1))) (m := 20) 6 (pc1 := 54) (L1 := [some (.ref 0), some (.int (cb_10 + (sA σ 13 ci_1))), none]) (J1 := []) (st1 := []) (w1 := ((mkM q4.2).set 14 (.inl (0, 20, upd (q4.2.2.1 14) ((cb_10 + (sA σ 13 ci_1))).toNatClampNeg (sI q4.2 0 35))))) (fun _ _ => rfl) h (fun h => ?_)
        rw [mkM_A14]
        refine bfr_call 6 (d1 := d + 3) (M1 := M_X12_takesName) (vs := [(.ref 0), (.int ci_0)]) (w1 := mkM (uA q4.2 14 (cb_10 + (sA σ 13 ci_1)) (sI q4.2 0 35))) (pc2 := 64) (L2 := [some (.ref 0), some (.int (cb_10 + (sA σ 13 ci_1))), some (.int (sI (uA q4.2 14 (cb_10 + (sA σ 13 ci_1)) (sI q4.2 0 35)) 0 7))]) (J2 := []) (rest := []) (fun a => some (.int a.1)) (fun a => mkM a.2) (fun _ _ => rfl) h (fun a ha => k_m_takesName n (d + 0) _ _ _ ha) (fun q5 _ h => ?_)
        refine bfr_br 1 (pc1 := 67) (L1 := [some (.ref 0), some (.int (cb_10 + (sA σ 13 ci_1))), some (.int (sI (uA q4.2 14 (cb_10 + (sA σ 13 ci_1)) (sI q4.2 0 35)) 0 7))]) (J1 := []) (st1 := []) (w1 := mkM q5.2) (pc2 := 69) (L2 := [some (.ref 0), some (.int (cb_10 + (sA σ 13 ci_1))), some (.int (sI (uA q4.2 14 (cb_10 + (sA σ 13 ci_1)) (sI q4.2 0 35)) 0 7))]) (J2 := []) (st2 := []) (w2 := mkM q5.2) (fun _ _ => rfl) h (fun h => ?_) (fun h => ?_)
        · exact bfr_bz (mk := mkM) 2 (fun _ _ => rfl) h
        · refine bfr_in (i := (cb_10 + (sA σ 13 ci_1))) (m := 20) 6 (pc1 := 79) (L1 := [some (.ref 0), some (.int (cb_10 + (sA σ 13 ci_1))), some (.int (sI (uA q4.2 14 (cb_10 + (sA σ 13 ci_1)) (sI q4.2 0 35)) 0 7))]) (J1 := []) (st1 := []) (w1 := ((mkM q5.2).set 15 (.inl (0, 20, upd (q5.2.2.1 15) ((cb_10 + (sA σ 13 ci_1))).toNatClampNeg (sI q5.2 0 35))))) (fun _ _ => rfl) h (fun h => ?_)
          rw [mkM_A15]
          refine bfr_br 3 (pc1 := 105) (L1 := [some (.ref 0), some (.int (cb_10 + (sA σ 13 ci_1))), some (.int (sI (uA q4.2 14 (cb_10 + (sA σ 13 ci_1)) (sI q4.2 0 35)) 0 7))]) (J1 := []) (st1 := []) (w1 := mkM (uA q5.2 15 (cb_10 + (sA σ 13 ci_1)) (sI q5.2 0 35))) (pc2 := 86) (L2 := [some (.ref 0), some (.int (cb_10 + (sA σ 13 ci_1))), some (.int (sI (uA q4.2 14 (cb_10 + (sA σ 13 ci_1)) (sI q4.2 0 35)) 0 7))]) (J2 := []) (st2 := []) (w2 := mkM (uA q5.2 15 (cb_10 + (sA σ 13 ci_1)) (sI q5.2 0 35))) (fun _ _ => rfl) h (fun h => ?_) (fun h => ?_)
          · exact k_m_tellPath_b105 n d q _ _ _ h
          · refine bfr_in (i := (cb_10 + (sA σ 13 ci_1))) (m := 20) 4 (pc1 := 92) (L1 := [some (.ref 0), some (.int (cb_10 + (sA σ 13 ci_1))), some (.int (sI (uA q4.2 14 (cb_10 + (sA σ 13 ci_1)) (sI q4.2 0 35)) 0 7))]) (J1 := []) (st1 := [(.int (sA (uA q5.2 15 (cb_10 + (sA σ 13 ci_1)) (sI q5.2 0 35)) 14 (cb_10 + (sA σ 13 ci_1))))]) (w1 := mkM (uA q5.2 15 (cb_10 + (sA σ 13 ci_1)) (sI q5.2 0 35))) (fun _ _ => rfl) h (fun h => ?_)
            refine bfr_br 3 (pc1 := 99) (L1 := [some (.ref 0), some (.int (cb_10 + (sA σ 13 ci_1))), some (.int (sI (uA q4.2 14 (cb_10 + (sA σ 13 ci_1)) (sI q4.2 0 35)) 0 7))]) (J1 := []) (st1 := []) (w1 := mkM (uA q5.2 15 (cb_10 + (sA σ 13 ci_1)) (sI q5.2 0 35))) (pc2 := 105) (L2 := [some (.ref 0), some (.int (cb_10 + (sA σ 13 ci_1))), some (.int (sI (uA q4.2 14 (cb_10 + (sA σ 13 ci_1)) (sI q4.2 0 35)) 0 7))]) (J2 := []) (st2 := []) (w2 := mkM (uA q5.2 15 (cb_10 + (sA σ 13 ci_1)) (sI q5.2 0 35))) (fun _ _ => rfl) h (fun h => ?_) (fun h => ?_)
            · refine bfr_call 4 (d1 := d + 3) (M1 := M_X12_tells) (vs := [(.ref 0), (.int ci_3), (.int (sI (uA q4.2 14 (cb_10 + (sA σ 13 ci_1)) (sI q4.2 0 35)) 0 7))]) (w1 := mkM (uA q5.2 15 (cb_10 + (sA σ 13 ci_1)) (sI q5.2 0 35))) (pc2 := 105) (L2 := [some (.ref 0), some (.int (cb_10 + (sA σ 13 ci_1))), some (.int (sI (uA q4.2 14 (cb_10 + (sA σ 13 ci_1)) (sI q4.2 0 35)) 0 7))]) (J2 := []) (rest := []) (fun _ => none) (fun a => mkM a) (fun _ _ => rfl) h (fun a ha => k_m_tells n (d + 3) _ _ _ _ ha) (fun q6 _ h => ?_)
              exact k_m_tellPath_b105 n d q _ _ _ h
            · exact k_m_tellPath_b105 n d q _ _ _ h
set_option maxRecDepth 100000 in
theorem k_m_tellBridge_b106 (n d : Nat) (q : (Int32 × bS)) (o1 : Option Value) (σ : bS) (h : m_tellBridge_b106 n σ = some q) : bfr MT (d + 4) M_X12_tellBridge 106 [some (.ref 0), o1] [] [] (mkM σ) (some (.int q.1), mkM q.2) := by
  unfold m_tellBridge_b106 at h
  refine bfr_in (i := ci_1) (m := 2) 5 (pc1 := 113) (L1 := [some (.ref 0), o1]) (J1 := []) (st1 := [(.int (sA σ 17 ci_1)), (.int ci_1), (.ref 17)]) (w1 := mkM σ) (fun _ _ => rfl) h (fun h => ?_)
  refine bfr_in (i := ci_1) (m := 2) 3 (pc1 := 116) (L1 := [some (.ref 0), o1]) (J1 := []) (st1 := []) (w1 := ((mkM σ).set 17 (.inl (0, 2, upd (σ.2.1 17) (ci_1).toNatClampNeg ((sA σ 17 ci_1) + ci_1))))) (fun _ _ => rfl) h (fun h => ?_)
  rw [mkM_A17]
  exact bfr_bz (mk := mkM) 2 (fun _ _ => rfl) h
set_option maxRecDepth 100000 in
theorem k_m_tellBridge_b54 (n d : Nat) (q : (Int32 × bS)) (o0 : Option Value) (o1 : Option Value) (σ : bS) (h : m_tellBridge_b54 n σ = some q) : bfr MT (d + 4) M_X12_tellBridge 54 [o0, o1] [] [] (mkM σ) (some (.int q.1), mkM q.2) := by
  unfold m_tellBridge_b54 at h
  exact bfr_bz (mk := mkM) 2 (fun _ _ => rfl) h
set_option maxRecDepth 100000 in
theorem k_m_tellBridge (n d : Nat) (q : (Int32 × bS)) (σ : bS) (h : m_tellBridge n σ = some q) : bfr MT (d + 4) M_X12_tellBridge 0 [some (.ref 0), none] [] [] (mkM σ) (some (.int q.1), mkM q.2) := by
  unfold m_tellBridge at h
  refine bfr_in (i := ci_1) (m := 2) 5 (pc1 := 7) (L1 := [some (.ref 0), none]) (J1 := []) (st1 := [(.int (sA σ 17 ci_1)), (.int ci_4)]) (w1 := mkM σ) (fun _ _ => rfl) h (fun h => ?_)
  refine bfr_in (i := ci_1) (m := 2) 6 (pc1 := 15) (L1 := [some (.ref 0), some (.int (ci_4 + (sA σ 17 ci_1)))]) (J1 := []) (st1 := [(.int (sA σ 17 ci_1))]) (w1 := mkM σ) (fun _ _ => rfl) h (fun h => ?_)
  refine bfr_br 2 (pc1 := 19) (L1 := [some (.ref 0), some (.int (ci_4 + (sA σ 17 ci_1)))]) (J1 := []) (st1 := []) (w1 := mkM σ) (pc2 := 25) (L2 := [some (.ref 0), some (.int (ci_4 + (sA σ 17 ci_1)))]) (J2 := []) (st2 := []) (w2 := mkM σ) (fun _ _ => rfl) h (fun h => ?_) (fun h => ?_)
  · refine bfr_call 3 (d1 := d + 3) (M1 := M_X12_wrong) (vs := [(.ref 0), (.int ci_2)]) (w1 := mkM σ) (pc2 := 24) (L2 := [some (.ref 0), some (.int (ci_4 + (sA σ 17 ci_1)))]) (J2 := []) (rest := []) (fun a => some (.int a.1)) (fun a => mkM a.2) (fun _ _ => rfl) h (fun a ha => k_m_wrong n (d + 3) _ _ _ ha) (fun q1 _ h => ?_)
    exact bfr_bz (mk := mkM) 1 (fun _ _ => rfl) h
  · refine bfr_call 2 (d1 := d + 3) (M1 := M_X12_pass) (vs := [(.ref 0)]) (w1 := mkM σ) (pc2 := 29) (L2 := [some (.ref 0), some (.int (ci_4 + (sA σ 17 ci_1)))]) (J2 := []) (rest := []) (fun a => some (.int a.1)) (fun a => mkM a.2) (fun _ _ => rfl) h (fun a ha => k_m_pass n (d + 2) _ _ ha) (fun q2 _ h => ?_)
    refine bfr_br 1 (pc1 := 54) (L1 := [some (.ref 0), some (.int (ci_4 + (sA σ 17 ci_1)))]) (J1 := []) (st1 := []) (w1 := mkM q2.2) (pc2 := 32) (L2 := [some (.ref 0), some (.int (ci_4 + (sA σ 17 ci_1)))]) (J2 := []) (st2 := []) (w2 := mkM q2.2) (fun _ _ => rfl) h (fun h => ?_) (fun h => ?_)
    · exact k_m_tellBridge_b54 n d q _ _ _ h
    · refine bfr_in (i := ci_1) (m := 2) 6 (pc1 := 40) (L1 := [some (.ref 0), some (.int (ci_4 + (sA σ 17 ci_1)))]) (J1 := []) (st1 := [(.int (sA q2.2 17 ci_1)), (.int ci_1), (.ref 0)]) (w1 := mkM q2.2) (fun _ _ => rfl) h (fun h => ?_)
      refine bfr_call 1 (d1 := d + 3) (M1 := M_X12_names) (vs := [(.ref 0), (.int ci_1), (.int (sA q2.2 17 ci_1))]) (w1 := mkM q2.2) (pc2 := 43) (L2 := [some (.ref 0), some (.int (ci_4 + (sA σ 17 ci_1)))]) (J2 := []) (rest := []) (fun a => some (.int a.1)) (fun a => mkM a.2) (fun _ _ => rfl) h (fun a ha => k_m_names n (d + 0) _ _ _ _ ha) (fun q3 _ h => ?_)
      refine bfr_br 1 (pc1 := 54) (L1 := [some (.ref 0), some (.int (ci_4 + (sA σ 17 ci_1)))]) (J1 := []) (st1 := []) (w1 := mkM q3.2) (pc2 := 46) (L2 := [some (.ref 0), some (.int (ci_4 + (sA σ 17 ci_1)))]) (J2 := []) (st2 := []) (w2 := mkM q3.2) (fun _ _ => rfl) h (fun h => ?_) (fun h => ?_)
      · exact k_m_tellBridge_b54 n d q _ _ _ h
      · refine bfr_call 3 (d1 := d + 3) (M1 := M_X12_takesName) (vs := [(.ref 0), (.int ci_0)]) (w1 := mkM q3.2) (pc2 := 51) (L2 := [some (.ref 0), some (.int (ci_4 + (sA σ 17 ci_1)))]) (J2 := []) (rest := []) (fun a => some (.int a.1)) (fun a => mkM a.2) (fun _ _ => rfl) h (fun a ha => k_m_takesName n (d + 0) _ _ _ ha) (fun q4 _ h => ?_)
        refine bfr_br 1 (pc1 := 54) (L1 := [some (.ref 0), some (.int (ci_4 + (sA σ 17 ci_1)))]) (J1 := []) (st1 := []) (w1 := mkM q4.2) (pc2 := 56) (L2 := [some (.ref 0), some (.int (ci_4 + (sA σ 17 ci_1)))]) (J2 := []) (st2 := []) (w2 := mkM q4.2) (fun _ _ => rfl) h (fun h => ?_) (fun h => ?_)
        · exact k_m_tellBridge_b54 n d q _ _ _ h
        · refine bfr_in (i := (ci_4 + (sA σ 17 ci_1))) (m := 8) 6 (pc1 := 66) (L1 := [some (.ref 0), some (.int (ci_4 + (sA σ 17 ci_1)))]) (J1 := []) (st1 := []) (w1 := ((mkM q4.2).set 18 (.inl (0, 8, upd (q4.2.2.1 18) ((ci_4 + (sA σ 17 ci_1))).toNatClampNeg (sI q4.2 0 35))))) (fun _ _ => rfl) h (fun h => ?_)
          rw [mkM_A18]
          refine bfr_in (i := (ci_4 + (sA σ 17 ci_1))) (m := 8) 5 (pc1 := 74) (L1 := [some (.ref 0), some (.int (ci_4 + (sA σ 17 ci_1)))]) (J1 := []) (st1 := []) (w1 := ((mkM (uA q4.2 18 (ci_4 + (sA σ 17 ci_1)) (sI q4.2 0 35))).set 19 (.inl (0, 8, upd ((uA q4.2 18 (ci_4 + (sA σ 17 ci_1)) (sI q4.2 0 35)).2.1 19) ((ci_4 + (sA σ 17 ci_1))).toNatClampNeg cb_m2)))) (fun _ _ => rfl) h (fun h => ?_)
          rw [mkM_A19]
          refine bfr_in (i := (sI (uA (uA q4.2 18 (ci_4 + (sA σ 17 ci_1)) (sI q4.2 0 35)) 19 (ci_4 + (sA σ 17 ci_1)) cb_m2) 0 7)) (m := 2001) 5 (pc1 := 83) (L1 := [some (.ref 0), some (.int (ci_4 + (sA σ 17 ci_1)))]) (J1 := []) (st1 := [(.int (sA (uA (uA q4.2 18 (ci_4 + (sA σ 17 ci_1)) (sI q4.2 0 35)) 19 (ci_4 + (sA σ 17 ci_1)) cb_m2) 2 (sI (uA (uA q4.2 18 (ci_4 + (sA σ 17 ci_1)) (sI q4.2 0 35)) 19 (ci_4 + (sA σ 17 ci_1)) cb_m2) 0 7)))]) (w1 := mkM (uA (uA q4.2 18 (ci_4 + (sA σ 17 ci_1)) (sI q4.2 0 35)) 19 (ci_4 + (sA σ 17 ci_1)) cb_m2)) (fun _ _ => rfl) h (fun h => ?_)
          refine bfr_br 1 (pc1 := 86) (L1 := [some (.ref 0), some (.int (ci_4 + (sA σ 17 ci_1)))]) (J1 := []) (st1 := []) (w1 := mkM (uA (uA q4.2 18 (ci_4 + (sA σ 17 ci_1)) (sI q4.2 0 35)) 19 (ci_4 + (sA σ 17 ci_1)) cb_m2)) (pc2 := 106) (L2 := [some (.ref 0), some (.int (ci_4 + (sA σ 17 ci_1)))]) (J2 := []) (st2 := []) (w2 := mkM (uA (uA q4.2 18 (ci_4 + (sA σ 17 ci_1)) (sI q4.2 0 35)) 19 (ci_4 + (sA σ 17 ci_1)) cb_m2)) (fun _ _ => rfl) h (fun h => ?_) (fun h => ?_)
          · refine bfr_call 3 (d1 := d + 3) (M1 := M_X12_takesName) (vs := [(.ref 0), (.int ci_0)]) (w1 := mkM (uA (uA q4.2 18 (ci_4 + (sA σ 17 ci_1)) (sI q4.2 0 35)) 19 (ci_4 + (sA σ 17 ci_1)) cb_m2)) (pc2 := 91) (L2 := [some (.ref 0), some (.int (ci_4 + (sA σ 17 ci_1)))]) (J2 := []) (rest := []) (fun a => some (.int a.1)) (fun a => mkM a.2) (fun _ _ => rfl) h (fun a ha => k_m_takesName n (d + 0) _ _ _ ha) (fun q5 _ h => ?_)
            refine bfr_br 1 (pc1 := 94) (L1 := [some (.ref 0), some (.int (ci_4 + (sA σ 17 ci_1)))]) (J1 := []) (st1 := []) (w1 := mkM q5.2) (pc2 := 96) (L2 := [some (.ref 0), some (.int (ci_4 + (sA σ 17 ci_1)))]) (J2 := []) (st2 := []) (w2 := mkM q5.2) (fun _ _ => rfl) h (fun h => ?_) (fun h => ?_)
            · exact bfr_bz (mk := mkM) 2 (fun _ _ => rfl) h
            · refine bfr_in (i := (ci_4 + (sA σ 17 ci_1))) (m := 8) 6 (pc1 := 106) (L1 := [some (.ref 0), some (.int (ci_4 + (sA σ 17 ci_1)))]) (J1 := []) (st1 := []) (w1 := ((mkM q5.2).set 19 (.inl (0, 8, upd (q5.2.2.1 19) ((ci_4 + (sA σ 17 ci_1))).toNatClampNeg (sI q5.2 0 35))))) (fun _ _ => rfl) h (fun h => ?_)
              rw [mkM_A19]
              exact k_m_tellBridge_b106 n d q _ _ h
          · exact k_m_tellBridge_b106 n d q _ _ h
set_option maxRecDepth 100000 in
theorem k_m_tellMan_b56 (n d : Nat) (q : (Int32 × bS)) (o0 : Option Value) (o1 : Option Value) (σ : bS) (h : m_tellMan_b56 n σ = some q) : bfr MT (d + 4) M_X12_tellMan 56 [o0, o1] [] [] (mkM σ) (some (.int q.1), mkM q.2) := by
  unfold m_tellMan_b56 at h
  exact bfr_bz (mk := mkM) 2 (fun _ _ => rfl) h
set_option maxRecDepth 100000 in
theorem k_m_tellMan (n d : Nat) (q : (Int32 × bS)) (σ : bS) (h : m_tellMan n σ = some q) : bfr MT (d + 4) M_X12_tellMan 0 [some (.ref 0), none] [] [] (mkM σ) (some (.int q.1), mkM q.2) := by
  unfold m_tellMan at h
  refine bfr_in (i := ci_1) (m := 2) 5 (pc1 := 8) (L1 := [some (.ref 0), none]) (J1 := []) (st1 := [(.int (sA σ 20 ci_1)), (.int cb_7)]) (w1 := mkM σ) (fun _ _ => rfl) h (fun h => ?_)
  refine bfr_in (i := ci_1) (m := 2) 6 (pc1 := 16) (L1 := [some (.ref 0), some (.int (cb_7 + (sA σ 20 ci_1)))]) (J1 := []) (st1 := [(.int (sA σ 20 ci_1))]) (w1 := mkM σ) (fun _ _ => rfl) h (fun h => ?_)
  refine bfr_br 2 (pc1 := 21) (L1 := [some (.ref 0), some (.int (cb_7 + (sA σ 20 ci_1)))]) (J1 := []) (st1 := []) (w1 := mkM σ) (pc2 := 27) (L2 := [some (.ref 0), some (.int (cb_7 + (sA σ 20 ci_1)))]) (J2 := []) (st2 := []) (w2 := mkM σ) (fun _ _ => rfl) h (fun h => ?_) (fun h => ?_)
  · refine bfr_call 3 (d1 := d + 3) (M1 := M_X12_wrong) (vs := [(.ref 0), (.int ci_2)]) (w1 := mkM σ) (pc2 := 26) (L2 := [some (.ref 0), some (.int (cb_7 + (sA σ 20 ci_1)))]) (J2 := []) (rest := []) (fun a => some (.int a.1)) (fun a => mkM a.2) (fun _ _ => rfl) h (fun a ha => k_m_wrong n (d + 3) _ _ _ ha) (fun q1 _ h => ?_)
    exact bfr_bz (mk := mkM) 1 (fun _ _ => rfl) h
  · refine bfr_call 2 (d1 := d + 3) (M1 := M_X12_pass) (vs := [(.ref 0)]) (w1 := mkM σ) (pc2 := 31) (L2 := [some (.ref 0), some (.int (cb_7 + (sA σ 20 ci_1)))]) (J2 := []) (rest := []) (fun a => some (.int a.1)) (fun a => mkM a.2) (fun _ _ => rfl) h (fun a ha => k_m_pass n (d + 2) _ _ ha) (fun q2 _ h => ?_)
    refine bfr_br 1 (pc1 := 56) (L1 := [some (.ref 0), some (.int (cb_7 + (sA σ 20 ci_1)))]) (J1 := []) (st1 := []) (w1 := mkM q2.2) (pc2 := 34) (L2 := [some (.ref 0), some (.int (cb_7 + (sA σ 20 ci_1)))]) (J2 := []) (st2 := []) (w2 := mkM q2.2) (fun _ _ => rfl) h (fun h => ?_) (fun h => ?_)
    · exact k_m_tellMan_b56 n d q _ _ _ h
    · refine bfr_in (i := ci_1) (m := 2) 6 (pc1 := 42) (L1 := [some (.ref 0), some (.int (cb_7 + (sA σ 20 ci_1)))]) (J1 := []) (st1 := [(.int (sA q2.2 20 ci_1)), (.int ci_2), (.ref 0)]) (w1 := mkM q2.2) (fun _ _ => rfl) h (fun h => ?_)
      refine bfr_call 1 (d1 := d + 3) (M1 := M_X12_names) (vs := [(.ref 0), (.int ci_2), (.int (sA q2.2 20 ci_1))]) (w1 := mkM q2.2) (pc2 := 45) (L2 := [some (.ref 0), some (.int (cb_7 + (sA σ 20 ci_1)))]) (J2 := []) (rest := []) (fun a => some (.int a.1)) (fun a => mkM a.2) (fun _ _ => rfl) h (fun a ha => k_m_names n (d + 0) _ _ _ _ ha) (fun q3 _ h => ?_)
      refine bfr_br 1 (pc1 := 56) (L1 := [some (.ref 0), some (.int (cb_7 + (sA σ 20 ci_1)))]) (J1 := []) (st1 := []) (w1 := mkM q3.2) (pc2 := 48) (L2 := [some (.ref 0), some (.int (cb_7 + (sA σ 20 ci_1)))]) (J2 := []) (st2 := []) (w2 := mkM q3.2) (fun _ _ => rfl) h (fun h => ?_) (fun h => ?_)
      · exact k_m_tellMan_b56 n d q _ _ _ h
      · refine bfr_call 3 (d1 := d + 3) (M1 := M_X12_takesName) (vs := [(.ref 0), (.int ci_0)]) (w1 := mkM q3.2) (pc2 := 53) (L2 := [some (.ref 0), some (.int (cb_7 + (sA σ 20 ci_1)))]) (J2 := []) (rest := []) (fun a => some (.int a.1)) (fun a => mkM a.2) (fun _ _ => rfl) h (fun a ha => k_m_takesName n (d + 0) _ _ _ ha) (fun q4 _ h => ?_)
        refine bfr_br 1 (pc1 := 56) (L1 := [some (.ref 0), some (.int (cb_7 + (sA σ 20 ci_1)))]) (J1 := []) (st1 := []) (w1 := mkM q4.2) (pc2 := 58) (L2 := [some (.ref 0), some (.int (cb_7 + (sA σ 20 ci_1)))]) (J2 := []) (st2 := []) (w2 := mkM q4.2) (fun _ _ => rfl) h (fun h => ?_) (fun h => ?_)
        · exact k_m_tellMan_b56 n d q _ _ _ h
        · refine bfr_in (i := (cb_7 + (sA σ 20 ci_1))) (m := 14) 6 (pc1 := 68) (L1 := [some (.ref 0), some (.int (cb_7 + (sA σ 20 ci_1)))]) (J1 := []) (st1 := []) (w1 := ((mkM q4.2).set 21 (.inl (0, 14, upd (q4.2.2.1 21) ((cb_7 + (sA σ 20 ci_1))).toNatClampNeg (sI q4.2 0 35))))) (fun _ _ => rfl) h (fun h => ?_)
          rw [mkM_A21]
          refine bfr_call 3 (d1 := d + 3) (M1 := M_X12_takesName) (vs := [(.ref 0), (.int ci_0)]) (w1 := mkM (uA q4.2 21 (cb_7 + (sA σ 20 ci_1)) (sI q4.2 0 35))) (pc2 := 73) (L2 := [some (.ref 0), some (.int (cb_7 + (sA σ 20 ci_1)))]) (J2 := []) (rest := []) (fun a => some (.int a.1)) (fun a => mkM a.2) (fun _ _ => rfl) h (fun a ha => k_m_takesName n (d + 0) _ _ _ ha) (fun q5 _ h => ?_)
          refine bfr_br 1 (pc1 := 76) (L1 := [some (.ref 0), some (.int (cb_7 + (sA σ 20 ci_1)))]) (J1 := []) (st1 := []) (w1 := mkM q5.2) (pc2 := 78) (L2 := [some (.ref 0), some (.int (cb_7 + (sA σ 20 ci_1)))]) (J2 := []) (st2 := []) (w2 := mkM q5.2) (fun _ _ => rfl) h (fun h => ?_) (fun h => ?_)
          · exact bfr_bz (mk := mkM) 2 (fun _ _ => rfl) h
          · refine bfr_in (i := (cb_7 + (sA σ 20 ci_1))) (m := 14) 6 (pc1 := 88) (L1 := [some (.ref 0), some (.int (cb_7 + (sA σ 20 ci_1)))]) (J1 := []) (st1 := []) (w1 := ((mkM q5.2).set 22 (.inl (0, 14, upd (q5.2.2.1 22) ((cb_7 + (sA σ 20 ci_1))).toNatClampNeg (sI q5.2 0 35))))) (fun _ _ => rfl) h (fun h => ?_)
            rw [mkM_A22]
            refine bfr_call 4 (d1 := d + 3) (M1 := M_X12_takesInt) (vs := [(.ref 0), (.int ci_0), (.int cs_999)]) (w1 := mkM (uA q5.2 22 (cb_7 + (sA σ 20 ci_1)) (sI q5.2 0 35))) (pc2 := 96) (L2 := [some (.ref 0), some (.int (cb_7 + (sA σ 20 ci_1)))]) (J2 := []) (rest := []) (fun a => some (.int a.1)) (fun a => mkM a.2) (fun _ _ => rfl) h (fun a ha => k_m_takesInt n (d + 0) _ _ _ _ ha) (fun q6 _ h => ?_)
            refine bfr_br 1 (pc1 := 99) (L1 := [some (.ref 0), some (.int (cb_7 + (sA σ 20 ci_1)))]) (J1 := []) (st1 := []) (w1 := mkM q6.2) (pc2 := 101) (L2 := [some (.ref 0), some (.int (cb_7 + (sA σ 20 ci_1)))]) (J2 := []) (st2 := []) (w2 := mkM q6.2) (fun _ _ => rfl) h (fun h => ?_) (fun h => ?_)
            · exact bfr_bz (mk := mkM) 2 (fun _ _ => rfl) h
            · refine bfr_in (i := (cb_7 + (sA σ 20 ci_1))) (m := 14) 6 (pc1 := 111) (L1 := [some (.ref 0), some (.int (cb_7 + (sA σ 20 ci_1)))]) (J1 := []) (st1 := []) (w1 := ((mkM q6.2).set 23 (.inl (0, 14, upd (q6.2.2.1 23) ((cb_7 + (sA σ 20 ci_1))).toNatClampNeg (sI q6.2 0 35))))) (fun _ _ => rfl) h (fun h => ?_)
              rw [mkM_A23]
              refine bfr_in (i := ci_1) (m := 2) 5 (pc1 := 118) (L1 := [some (.ref 0), some (.int (cb_7 + (sA σ 20 ci_1)))]) (J1 := []) (st1 := [(.int (sA (uA q6.2 23 (cb_7 + (sA σ 20 ci_1)) (sI q6.2 0 35)) 20 ci_1)), (.int ci_1), (.ref 20)]) (w1 := mkM (uA q6.2 23 (cb_7 + (sA σ 20 ci_1)) (sI q6.2 0 35))) (fun _ _ => rfl) h (fun h => ?_)
              refine bfr_in (i := ci_1) (m := 2) 3 (pc1 := 121) (L1 := [some (.ref 0), some (.int (cb_7 + (sA σ 20 ci_1)))]) (J1 := []) (st1 := []) (w1 := ((mkM (uA q6.2 23 (cb_7 + (sA σ 20 ci_1)) (sI q6.2 0 35))).set 20 (.inl (0, 2, upd ((uA q6.2 23 (cb_7 + (sA σ 20 ci_1)) (sI q6.2 0 35)).2.1 20) (ci_1).toNatClampNeg ((sA (uA q6.2 23 (cb_7 + (sA σ 20 ci_1)) (sI q6.2 0 35)) 20 ci_1) + ci_1))))) (fun _ _ => rfl) h (fun h => ?_)
              rw [mkM_A20]
              exact bfr_bz (mk := mkM) 2 (fun _ _ => rfl) h
set_option maxRecDepth 100000 in
theorem k_m_tellLawOf_b35 (n d : Nat) (q : (Int32 × bS)) (s1 : Int32) (o0 : Option Value) (o1 : Option Value) (o2 : Option Value) (σ : bS) (h : m_tellLawOf_b35 n s1 σ = some q) : bfr MT (d + 6) M_X12_tellLawOf 35 [o0, o1, o2] [] [(.int s1), (.ref 0)] (mkM σ) (some (.int q.1), mkM q.2) := by
  unfold m_tellLawOf_b35 at h
  refine bfr_call 1 (d1 := d + 5) (M1 := M_X12_lawTold) (vs := [(.ref 0), (.int s1)]) (w1 := mkM σ) (pc2 := 38) (L2 := [o0, o1, o2]) (J2 := []) (rest := []) (fun a => some (.int a.1)) (fun a => mkM a.2) (fun _ _ => rfl) h (fun a ha => k_m_lawTold n (d + 0) _ _ _ ha) (fun q1 _ h => ?_)
  exact bfr_bz (mk := mkM) 1 (fun _ _ => rfl) h
set_option maxRecDepth 100000 in
theorem k_m_tellLawOf_b15 (n d : Nat) (q : (Int32 × bS)) (o0 : Option Value) (o1 : Option Value) (o2 : Option Value) (σ : bS) (h : m_tellLawOf_b15 n σ = some q) : bfr MT (d + 6) M_X12_tellLawOf 15 [o0, o1, o2] [] [] (mkM σ) (some (.int q.1), mkM q.2) := by
  unfold m_tellLawOf_b15 at h
  exact bfr_bz (mk := mkM) 2 (fun _ _ => rfl) h
set_option maxRecDepth 100000 in
theorem k_m_tellLawOf (n d : Nat) (q : (Int32 × bS)) (x1 : Int32) (x2 : Int32) (σ : bS) (h : m_tellLawOf n x1 x2 σ = some q) : bfr MT (d + 6) M_X12_tellLawOf 0 [some (.ref 0), some (.int x1), some (.int x2)] [] [] (mkM σ) (some (.int q.1), mkM q.2) := by
  unfold m_tellLawOf at h
  refine bfr_call 2 (d1 := d + 5) (M1 := M_X12_pass) (vs := [(.ref 0)]) (w1 := mkM σ) (pc2 := 4) (L2 := [some (.ref 0), some (.int x1), some (.int x2)]) (J2 := []) (rest := []) (fun a => some (.int a.1)) (fun a => mkM a.2) (fun _ _ => rfl) h (fun a ha => k_m_pass n (d + 4) _ _ ha) (fun q2 _ h => ?_)
  refine bfr_br 1 (pc1 := 15) (L1 := [some (.ref 0), some (.int x1), some (.int x2)]) (J1 := []) (st1 := []) (w1 := mkM q2.2) (pc2 := 7) (L2 := [some (.ref 0), some (.int x1), some (.int x2)]) (J2 := []) (st2 := []) (w2 := mkM q2.2) (fun _ _ => rfl) h (fun h => ?_) (fun h => ?_)
  · exact k_m_tellLawOf_b15 n d q _ _ _ _ h
  · refine bfr_call 3 (d1 := d + 5) (M1 := M_X12_takesName) (vs := [(.ref 0), (.int x1)]) (w1 := mkM q2.2) (pc2 := 12) (L2 := [some (.ref 0), some (.int x1), some (.int x2)]) (J2 := []) (rest := []) (fun a => some (.int a.1)) (fun a => mkM a.2) (fun _ _ => rfl) h (fun a ha => k_m_takesName n (d + 2) _ _ _ ha) (fun q3 _ h => ?_)
    refine bfr_br 1 (pc1 := 15) (L1 := [some (.ref 0), some (.int x1), some (.int x2)]) (J1 := []) (st1 := []) (w1 := mkM q3.2) (pc2 := 17) (L2 := [some (.ref 0), some (.int x1), some (.int x2)]) (J2 := []) (st2 := []) (w2 := mkM q3.2) (fun _ _ => rfl) h (fun h => ?_) (fun h => ?_)
    · exact k_m_tellLawOf_b15 n d q _ _ _ _ h
    · refine bfr_br 4 (pc1 := 29) (L1 := [some (.ref 0), some (.int x1), some (.int x2)]) (J1 := []) (st1 := [(.ref 0)]) (w1 := mkM q3.2) (pc2 := 25) (L2 := [some (.ref 0), some (.int x1), some (.int x2)]) (J2 := []) (st2 := [(.ref 0)]) (w2 := mkM q3.2) (fun _ _ => rfl) h (fun h => ?_) (fun h => ?_)
      · refine bfr_run 4 35 [some (.ref 0), some (.int x1), some (.int x2)] [] [(.int (x2 + (sI q3.2 0 35))), (.ref 0)] (mkM q3.2) (fun _ _ => rfl) ?_
        exact k_m_tellLawOf_b35 n d q _ _ _ _ _ h
      · refine bfr_run 2 35 [some (.ref 0), some (.int x1), some (.int x2)] [] [(.int ci_m1), (.ref 0)] (mkM q3.2) (fun _ _ => rfl) ?_
        exact k_m_tellLawOf_b35 n d q _ _ _ _ _ h
set_option maxRecDepth 100000 in
theorem k_m_tellRest_b16 (n d : Nat) (q : (Int32 × bS)) (o0 : Option Value) (o1 : Option Value) (o2 : Option Value) (σ : bS) (h : m_tellRest_b16 n σ = some q) : bfr MT (d + 4) M_X12_tellRest 16 [o0, o1, o2] [] [] (mkM σ) (some (.int q.1), mkM q.2) := by
  unfold m_tellRest_b16 at h
  exact bfr_bz (mk := mkM) 2 (fun _ _ => rfl) h
set_option maxRecDepth 100000 in
theorem k_m_tellRest (n d : Nat) (q : (Int32 × bS)) (x1 : Int32) (x2 : Int32) (σ : bS) (h : m_tellRest n x1 x2 σ = some q) : bfr MT (d + 4) M_X12_tellRest 0 [some (.ref 0), some (.int x1), some (.int x2)] [] [] (mkM σ) (some (.int q.1), mkM q.2) := by
  unfold m_tellRest at h
  refine bfr_call 2 (d1 := d + 3) (M1 := M_X12_pass) (vs := [(.ref 0)]) (w1 := mkM σ) (pc2 := 4) (L2 := [some (.ref 0), some (.int x1), some (.int x2)]) (J2 := []) (rest := []) (fun a => some (.int a.1)) (fun a => mkM a.2) (fun _ _ => rfl) h (fun a ha => k_m_pass n (d + 2) _ _ ha) (fun q1 _ h => ?_)
  refine bfr_br 1 (pc1 := 16) (L1 := [some (.ref 0), some (.int x1), some (.int x2)]) (J1 := []) (st1 := []) (w1 := mkM q1.2) (pc2 := 7) (L2 := [some (.ref 0), some (.int x1), some (.int x2)]) (J2 := []) (st2 := []) (w2 := mkM q1.2) (fun _ _ => rfl) h (fun h => ?_) (fun h => ?_)
  · exact k_m_tellRest_b16 n d q _ _ _ _ h
  · refine bfr_call 4 (d1 := d + 3) (M1 := M_X12_takesInt) (vs := [(.ref 0), (.int ci_0), (.int x2)]) (w1 := mkM q1.2) (pc2 := 13) (L2 := [some (.ref 0), some (.int x1), some (.int x2)]) (J2 := []) (rest := []) (fun a => some (.int a.1)) (fun a => mkM a.2) (fun _ _ => rfl) h (fun a ha => k_m_takesInt n (d + 0) _ _ _ _ ha) (fun q2 _ h => ?_)
    refine bfr_br 1 (pc1 := 16) (L1 := [some (.ref 0), some (.int x1), some (.int x2)]) (J1 := []) (st1 := []) (w1 := mkM q2.2) (pc2 := 18) (L2 := [some (.ref 0), some (.int x1), some (.int x2)]) (J2 := []) (st2 := []) (w2 := mkM q2.2) (fun _ _ => rfl) h (fun h => ?_) (fun h => ?_)
    · exact k_m_tellRest_b16 n d q _ _ _ _ h
    · refine bfr_run 6 26 [some (.ref 0), some (.int x1), some (.int x2)] [] [(.ref 0), (.int (ci_4 + x1)), (.ref 24)] (mkM q2.2) (fun _ _ => rfl) ?_
      refine bfr_in (i := (ci_4 + x1)) (m := 8) 2 (pc1 := 30) (L1 := [some (.ref 0), some (.int x1), some (.int x2)]) (J1 := []) (st1 := []) (w1 := ((mkM q2.2).set 24 (.inl (0, 8, upd (q2.2.2.1 24) ((ci_4 + x1)).toNatClampNeg (sI q2.2 0 35))))) (fun _ _ => rfl) h (fun h => ?_)
      rw [mkM_A24]
      exact bfr_bz (mk := mkM) 2 (fun _ _ => rfl) h
set_option maxRecDepth 100000 in
theorem k_m_tellOne_b189 (n d : Nat) (q : (Int32 × bS)) (s0 : Int32) (o0 : Option Value) (o1 : Option Value) (σ : bS) (h : m_tellOne_b189 n s0 σ = some q) : bfr MT (d + 7) M_X12_tellOne 189 [o0, o1] [] [(.int s0)] (mkM σ) (some (.int q.1), mkM q.2) := by
  unfold m_tellOne_b189 at h
  exact bfr_bz (mk := mkM) 1 (fun _ _ => rfl) h
set_option maxRecDepth 100000 in
theorem k_m_tellOne_b125 (n d : Nat) (q : (Int32 × bS)) (x1 : Int32) (σ : bS) (h : m_tellOne_b125 n x1 σ = some q) : bfr MT (d + 7) M_X12_tellOne 125 [some (.ref 0), some (.int x1)] [] [] (mkM σ) (some (.int q.1), mkM q.2) := by
  unfold m_tellOne_b125 at h
  refine bfr_br 3 (pc1 := 131) (L1 := [some (.ref 0), some (.int x1)]) (J1 := []) (st1 := []) (w1 := mkM σ) (pc2 := 139) (L2 := [some (.ref 0), some (.int x1)]) (J2 := []) (st2 := []) (w2 := mkM σ) (fun _ _ => rfl) h (fun h => ?_) (fun h => ?_)
  · refine bfr_call 4 (d1 := d + 6) (M1 := M_X12_tellRest) (vs := [(.ref 0), (.int ci_0), (.int cb_23)]) (w1 := mkM σ) (pc2 := 138) (L2 := [some (.ref 0), some (.int x1)]) (J2 := []) (rest := []) (fun a => some (.int a.1)) (fun a => mkM a.2) (fun _ _ => rfl) h (fun a ha => k_m_tellRest n (d + 2) _ _ _ _ ha) (fun q1 _ h => ?_)
    exact bfr_bz (mk := mkM) 1 (fun _ _ => rfl) h
  · refine bfr_br 3 (pc1 := 145) (L1 := [some (.ref 0), some (.int x1)]) (J1 := []) (st1 := []) (w1 := mkM σ) (pc2 := 153) (L2 := [some (.ref 0), some (.int x1)]) (J2 := []) (st2 := []) (w2 := mkM σ) (fun _ _ => rfl) h (fun h => ?_) (fun h => ?_)
    · refine bfr_call 4 (d1 := d + 6) (M1 := M_X12_tellRest) (vs := [(.ref 0), (.int ci_1), (.int cb_100)]) (w1 := mkM σ) (pc2 := 152) (L2 := [some (.ref 0), some (.int x1)]) (J2 := []) (rest := []) (fun a => some (.int a.1)) (fun a => mkM a.2) (fun _ _ => rfl) h (fun a ha => k_m_tellRest n (d + 2) _ _ _ _ ha) (fun q2 _ h => ?_)
      exact bfr_bz (mk := mkM) 1 (fun _ _ => rfl) h
    · refine bfr_br 3 (pc1 := 159) (L1 := [some (.ref 0), some (.int x1)]) (J1 := []) (st1 := []) (w1 := mkM σ) (pc2 := 167) (L2 := [some (.ref 0), some (.int x1)]) (J2 := []) (st2 := []) (w2 := mkM σ) (fun _ _ => rfl) h (fun h => ?_) (fun h => ?_)
      · refine bfr_call 4 (d1 := d + 6) (M1 := M_X12_tellRest) (vs := [(.ref 0), (.int ci_2), (.int cb_99)]) (w1 := mkM σ) (pc2 := 166) (L2 := [some (.ref 0), some (.int x1)]) (J2 := []) (rest := []) (fun a => some (.int a.1)) (fun a => mkM a.2) (fun _ _ => rfl) h (fun a ha => k_m_tellRest n (d + 2) _ _ _ _ ha) (fun q3 _ h => ?_)
        exact bfr_bz (mk := mkM) 1 (fun _ _ => rfl) h
      · refine bfr_br 3 (pc1 := 173) (L1 := [some (.ref 0), some (.int x1)]) (J1 := []) (st1 := []) (w1 := mkM σ) (pc2 := 184) (L2 := [some (.ref 0), some (.int x1)]) (J2 := []) (st2 := []) (w2 := mkM σ) (fun _ _ => rfl) h (fun h => ?_) (fun h => ?_)
        · refine bfr_call 4 (d1 := d + 6) (M1 := M_X12_tellRest) (vs := [(.ref 0), (.int ci_3), (.int cs_9999)]) (w1 := mkM σ) (pc2 := 181) (L2 := [some (.ref 0), some (.int x1)]) (J2 := []) (rest := []) (fun a => some (.int a.1)) (fun a => mkM a.2) (fun _ _ => rfl) h (fun a ha => k_m_tellRest n (d + 2) _ _ _ _ ha) (fun q4 _ h => ?_)
          refine bfr_run 1 189 [some (.ref 0), some (.int x1)] [] [(.int q4.1)] (mkM q4.2) (fun _ _ => rfl) ?_
          exact k_m_tellOne_b189 n d q _ _ _ _ h
        · refine bfr_call 3 (d1 := d + 6) (M1 := M_X12_wrong) (vs := [(.ref 0), (.int ci_1)]) (w1 := mkM σ) (pc2 := 189) (L2 := [some (.ref 0), some (.int x1)]) (J2 := []) (rest := []) (fun a => some (.int a.1)) (fun a => mkM a.2) (fun _ _ => rfl) h (fun a ha => k_m_wrong n (d + 6) _ _ _ ha) (fun q5 _ h => ?_)
          exact k_m_tellOne_b189 n d q _ _ _ _ h
set_option maxRecDepth 100000 in
theorem k_m_tellOne_b124 (n d : Nat) (q : (Int32 × bS)) (s0 : Int32) (o0 : Option Value) (o1 : Option Value) (σ : bS) (h : m_tellOne_b124 n s0 σ = some q) : bfr MT (d + 7) M_X12_tellOne 124 [o0, o1] [] [(.int s0)] (mkM σ) (some (.int q.1), mkM q.2) := by
  unfold m_tellOne_b124 at h
  exact bfr_bz (mk := mkM) 1 (fun _ _ => rfl) h
set_option maxRecDepth 100000 in
theorem k_m_tellOne_b123 (n d : Nat) (q : (Int32 × bS)) (o0 : Option Value) (o1 : Option Value) (σ : bS) (h : m_tellOne_b123 n σ = some q) : bfr MT (d + 7) M_X12_tellOne 123 [o0, o1] [] [] (mkM σ) (some (.int q.1), mkM q.2) := by
  unfold m_tellOne_b123 at h
  refine bfr_run 1 124 [o0, o1] [] [(.int ci_0)] (mkM σ) (fun _ _ => rfl) ?_
  exact k_m_tellOne_b124 n d q _ _ _ _ h
set_option maxRecDepth 100000 in
theorem k_m_tellOne_b26 (n d : Nat) (q : (Int32 × bS)) (s0 : Int32) (o1 : Option Value) (σ : bS) (h : m_tellOne_b26 n s0 σ = some q) : bfr MT (d + 7) M_X12_tellOne 26 [some (.ref 0), o1] [] [(.int s0)] (mkM σ) (some (.int q.1), mkM q.2) := by
  unfold m_tellOne_b26 at h
  refine bfr_br 3 (pc1 := 31) (L1 := [some (.ref 0), some (.int s0)]) (J1 := []) (st1 := []) (w1 := mkM σ) (pc2 := 36) (L2 := [some (.ref 0), some (.int s0)]) (J2 := []) (st2 := []) (w2 := mkM σ) (fun _ _ => rfl) h (fun h => ?_) (fun h => ?_)
  · refine bfr_call 2 (d1 := d + 6) (M1 := M_X12_tellBank) (vs := [(.ref 0)]) (w1 := mkM σ) (pc2 := 35) (L2 := [some (.ref 0), some (.int s0)]) (J2 := []) (rest := []) (fun a => some (.int a.1)) (fun a => mkM a.2) (fun _ _ => rfl) h (fun a ha => k_m_tellBank n (d + 2) _ _ ha) (fun q6 _ h => ?_)
    exact bfr_bz (mk := mkM) 1 (fun _ _ => rfl) h
  · refine bfr_br 3 (pc1 := 41) (L1 := [some (.ref 0), some (.int s0)]) (J1 := []) (st1 := []) (w1 := mkM σ) (pc2 := 46) (L2 := [some (.ref 0), some (.int s0)]) (J2 := []) (st2 := []) (w2 := mkM σ) (fun _ _ => rfl) h (fun h => ?_) (fun h => ?_)
    · refine bfr_call 2 (d1 := d + 6) (M1 := M_X12_tellPath) (vs := [(.ref 0)]) (w1 := mkM σ) (pc2 := 45) (L2 := [some (.ref 0), some (.int s0)]) (J2 := []) (rest := []) (fun a => some (.int a.1)) (fun a => mkM a.2) (fun _ _ => rfl) h (fun a ha => k_m_tellPath n (d + 2) _ _ ha) (fun q7 _ h => ?_)
      exact bfr_bz (mk := mkM) 1 (fun _ _ => rfl) h
    · refine bfr_br 3 (pc1 := 51) (L1 := [some (.ref 0), some (.int s0)]) (J1 := []) (st1 := []) (w1 := mkM σ) (pc2 := 56) (L2 := [some (.ref 0), some (.int s0)]) (J2 := []) (st2 := []) (w2 := mkM σ) (fun _ _ => rfl) h (fun h => ?_) (fun h => ?_)
      · refine bfr_call 2 (d1 := d + 6) (M1 := M_X12_tellBridge) (vs := [(.ref 0)]) (w1 := mkM σ) (pc2 := 55) (L2 := [some (.ref 0), some (.int s0)]) (J2 := []) (rest := []) (fun a => some (.int a.1)) (fun a => mkM a.2) (fun _ _ => rfl) h (fun a ha => k_m_tellBridge n (d + 2) _ _ ha) (fun q8 _ h => ?_)
        exact bfr_bz (mk := mkM) 1 (fun _ _ => rfl) h
      · refine bfr_br 3 (pc1 := 61) (L1 := [some (.ref 0), some (.int s0)]) (J1 := []) (st1 := []) (w1 := mkM σ) (pc2 := 66) (L2 := [some (.ref 0), some (.int s0)]) (J2 := []) (st2 := []) (w2 := mkM σ) (fun _ _ => rfl) h (fun h => ?_) (fun h => ?_)
        · refine bfr_call 2 (d1 := d + 6) (M1 := M_X12_tellMan) (vs := [(.ref 0)]) (w1 := mkM σ) (pc2 := 65) (L2 := [some (.ref 0), some (.int s0)]) (J2 := []) (rest := []) (fun a => some (.int a.1)) (fun a => mkM a.2) (fun _ _ => rfl) h (fun a ha => k_m_tellMan n (d + 2) _ _ ha) (fun q9 _ h => ?_)
          exact bfr_bz (mk := mkM) 1 (fun _ _ => rfl) h
        · refine bfr_br 3 (pc1 := 71) (L1 := [some (.ref 0), some (.int s0)]) (J1 := []) (st1 := []) (w1 := mkM σ) (pc2 := 78) (L2 := [some (.ref 0), some (.int s0)]) (J2 := []) (st2 := []) (w2 := mkM σ) (fun _ _ => rfl) h (fun h => ?_) (fun h => ?_)
          · refine bfr_call 4 (d1 := d + 6) (M1 := M_X12_tellLawOf) (vs := [(.ref 0), (.int ci_2), (.int ci_0)]) (w1 := mkM σ) (pc2 := 77) (L2 := [some (.ref 0), some (.int s0)]) (J2 := []) (rest := []) (fun a => some (.int a.1)) (fun a => mkM a.2) (fun _ _ => rfl) h (fun a ha => k_m_tellLawOf n (d + 0) _ _ _ _ ha) (fun q10 _ h => ?_)
            exact bfr_bz (mk := mkM) 1 (fun _ _ => rfl) h
          · refine bfr_br 3 (pc1 := 83) (L1 := [some (.ref 0), some (.int s0)]) (J1 := []) (st1 := []) (w1 := mkM σ) (pc2 := 91) (L2 := [some (.ref 0), some (.int s0)]) (J2 := []) (st2 := []) (w2 := mkM σ) (fun _ _ => rfl) h (fun h => ?_) (fun h => ?_)
            · refine bfr_call 4 (d1 := d + 6) (M1 := M_X12_tellLawOf) (vs := [(.ref 0), (.int ci_1), (.int cb_7)]) (w1 := mkM σ) (pc2 := 90) (L2 := [some (.ref 0), some (.int s0)]) (J2 := []) (rest := []) (fun a => some (.int a.1)) (fun a => mkM a.2) (fun _ _ => rfl) h (fun a ha => k_m_tellLawOf n (d + 0) _ _ _ _ ha) (fun q11 _ h => ?_)
              exact bfr_bz (mk := mkM) 1 (fun _ _ => rfl) h
            · refine bfr_br 3 (pc1 := 125) (L1 := [some (.ref 0), some (.int s0)]) (J1 := []) (st1 := []) (w1 := mkM σ) (pc2 := 96) (L2 := [some (.ref 0), some (.int s0)]) (J2 := []) (st2 := []) (w2 := mkM σ) (fun _ _ => rfl) h (fun h => ?_) (fun h => ?_)
              · exact k_m_tellOne_b125 n d q _ _ h
              · refine bfr_br 3 (pc1 := 125) (L1 := [some (.ref 0), some (.int s0)]) (J1 := []) (st1 := []) (w1 := mkM σ) (pc2 := 102) (L2 := [some (.ref 0), some (.int s0)]) (J2 := []) (st2 := []) (w2 := mkM σ) (fun _ _ => rfl) h (fun h => ?_) (fun h => ?_)
                · exact k_m_tellOne_b125 n d q _ _ h
                · refine bfr_call 2 (d1 := d + 6) (M1 := M_X12_pass) (vs := [(.ref 0)]) (w1 := mkM σ) (pc2 := 106) (L2 := [some (.ref 0), some (.int s0)]) (J2 := []) (rest := []) (fun a => some (.int a.1)) (fun a => mkM a.2) (fun _ _ => rfl) h (fun a ha => k_m_pass n (d + 5) _ _ ha) (fun q12 _ h => ?_)
                  refine bfr_br 1 (pc1 := 123) (L1 := [some (.ref 0), some (.int s0)]) (J1 := []) (st1 := []) (w1 := mkM q12.2) (pc2 := 109) (L2 := [some (.ref 0), some (.int s0)]) (J2 := []) (st2 := []) (w2 := mkM q12.2) (fun _ _ => rfl) h (fun h => ?_) (fun h => ?_)
                  · exact k_m_tellOne_b123 n d q _ _ _ h
                  · refine bfr_call 5 (d1 := d + 6) (M1 := M_X12_lawTold) (vs := [(.ref 0), (.int (s0 + ci_5))]) (w1 := mkM q12.2) (pc2 := 116) (L2 := [some (.ref 0), some (.int s0)]) (J2 := []) (rest := []) (fun a => some (.int a.1)) (fun a => mkM a.2) (fun _ _ => rfl) h (fun a ha => k_m_lawTold n (d + 1) _ _ _ ha) (fun q13 _ h => ?_)
                    refine bfr_br 1 (pc1 := 123) (L1 := [some (.ref 0), some (.int s0)]) (J1 := []) (st1 := []) (w1 := mkM q13.2) (pc2 := 119) (L2 := [some (.ref 0), some (.int s0)]) (J2 := []) (st2 := []) (w2 := mkM q13.2) (fun _ _ => rfl) h (fun h => ?_) (fun h => ?_)
                    · exact k_m_tellOne_b123 n d q _ _ _ h
                    · refine bfr_run 2 124 [some (.ref 0), some (.int s0)] [] [(.int ci_1)] (mkM q13.2) (fun _ _ => rfl) ?_
                      exact k_m_tellOne_b124 n d q _ _ _ _ h
set_option maxRecDepth 100000 in
theorem k_m_tellOne (n d : Nat) (q : (Int32 × bS)) (σ : bS) (h : m_tellOne n σ = some q) : bfr MT (d + 7) M_X12_tellOne 0 [some (.ref 0), none] [] [] (mkM σ) (some (.int q.1), mkM q.2) := by
  unfold m_tellOne at h
  refine bfr_in (i := (sI σ 0 7)) (m := 2001) 5 (pc1 := 9) (L1 := [some (.ref 0), none]) (J1 := []) (st1 := [(.int (sA σ 2 (sI σ 0 7)))]) (w1 := mkM σ) (fun _ _ => rfl) h (fun h => ?_)
  refine bfr_br 2 (pc1 := 13) (L1 := [some (.ref 0), none]) (J1 := []) (st1 := []) (w1 := mkM σ) (pc2 := 25) (L2 := [some (.ref 0), none]) (J2 := []) (st2 := []) (w2 := mkM σ) (fun _ _ => rfl) h (fun h => ?_) (fun h => ?_)
  · refine bfr_in (i := (sI σ 0 7)) (m := 2001) 5 (pc1 := 22) (L1 := [some (.ref 0), none]) (J1 := []) (st1 := [(.int (sA σ 4 (sI σ 0 7)))]) (w1 := mkM σ) (fun _ _ => rfl) h (fun h => ?_)
    refine bfr_run 1 26 [some (.ref 0), none] [] [(.int (sA σ 4 (sI σ 0 7)))] (mkM σ) (fun _ _ => rfl) ?_
    exact k_m_tellOne_b26 n d q _ _ _ h
  · refine bfr_run 1 26 [some (.ref 0), none] [] [(.int ci_m1)] (mkM σ) (fun _ _ => rfl) ?_
    exact k_m_tellOne_b26 n d q _ _ _ h
set_option maxRecDepth 100000 in
theorem k_m_clears_b78 (n d : Nat) (q : bS) : ∀ (k : Nat) (x1 : Int32) (σ : bS), m_clears_b78 n k x1 σ = some q → bfr MT (d + 0) M_X12_clears 78 [some (.ref 0), some (.int x1)] [] [] (mkM σ) (none, mkM q) := by
  intro k
  induction k with
  | zero => intro x1 σ h; exact bno h
  | succ k ih =>
    intro x1 σ h
    unfold m_clears_b78 at h
    refine bfr_br 3 (pc1 := 100) (L1 := [some (.ref 0), some (.int x1)]) (J1 := []) (st1 := []) (w1 := mkM σ) (pc2 := 84) (L2 := [some (.ref 0), some (.int x1)]) (J2 := []) (st2 := []) (w2 := mkM σ) (fun _ _ => rfl) h (fun h => ?_) (fun h => ?_)
    · cases h
      exact bfr_ret 1 (fun _ _ => rfl)
    · refine bfr_run 6 93 [some (.ref 0), some (.int x1)] [] [(.int ci_m1), (.int (cb_14 + x1)), (.ref 9)] (mkM σ) (fun _ _ => rfl) ?_
      refine bfr_in (i := (cb_14 + x1)) (m := 28) 1 (pc1 := 94) (L1 := [some (.ref 0), some (.int x1)]) (J1 := []) (st1 := []) (w1 := ((mkM σ).set 9 (.inl (0, 28, upd (σ.2.1 9) ((cb_14 + x1)).toNatClampNeg ci_m1)))) (fun _ _ => rfl) h (fun h => ?_)
      rw [mkM_A9]
      refine bfr_run 1 97 [some (.ref 0), some (.int (x1 + ci_1))] [] [] (mkM (uA σ 9 (cb_14 + x1) ci_m1)) (fun _ _ => rfl) ?_
      refine bfr_run 1 78 [some (.ref 0), some (.int (x1 + ci_1))] [] [] (mkM (uA σ 9 (cb_14 + x1) ci_m1)) (fun _ _ => rfl) ?_
      exact ih _ _ h
set_option maxRecDepth 100000 in
theorem k_m_clears (n d : Nat) (q : bS) (σ : bS) (h : m_clears n σ = some q) : bfr MT (d + 0) M_X12_clears 0 [some (.ref 0), none] [] [] (mkM σ) (none, mkM q) := by
  unfold m_clears at h
  refine bfr_run 3 5 [some (.ref 0), none] [] [] ((mkM σ).set 0 (.inr (.inr (12, (mkM_0 σ).set 7 (.int ci_0))))) (fun _ _ => rfl) ?_
  rw [mkM_I0_7]
  refine bfr_run 3 10 [some (.ref 0), none] [] [] ((mkM (uI σ 0 7 ci_0)).set 0 (.inr (.inr (12, (mkM_0 (uI σ 0 7 ci_0)).set 31 (.int ci_0))))) (fun _ _ => rfl) ?_
  rw [mkM_I0_31]
  refine bfr_in (i := ci_1) (m := 2) 5 (pc1 := 17) (L1 := [some (.ref 0), none]) (J1 := []) (st1 := []) (w1 := ((mkM (uI (uI σ 0 7 ci_0) 0 31 ci_0)).set 6 (.inl (0, 2, upd ((uI (uI σ 0 7 ci_0) 0 31 ci_0).2.1 6) (ci_1).toNatClampNeg ci_0)))) (fun _ _ => rfl) h (fun h => ?_)
  rw [mkM_A6]
  refine bfr_in (i := ci_1) (m := 2) 5 (pc1 := 24) (L1 := [some (.ref 0), none]) (J1 := []) (st1 := []) (w1 := ((mkM (uA (uI (uI σ 0 7 ci_0) 0 31 ci_0) 6 ci_1 ci_0)).set 12 (.inl (0, 2, upd ((uA (uI (uI σ 0 7 ci_0) 0 31 ci_0) 6 ci_1 ci_0).2.1 12) (ci_1).toNatClampNeg ci_0)))) (fun _ _ => rfl) h (fun h => ?_)
  rw [mkM_A12]
  refine bfr_in (i := ci_1) (m := 2) 5 (pc1 := 31) (L1 := [some (.ref 0), none]) (J1 := []) (st1 := []) (w1 := ((mkM (uA (uA (uI (uI σ 0 7 ci_0) 0 31 ci_0) 6 ci_1 ci_0) 12 ci_1 ci_0)).set 13 (.inl (0, 2, upd ((uA (uA (uI (uI σ 0 7 ci_0) 0 31 ci_0) 6 ci_1 ci_0) 12 ci_1 ci_0).2.1 13) (ci_1).toNatClampNeg ci_0)))) (fun _ _ => rfl) h (fun h => ?_)
  rw [mkM_A13]
  refine bfr_in (i := ci_1) (m := 2) 5 (pc1 := 38) (L1 := [some (.ref 0), none]) (J1 := []) (st1 := []) (w1 := ((mkM (uA (uA (uA (uI (uI σ 0 7 ci_0) 0 31 ci_0) 6 ci_1 ci_0) 12 ci_1 ci_0) 13 ci_1 ci_0)).set 17 (.inl (0, 2, upd ((uA (uA (uA (uI (uI σ 0 7 ci_0) 0 31 ci_0) 6 ci_1 ci_0) 12 ci_1 ci_0) 13 ci_1 ci_0).2.1 17) (ci_1).toNatClampNeg ci_0)))) (fun _ _ => rfl) h (fun h => ?_)
  rw [mkM_A17]
  refine bfr_in (i := ci_1) (m := 2) 5 (pc1 := 45) (L1 := [some (.ref 0), none]) (J1 := []) (st1 := []) (w1 := ((mkM (uA (uA (uA (uA (uI (uI σ 0 7 ci_0) 0 31 ci_0) 6 ci_1 ci_0) 12 ci_1 ci_0) 13 ci_1 ci_0) 17 ci_1 ci_0)).set 20 (.inl (0, 2, upd ((uA (uA (uA (uA (uI (uI σ 0 7 ci_0) 0 31 ci_0) 6 ci_1 ci_0) 12 ci_1 ci_0) 13 ci_1 ci_0) 17 ci_1 ci_0).2.1 20) (ci_1).toNatClampNeg ci_0)))) (fun _ _ => rfl) h (fun h => ?_)
  rw [mkM_A20]
  refine bfr_in (i := ci_4) (m := 8) 5 (pc1 := 53) (L1 := [some (.ref 0), none]) (J1 := []) (st1 := []) (w1 := ((mkM (uA (uA (uA (uA (uA (uI (uI σ 0 7 ci_0) 0 31 ci_0) 6 ci_1 ci_0) 12 ci_1 ci_0) 13 ci_1 ci_0) 17 ci_1 ci_0) 20 ci_1 ci_0)).set 24 (.inl (0, 8, upd ((uA (uA (uA (uA (uA (uI (uI σ 0 7 ci_0) 0 31 ci_0) 6 ci_1 ci_0) 12 ci_1 ci_0) 13 ci_1 ci_0) 17 ci_1 ci_0) 20 ci_1 ci_0).2.1 24) (ci_4).toNatClampNeg cb_m2)))) (fun _ _ => rfl) h (fun h => ?_)
  rw [mkM_A24]
  refine bfr_in (i := ci_5) (m := 8) 5 (pc1 := 60) (L1 := [some (.ref 0), none]) (J1 := []) (st1 := []) (w1 := ((mkM (uA (uA (uA (uA (uA (uA (uI (uI σ 0 7 ci_0) 0 31 ci_0) 6 ci_1 ci_0) 12 ci_1 ci_0) 13 ci_1 ci_0) 17 ci_1 ci_0) 20 ci_1 ci_0) 24 ci_4 cb_m2)).set 24 (.inl (0, 8, upd ((uA (uA (uA (uA (uA (uA (uI (uI σ 0 7 ci_0) 0 31 ci_0) 6 ci_1 ci_0) 12 ci_1 ci_0) 13 ci_1 ci_0) 17 ci_1 ci_0) 20 ci_1 ci_0) 24 ci_4 cb_m2).2.1 24) (ci_5).toNatClampNeg ci_0)))) (fun _ _ => rfl) h (fun h => ?_)
  rw [mkM_A24]
  refine bfr_in (i := cb_6) (m := 8) 5 (pc1 := 68) (L1 := [some (.ref 0), none]) (J1 := []) (st1 := []) (w1 := ((mkM (uA (uA (uA (uA (uA (uA (uA (uI (uI σ 0 7 ci_0) 0 31 ci_0) 6 ci_1 ci_0) 12 ci_1 ci_0) 13 ci_1 ci_0) 17 ci_1 ci_0) 20 ci_1 ci_0) 24 ci_4 cb_m2) 24 ci_5 ci_0)).set 24 (.inl (0, 8, upd ((uA (uA (uA (uA (uA (uA (uA (uI (uI σ 0 7 ci_0) 0 31 ci_0) 6 ci_1 ci_0) 12 ci_1 ci_0) 13 ci_1 ci_0) 17 ci_1 ci_0) 20 ci_1 ci_0) 24 ci_4 cb_m2) 24 ci_5 ci_0).2.1 24) (cb_6).toNatClampNeg ci_5)))) (fun _ _ => rfl) h (fun h => ?_)
  rw [mkM_A24]
  refine bfr_in (i := cb_7) (m := 8) 5 (pc1 := 76) (L1 := [some (.ref 0), none]) (J1 := []) (st1 := []) (w1 := ((mkM (uA (uA (uA (uA (uA (uA (uA (uA (uI (uI σ 0 7 ci_0) 0 31 ci_0) 6 ci_1 ci_0) 12 ci_1 ci_0) 13 ci_1 ci_0) 17 ci_1 ci_0) 20 ci_1 ci_0) 24 ci_4 cb_m2) 24 ci_5 ci_0) 24 cb_6 ci_5)).set 24 (.inl (0, 8, upd ((uA (uA (uA (uA (uA (uA (uA (uA (uI (uI σ 0 7 ci_0) 0 31 ci_0) 6 ci_1 ci_0) 12 ci_1 ci_0) 13 ci_1 ci_0) 17 ci_1 ci_0) 20 ci_1 ci_0) 24 ci_4 cb_m2) 24 ci_5 ci_0) 24 cb_6 ci_5).2.1 24) (cb_7).toNatClampNeg ci_0)))) (fun _ _ => rfl) h (fun h => ?_)
  rw [mkM_A24]
  refine bfr_run 2 78 [some (.ref 0), some (.int ci_0)] [] [] (mkM (uA (uA (uA (uA (uA (uA (uA (uA (uA (uI (uI σ 0 7 ci_0) 0 31 ci_0) 6 ci_1 ci_0) 12 ci_1 ci_0) 13 ci_1 ci_0) 17 ci_1 ci_0) 20 ci_1 ci_0) 24 ci_4 cb_m2) 24 ci_5 ci_0) 24 cb_6 ci_5) 24 cb_7 ci_0)) (fun _ _ => rfl) ?_
  exact k_m_clears_b78 n d q _ _ _ h
set_option maxRecDepth 100000 in
theorem k_m_parses_b33 (n d : Nat) (q : (Int32 × bS)) (o0 : Option Value) (σ : bS) (h : m_parses_b33 n σ = some q) : bfr MT (d + 8) M_X12_parses 33 [o0] [] [] (mkM σ) (some (.int q.1), mkM q.2) := by
  unfold m_parses_b33 at h
  exact bfr_bz (mk := mkM) 2 (fun _ _ => rfl) h
set_option maxRecDepth 100000 in
theorem k_m_parses_b4 (n d : Nat) (q : (Int32 × bS)) : ∀ (k : Nat) (σ : bS), m_parses_b4 n k σ = some q → bfr MT (d + 8) M_X12_parses 4 [some (.ref 0)] [] [] (mkM σ) (some (.int q.1), mkM q.2) := by
  intro k
  induction k with
  | zero => intro σ h; exact bno h
  | succ k ih =>
    intro σ h
    unfold m_parses_b4 at h
    refine bfr_in (i := (sI σ 0 7)) (m := 2001) 5 (pc1 := 13) (L1 := [some (.ref 0)]) (J1 := []) (st1 := [(.int (sA σ 2 (sI σ 0 7)))]) (w1 := mkM σ) (fun _ _ => rfl) h (fun h => ?_)
    refine bfr_br 2 (pc1 := 35) (L1 := [some (.ref 0)]) (J1 := []) (st1 := []) (w1 := mkM σ) (pc2 := 17) (L2 := [some (.ref 0)]) (J2 := []) (st2 := []) (w2 := mkM σ) (fun _ _ => rfl) h (fun h => ?_) (fun h => ?_)
    · exact bfr_bz (mk := mkM) 2 (fun _ _ => rfl) h
    · refine bfr_call 2 (d1 := d + 7) (M1 := M_X12_tellOne) (vs := [(.ref 0)]) (w1 := mkM σ) (pc2 := 21) (L2 := [some (.ref 0)]) (J2 := []) (rest := []) (fun a => some (.int a.1)) (fun a => mkM a.2) (fun _ _ => rfl) h (fun a ha => k_m_tellOne n (d + 0) _ _ ha) (fun q1 _ h => ?_)
      refine bfr_br 1 (pc1 := 33) (L1 := [some (.ref 0)]) (J1 := []) (st1 := []) (w1 := mkM q1.2) (pc2 := 24) (L2 := [some (.ref 0)]) (J2 := []) (st2 := []) (w2 := mkM q1.2) (fun _ _ => rfl) h (fun h => ?_) (fun h => ?_)
      · exact k_m_parses_b33 n d q _ _ h
      · refine bfr_call 3 (d1 := d + 7) (M1 := M_X12_takesSign) (vs := [(.ref 0), (.int cb_59)]) (w1 := mkM q1.2) (pc2 := 30) (L2 := [some (.ref 0)]) (J2 := []) (rest := []) (fun a => some (.int a.1)) (fun a => mkM a.2) (fun _ _ => rfl) h (fun a ha => k_m_takesSign n (d + 5) _ _ _ ha) (fun q2 _ h => ?_)
        refine bfr_br 1 (pc1 := 33) (L1 := [some (.ref 0)]) (J1 := []) (st1 := []) (w1 := mkM q2.2) (pc2 := 4) (L2 := [some (.ref 0)]) (J2 := []) (st2 := []) (w2 := mkM q2.2) (fun _ _ => rfl) h (fun h => ?_) (fun h => ?_)
        · exact k_m_parses_b33 n d q _ _ h
        · exact ih _ h
set_option maxRecDepth 100000 in
theorem k_m_parses (n d : Nat) (q : (Int32 × bS)) (σ : bS) (h : m_parses n σ = some q) : bfr MT (d + 8) M_X12_parses 0 [some (.ref 0)] [] [] (mkM σ) (some (.int q.1), mkM q.2) := by
  unfold m_parses at h
  refine bfr_call 2 (d1 := d + 7) (M1 := M_X12_clears) (vs := [(.ref 0)]) (w1 := mkM σ) (pc2 := 4) (L2 := [some (.ref 0)]) (J2 := []) (rest := []) (fun _ => none) (fun a => mkM a) (fun _ _ => rfl) h (fun a ha => k_m_clears n (d + 7) _ _ ha) (fun q3 _ h => ?_)
  exact k_m_parses_b4 n d q _ _ h
set_option maxRecDepth 100000 in
theorem k_m_lays_b239 (n d : Nat) (q : bS) : ∀ (k : Nat) (x1 : Int32) (σ : bS), m_lays_b239 n k x1 σ = some q → bfr MT (d + 0) M_X12_lays 239 [some (.ref 0), some (.int x1)] [] [] (mkM σ) (none, mkM q) := by
  intro k
  induction k with
  | zero => intro x1 σ h; exact bno h
  | succ k ih =>
    intro x1 σ h
    unfold m_lays_b239 at h
    refine bfr_br 3 (pc1 := 296) (L1 := [some (.ref 0), some (.int x1)]) (J1 := []) (st1 := []) (w1 := mkM σ) (pc2 := 245) (L2 := [some (.ref 0), some (.int x1)]) (J2 := []) (st2 := []) (w2 := mkM σ) (fun _ _ => rfl) h (fun h => ?_) (fun h => ?_)
    · refine bfr_run 6 306 [some (.ref 0), some (.int x1)] [] [(.int ci_1), (.ref 12), (.int ci_0), (.ref 12)] (mkM σ) (fun _ _ => rfl) ?_
      refine bfr_in (i := ci_1) (m := 2) 1 (pc1 := 307) (L1 := [some (.ref 0), some (.int x1)]) (J1 := []) (st1 := [(.int (sA σ 12 ci_1)), (.int ci_0), (.ref 12)]) (w1 := mkM σ) (fun _ _ => rfl) h (fun h => ?_)
      refine bfr_in (i := ci_0) (m := 2) 1 (pc1 := 308) (L1 := [some (.ref 0), some (.int x1)]) (J1 := []) (st1 := []) (w1 := ((mkM σ).set 12 (.inl (0, 2, upd (σ.2.1 12) (ci_0).toNatClampNeg (sA σ 12 ci_1))))) (fun _ _ => rfl) h (fun h => ?_)
      rw [mkM_A12]
      refine bfr_run 6 318 [some (.ref 0), some (.int x1)] [] [(.int ci_1), (.ref 13), (.int ci_0), (.ref 13)] (mkM (uA σ 12 ci_0 (sA σ 12 ci_1))) (fun _ _ => rfl) ?_
      refine bfr_in (i := ci_1) (m := 2) 1 (pc1 := 319) (L1 := [some (.ref 0), some (.int x1)]) (J1 := []) (st1 := [(.int (sA (uA σ 12 ci_0 (sA σ 12 ci_1)) 13 ci_1)), (.int ci_0), (.ref 13)]) (w1 := mkM (uA σ 12 ci_0 (sA σ 12 ci_1))) (fun _ _ => rfl) h (fun h => ?_)
      refine bfr_in (i := ci_0) (m := 2) 1 (pc1 := 320) (L1 := [some (.ref 0), some (.int x1)]) (J1 := []) (st1 := []) (w1 := ((mkM (uA σ 12 ci_0 (sA σ 12 ci_1))).set 13 (.inl (0, 2, upd ((uA σ 12 ci_0 (sA σ 12 ci_1)).2.1 13) (ci_0).toNatClampNeg (sA (uA σ 12 ci_0 (sA σ 12 ci_1)) 13 ci_1))))) (fun _ _ => rfl) h (fun h => ?_)
      rw [mkM_A13]
      refine bfr_run 6 330 [some (.ref 0), some (.int x1)] [] [(.int ci_1), (.ref 17), (.int ci_0), (.ref 17)] (mkM (uA (uA σ 12 ci_0 (sA σ 12 ci_1)) 13 ci_0 (sA (uA σ 12 ci_0 (sA σ 12 ci_1)) 13 ci_1))) (fun _ _ => rfl) ?_
      refine bfr_in (i := ci_1) (m := 2) 1 (pc1 := 331) (L1 := [some (.ref 0), some (.int x1)]) (J1 := []) (st1 := [(.int (sA (uA (uA σ 12 ci_0 (sA σ 12 ci_1)) 13 ci_0 (sA (uA σ 12 ci_0 (sA σ 12 ci_1)) 13 ci_1)) 17 ci_1)), (.int ci_0), (.ref 17)]) (w1 := mkM (uA (uA σ 12 ci_0 (sA σ 12 ci_1)) 13 ci_0 (sA (uA σ 12 ci_0 (sA σ 12 ci_1)) 13 ci_1))) (fun _ _ => rfl) h (fun h => ?_)
      refine bfr_in (i := ci_0) (m := 2) 1 (pc1 := 332) (L1 := [some (.ref 0), some (.int x1)]) (J1 := []) (st1 := []) (w1 := ((mkM (uA (uA σ 12 ci_0 (sA σ 12 ci_1)) 13 ci_0 (sA (uA σ 12 ci_0 (sA σ 12 ci_1)) 13 ci_1))).set 17 (.inl (0, 2, upd ((uA (uA σ 12 ci_0 (sA σ 12 ci_1)) 13 ci_0 (sA (uA σ 12 ci_0 (sA σ 12 ci_1)) 13 ci_1)).2.1 17) (ci_0).toNatClampNeg (sA (uA (uA σ 12 ci_0 (sA σ 12 ci_1)) 13 ci_0 (sA (uA σ 12 ci_0 (sA σ 12 ci_1)) 13 ci_1)) 17 ci_1))))) (fun _ _ => rfl) h (fun h => ?_)
      rw [mkM_A17]
      refine bfr_run 6 342 [some (.ref 0), some (.int x1)] [] [(.int ci_1), (.ref 20), (.int ci_0), (.ref 20)] (mkM (uA (uA (uA σ 12 ci_0 (sA σ 12 ci_1)) 13 ci_0 (sA (uA σ 12 ci_0 (sA σ 12 ci_1)) 13 ci_1)) 17 ci_0 (sA (uA (uA σ 12 ci_0 (sA σ 12 ci_1)) 13 ci_0 (sA (uA σ 12 ci_0 (sA σ 12 ci_1)) 13 ci_1)) 17 ci_1))) (fun _ _ => rfl) ?_
      refine bfr_in (i := ci_1) (m := 2) 1 (pc1 := 343) (L1 := [some (.ref 0), some (.int x1)]) (J1 := []) (st1 := [(.int (sA (uA (uA (uA σ 12 ci_0 (sA σ 12 ci_1)) 13 ci_0 (sA (uA σ 12 ci_0 (sA σ 12 ci_1)) 13 ci_1)) 17 ci_0 (sA (uA (uA σ 12 ci_0 (sA σ 12 ci_1)) 13 ci_0 (sA (uA σ 12 ci_0 (sA σ 12 ci_1)) 13 ci_1)) 17 ci_1)) 20 ci_1)), (.int ci_0), (.ref 20)]) (w1 := mkM (uA (uA (uA σ 12 ci_0 (sA σ 12 ci_1)) 13 ci_0 (sA (uA σ 12 ci_0 (sA σ 12 ci_1)) 13 ci_1)) 17 ci_0 (sA (uA (uA σ 12 ci_0 (sA σ 12 ci_1)) 13 ci_0 (sA (uA σ 12 ci_0 (sA σ 12 ci_1)) 13 ci_1)) 17 ci_1))) (fun _ _ => rfl) h (fun h => ?_)
      refine bfr_in (i := ci_0) (m := 2) 1 (pc1 := 344) (L1 := [some (.ref 0), some (.int x1)]) (J1 := []) (st1 := []) (w1 := ((mkM (uA (uA (uA σ 12 ci_0 (sA σ 12 ci_1)) 13 ci_0 (sA (uA σ 12 ci_0 (sA σ 12 ci_1)) 13 ci_1)) 17 ci_0 (sA (uA (uA σ 12 ci_0 (sA σ 12 ci_1)) 13 ci_0 (sA (uA σ 12 ci_0 (sA σ 12 ci_1)) 13 ci_1)) 17 ci_1))).set 20 (.inl (0, 2, upd ((uA (uA (uA σ 12 ci_0 (sA σ 12 ci_1)) 13 ci_0 (sA (uA σ 12 ci_0 (sA σ 12 ci_1)) 13 ci_1)) 17 ci_0 (sA (uA (uA σ 12 ci_0 (sA σ 12 ci_1)) 13 ci_0 (sA (uA σ 12 ci_0 (sA σ 12 ci_1)) 13 ci_1)) 17 ci_1)).2.1 20) (ci_0).toNatClampNeg (sA (uA (uA (uA σ 12 ci_0 (sA σ 12 ci_1)) 13 ci_0 (sA (uA σ 12 ci_0 (sA σ 12 ci_1)) 13 ci_1)) 17 ci_0 (sA (uA (uA σ 12 ci_0 (sA σ 12 ci_1)) 13 ci_0 (sA (uA σ 12 ci_0 (sA σ 12 ci_1)) 13 ci_1)) 17 ci_1)) 20 ci_1))))) (fun _ _ => rfl) h (fun h => ?_)
      rw [mkM_A20]
      cases h
      exact bfr_ret 1 (fun _ _ => rfl)
    · refine bfr_run 6 256 [some (.ref 0), some (.int x1)] [] [(.int cb_7), (.ref 21), (.int x1), (.ref 21)] (mkM σ) (fun _ _ => rfl) ?_
      refine bfr_in (i := (cb_7 + x1)) (m := 14) 3 (pc1 := 259) (L1 := [some (.ref 0), some (.int x1)]) (J1 := []) (st1 := [(.int (sA σ 21 (cb_7 + x1))), (.int x1), (.ref 21)]) (w1 := mkM σ) (fun _ _ => rfl) h (fun h => ?_)
      refine bfr_in (i := x1) (m := 14) 1 (pc1 := 260) (L1 := [some (.ref 0), some (.int x1)]) (J1 := []) (st1 := []) (w1 := ((mkM σ).set 21 (.inl (0, 14, upd (σ.2.1 21) (x1).toNatClampNeg (sA σ 21 (cb_7 + x1)))))) (fun _ _ => rfl) h (fun h => ?_)
      rw [mkM_A21]
      refine bfr_run 6 271 [some (.ref 0), some (.int x1)] [] [(.int cb_7), (.ref 22), (.int x1), (.ref 22)] (mkM (uA σ 21 x1 (sA σ 21 (cb_7 + x1)))) (fun _ _ => rfl) ?_
      refine bfr_in (i := (cb_7 + x1)) (m := 14) 3 (pc1 := 274) (L1 := [some (.ref 0), some (.int x1)]) (J1 := []) (st1 := [(.int (sA (uA σ 21 x1 (sA σ 21 (cb_7 + x1))) 22 (cb_7 + x1))), (.int x1), (.ref 22)]) (w1 := mkM (uA σ 21 x1 (sA σ 21 (cb_7 + x1)))) (fun _ _ => rfl) h (fun h => ?_)
      refine bfr_in (i := x1) (m := 14) 1 (pc1 := 275) (L1 := [some (.ref 0), some (.int x1)]) (J1 := []) (st1 := []) (w1 := ((mkM (uA σ 21 x1 (sA σ 21 (cb_7 + x1)))).set 22 (.inl (0, 14, upd ((uA σ 21 x1 (sA σ 21 (cb_7 + x1))).2.1 22) (x1).toNatClampNeg (sA (uA σ 21 x1 (sA σ 21 (cb_7 + x1))) 22 (cb_7 + x1)))))) (fun _ _ => rfl) h (fun h => ?_)
      rw [mkM_A22]
      refine bfr_run 6 286 [some (.ref 0), some (.int x1)] [] [(.int cb_7), (.ref 23), (.int x1), (.ref 23)] (mkM (uA (uA σ 21 x1 (sA σ 21 (cb_7 + x1))) 22 x1 (sA (uA σ 21 x1 (sA σ 21 (cb_7 + x1))) 22 (cb_7 + x1)))) (fun _ _ => rfl) ?_
      refine bfr_in (i := (cb_7 + x1)) (m := 14) 3 (pc1 := 289) (L1 := [some (.ref 0), some (.int x1)]) (J1 := []) (st1 := [(.int (sA (uA (uA σ 21 x1 (sA σ 21 (cb_7 + x1))) 22 x1 (sA (uA σ 21 x1 (sA σ 21 (cb_7 + x1))) 22 (cb_7 + x1))) 23 (cb_7 + x1))), (.int x1), (.ref 23)]) (w1 := mkM (uA (uA σ 21 x1 (sA σ 21 (cb_7 + x1))) 22 x1 (sA (uA σ 21 x1 (sA σ 21 (cb_7 + x1))) 22 (cb_7 + x1)))) (fun _ _ => rfl) h (fun h => ?_)
      refine bfr_in (i := x1) (m := 14) 1 (pc1 := 290) (L1 := [some (.ref 0), some (.int x1)]) (J1 := []) (st1 := []) (w1 := ((mkM (uA (uA σ 21 x1 (sA σ 21 (cb_7 + x1))) 22 x1 (sA (uA σ 21 x1 (sA σ 21 (cb_7 + x1))) 22 (cb_7 + x1)))).set 23 (.inl (0, 14, upd ((uA (uA σ 21 x1 (sA σ 21 (cb_7 + x1))) 22 x1 (sA (uA σ 21 x1 (sA σ 21 (cb_7 + x1))) 22 (cb_7 + x1))).2.1 23) (x1).toNatClampNeg (sA (uA (uA σ 21 x1 (sA σ 21 (cb_7 + x1))) 22 x1 (sA (uA σ 21 x1 (sA σ 21 (cb_7 + x1))) 22 (cb_7 + x1))) 23 (cb_7 + x1)))))) (fun _ _ => rfl) h (fun h => ?_)
      rw [mkM_A23]
      refine bfr_run 1 293 [some (.ref 0), some (.int (x1 + ci_1))] [] [] (mkM (uA (uA (uA σ 21 x1 (sA σ 21 (cb_7 + x1))) 22 x1 (sA (uA σ 21 x1 (sA σ 21 (cb_7 + x1))) 22 (cb_7 + x1))) 23 x1 (sA (uA (uA σ 21 x1 (sA σ 21 (cb_7 + x1))) 22 x1 (sA (uA σ 21 x1 (sA σ 21 (cb_7 + x1))) 22 (cb_7 + x1))) 23 (cb_7 + x1)))) (fun _ _ => rfl) ?_
      refine bfr_run 1 239 [some (.ref 0), some (.int (x1 + ci_1))] [] [] (mkM (uA (uA (uA σ 21 x1 (sA σ 21 (cb_7 + x1))) 22 x1 (sA (uA σ 21 x1 (sA σ 21 (cb_7 + x1))) 22 (cb_7 + x1))) 23 x1 (sA (uA (uA σ 21 x1 (sA σ 21 (cb_7 + x1))) 22 x1 (sA (uA σ 21 x1 (sA σ 21 (cb_7 + x1))) 22 (cb_7 + x1))) 23 (cb_7 + x1)))) (fun _ _ => rfl) ?_
      exact ih _ _ h
set_option maxRecDepth 100000 in
theorem k_m_lays_b184 (n d : Nat) (q : bS) : ∀ (k : Nat) (x1 : Int32) (σ : bS), m_lays_b184 n k x1 σ = some q → bfr MT (d + 0) M_X12_lays 184 [some (.ref 0), some (.int x1)] [] [] (mkM σ) (none, mkM q) := by
  intro k
  induction k with
  | zero => intro x1 σ h; exact bno h
  | succ k ih =>
    intro x1 σ h
    unfold m_lays_b184 at h
    refine bfr_br 3 (pc1 := 237) (L1 := [some (.ref 0), some (.int x1)]) (J1 := []) (st1 := []) (w1 := mkM σ) (pc2 := 189) (L2 := [some (.ref 0), some (.int x1)]) (J2 := []) (st2 := []) (w2 := mkM σ) (fun _ _ => rfl) h (fun h => ?_) (fun h => ?_)
    · refine bfr_run 2 239 [some (.ref 0), some (.int ci_0)] [] [] (mkM σ) (fun _ _ => rfl) ?_
      exact k_m_lays_b239 n d q _ _ _ h
    · refine bfr_run 6 199 [some (.ref 0), some (.int x1)] [] [(.int ci_4), (.ref 18), (.int x1), (.ref 18)] (mkM σ) (fun _ _ => rfl) ?_
      refine bfr_in (i := (ci_4 + x1)) (m := 8) 3 (pc1 := 202) (L1 := [some (.ref 0), some (.int x1)]) (J1 := []) (st1 := [(.int (sA σ 18 (ci_4 + x1))), (.int x1), (.ref 18)]) (w1 := mkM σ) (fun _ _ => rfl) h (fun h => ?_)
      refine bfr_in (i := x1) (m := 8) 1 (pc1 := 203) (L1 := [some (.ref 0), some (.int x1)]) (J1 := []) (st1 := []) (w1 := ((mkM σ).set 18 (.inl (0, 8, upd (σ.2.1 18) (x1).toNatClampNeg (sA σ 18 (ci_4 + x1)))))) (fun _ _ => rfl) h (fun h => ?_)
      rw [mkM_A18]
      refine bfr_run 6 213 [some (.ref 0), some (.int x1)] [] [(.int ci_4), (.ref 19), (.int x1), (.ref 19)] (mkM (uA σ 18 x1 (sA σ 18 (ci_4 + x1)))) (fun _ _ => rfl) ?_
      refine bfr_in (i := (ci_4 + x1)) (m := 8) 3 (pc1 := 216) (L1 := [some (.ref 0), some (.int x1)]) (J1 := []) (st1 := [(.int (sA (uA σ 18 x1 (sA σ 18 (ci_4 + x1))) 19 (ci_4 + x1))), (.int x1), (.ref 19)]) (w1 := mkM (uA σ 18 x1 (sA σ 18 (ci_4 + x1)))) (fun _ _ => rfl) h (fun h => ?_)
      refine bfr_in (i := x1) (m := 8) 1 (pc1 := 217) (L1 := [some (.ref 0), some (.int x1)]) (J1 := []) (st1 := []) (w1 := ((mkM (uA σ 18 x1 (sA σ 18 (ci_4 + x1)))).set 19 (.inl (0, 8, upd ((uA σ 18 x1 (sA σ 18 (ci_4 + x1))).2.1 19) (x1).toNatClampNeg (sA (uA σ 18 x1 (sA σ 18 (ci_4 + x1))) 19 (ci_4 + x1)))))) (fun _ _ => rfl) h (fun h => ?_)
      rw [mkM_A19]
      refine bfr_run 6 227 [some (.ref 0), some (.int x1)] [] [(.int ci_4), (.ref 24), (.int x1), (.ref 24)] (mkM (uA (uA σ 18 x1 (sA σ 18 (ci_4 + x1))) 19 x1 (sA (uA σ 18 x1 (sA σ 18 (ci_4 + x1))) 19 (ci_4 + x1)))) (fun _ _ => rfl) ?_
      refine bfr_in (i := (ci_4 + x1)) (m := 8) 3 (pc1 := 230) (L1 := [some (.ref 0), some (.int x1)]) (J1 := []) (st1 := [(.int (sA (uA (uA σ 18 x1 (sA σ 18 (ci_4 + x1))) 19 x1 (sA (uA σ 18 x1 (sA σ 18 (ci_4 + x1))) 19 (ci_4 + x1))) 24 (ci_4 + x1))), (.int x1), (.ref 24)]) (w1 := mkM (uA (uA σ 18 x1 (sA σ 18 (ci_4 + x1))) 19 x1 (sA (uA σ 18 x1 (sA σ 18 (ci_4 + x1))) 19 (ci_4 + x1)))) (fun _ _ => rfl) h (fun h => ?_)
      refine bfr_in (i := x1) (m := 8) 1 (pc1 := 231) (L1 := [some (.ref 0), some (.int x1)]) (J1 := []) (st1 := []) (w1 := ((mkM (uA (uA σ 18 x1 (sA σ 18 (ci_4 + x1))) 19 x1 (sA (uA σ 18 x1 (sA σ 18 (ci_4 + x1))) 19 (ci_4 + x1)))).set 24 (.inl (0, 8, upd ((uA (uA σ 18 x1 (sA σ 18 (ci_4 + x1))) 19 x1 (sA (uA σ 18 x1 (sA σ 18 (ci_4 + x1))) 19 (ci_4 + x1))).2.1 24) (x1).toNatClampNeg (sA (uA (uA σ 18 x1 (sA σ 18 (ci_4 + x1))) 19 x1 (sA (uA σ 18 x1 (sA σ 18 (ci_4 + x1))) 19 (ci_4 + x1))) 24 (ci_4 + x1)))))) (fun _ _ => rfl) h (fun h => ?_)
      rw [mkM_A24]
      refine bfr_run 1 234 [some (.ref 0), some (.int (x1 + ci_1))] [] [] (mkM (uA (uA (uA σ 18 x1 (sA σ 18 (ci_4 + x1))) 19 x1 (sA (uA σ 18 x1 (sA σ 18 (ci_4 + x1))) 19 (ci_4 + x1))) 24 x1 (sA (uA (uA σ 18 x1 (sA σ 18 (ci_4 + x1))) 19 x1 (sA (uA σ 18 x1 (sA σ 18 (ci_4 + x1))) 19 (ci_4 + x1))) 24 (ci_4 + x1)))) (fun _ _ => rfl) ?_
      refine bfr_run 1 184 [some (.ref 0), some (.int (x1 + ci_1))] [] [] (mkM (uA (uA (uA σ 18 x1 (sA σ 18 (ci_4 + x1))) 19 x1 (sA (uA σ 18 x1 (sA σ 18 (ci_4 + x1))) 19 (ci_4 + x1))) 24 x1 (sA (uA (uA σ 18 x1 (sA σ 18 (ci_4 + x1))) 19 x1 (sA (uA σ 18 x1 (sA σ 18 (ci_4 + x1))) 19 (ci_4 + x1))) 24 (ci_4 + x1)))) (fun _ _ => rfl) ?_
      exact ih _ _ h
set_option maxRecDepth 100000 in
theorem k_m_lays_b125 (n d : Nat) (q : bS) : ∀ (k : Nat) (x1 : Int32) (σ : bS), m_lays_b125 n k x1 σ = some q → bfr MT (d + 0) M_X12_lays 125 [some (.ref 0), some (.int x1)] [] [] (mkM σ) (none, mkM q) := by
  intro k
  induction k with
  | zero => intro x1 σ h; exact bno h
  | succ k ih =>
    intro x1 σ h
    unfold m_lays_b125 at h
    refine bfr_br 3 (pc1 := 182) (L1 := [some (.ref 0), some (.int x1)]) (J1 := []) (st1 := []) (w1 := mkM σ) (pc2 := 131) (L2 := [some (.ref 0), some (.int x1)]) (J2 := []) (st2 := []) (w2 := mkM σ) (fun _ _ => rfl) h (fun h => ?_) (fun h => ?_)
    · refine bfr_run 2 184 [some (.ref 0), some (.int ci_0)] [] [] (mkM σ) (fun _ _ => rfl) ?_
      exact k_m_lays_b184 n d q _ _ _ h
    · refine bfr_run 6 142 [some (.ref 0), some (.int x1)] [] [(.int cb_10), (.ref 14), (.int x1), (.ref 14)] (mkM σ) (fun _ _ => rfl) ?_
      refine bfr_in (i := (cb_10 + x1)) (m := 20) 3 (pc1 := 145) (L1 := [some (.ref 0), some (.int x1)]) (J1 := []) (st1 := [(.int (sA σ 14 (cb_10 + x1))), (.int x1), (.ref 14)]) (w1 := mkM σ) (fun _ _ => rfl) h (fun h => ?_)
      refine bfr_in (i := x1) (m := 20) 1 (pc1 := 146) (L1 := [some (.ref 0), some (.int x1)]) (J1 := []) (st1 := []) (w1 := ((mkM σ).set 14 (.inl (0, 20, upd (σ.2.1 14) (x1).toNatClampNeg (sA σ 14 (cb_10 + x1)))))) (fun _ _ => rfl) h (fun h => ?_)
      rw [mkM_A14]
      refine bfr_run 6 157 [some (.ref 0), some (.int x1)] [] [(.int cb_10), (.ref 15), (.int x1), (.ref 15)] (mkM (uA σ 14 x1 (sA σ 14 (cb_10 + x1)))) (fun _ _ => rfl) ?_
      refine bfr_in (i := (cb_10 + x1)) (m := 20) 3 (pc1 := 160) (L1 := [some (.ref 0), some (.int x1)]) (J1 := []) (st1 := [(.int (sA (uA σ 14 x1 (sA σ 14 (cb_10 + x1))) 15 (cb_10 + x1))), (.int x1), (.ref 15)]) (w1 := mkM (uA σ 14 x1 (sA σ 14 (cb_10 + x1)))) (fun _ _ => rfl) h (fun h => ?_)
      refine bfr_in (i := x1) (m := 20) 1 (pc1 := 161) (L1 := [some (.ref 0), some (.int x1)]) (J1 := []) (st1 := []) (w1 := ((mkM (uA σ 14 x1 (sA σ 14 (cb_10 + x1)))).set 15 (.inl (0, 20, upd ((uA σ 14 x1 (sA σ 14 (cb_10 + x1))).2.1 15) (x1).toNatClampNeg (sA (uA σ 14 x1 (sA σ 14 (cb_10 + x1))) 15 (cb_10 + x1)))))) (fun _ _ => rfl) h (fun h => ?_)
      rw [mkM_A15]
      refine bfr_run 6 172 [some (.ref 0), some (.int x1)] [] [(.int cb_10), (.ref 16), (.int x1), (.ref 16)] (mkM (uA (uA σ 14 x1 (sA σ 14 (cb_10 + x1))) 15 x1 (sA (uA σ 14 x1 (sA σ 14 (cb_10 + x1))) 15 (cb_10 + x1)))) (fun _ _ => rfl) ?_
      refine bfr_in (i := (cb_10 + x1)) (m := 20) 3 (pc1 := 175) (L1 := [some (.ref 0), some (.int x1)]) (J1 := []) (st1 := [(.int (sA (uA (uA σ 14 x1 (sA σ 14 (cb_10 + x1))) 15 x1 (sA (uA σ 14 x1 (sA σ 14 (cb_10 + x1))) 15 (cb_10 + x1))) 16 (cb_10 + x1))), (.int x1), (.ref 16)]) (w1 := mkM (uA (uA σ 14 x1 (sA σ 14 (cb_10 + x1))) 15 x1 (sA (uA σ 14 x1 (sA σ 14 (cb_10 + x1))) 15 (cb_10 + x1)))) (fun _ _ => rfl) h (fun h => ?_)
      refine bfr_in (i := x1) (m := 20) 1 (pc1 := 176) (L1 := [some (.ref 0), some (.int x1)]) (J1 := []) (st1 := []) (w1 := ((mkM (uA (uA σ 14 x1 (sA σ 14 (cb_10 + x1))) 15 x1 (sA (uA σ 14 x1 (sA σ 14 (cb_10 + x1))) 15 (cb_10 + x1)))).set 16 (.inl (0, 20, upd ((uA (uA σ 14 x1 (sA σ 14 (cb_10 + x1))) 15 x1 (sA (uA σ 14 x1 (sA σ 14 (cb_10 + x1))) 15 (cb_10 + x1))).2.1 16) (x1).toNatClampNeg (sA (uA (uA σ 14 x1 (sA σ 14 (cb_10 + x1))) 15 x1 (sA (uA σ 14 x1 (sA σ 14 (cb_10 + x1))) 15 (cb_10 + x1))) 16 (cb_10 + x1)))))) (fun _ _ => rfl) h (fun h => ?_)
      rw [mkM_A16]
      refine bfr_run 1 179 [some (.ref 0), some (.int (x1 + ci_1))] [] [] (mkM (uA (uA (uA σ 14 x1 (sA σ 14 (cb_10 + x1))) 15 x1 (sA (uA σ 14 x1 (sA σ 14 (cb_10 + x1))) 15 (cb_10 + x1))) 16 x1 (sA (uA (uA σ 14 x1 (sA σ 14 (cb_10 + x1))) 15 x1 (sA (uA σ 14 x1 (sA σ 14 (cb_10 + x1))) 15 (cb_10 + x1))) 16 (cb_10 + x1)))) (fun _ _ => rfl) ?_
      refine bfr_run 1 125 [some (.ref 0), some (.int (x1 + ci_1))] [] [] (mkM (uA (uA (uA σ 14 x1 (sA σ 14 (cb_10 + x1))) 15 x1 (sA (uA σ 14 x1 (sA σ 14 (cb_10 + x1))) 15 (cb_10 + x1))) 16 x1 (sA (uA (uA σ 14 x1 (sA σ 14 (cb_10 + x1))) 15 x1 (sA (uA σ 14 x1 (sA σ 14 (cb_10 + x1))) 15 (cb_10 + x1))) 16 (cb_10 + x1)))) (fun _ _ => rfl) ?_
      exact ih _ _ h
set_option maxRecDepth 100000 in
theorem k_m_lays_b78 (n d : Nat) (q : bS) : ∀ (k : Nat) (x1 : Int32) (σ : bS), m_lays_b78 n k x1 σ = some q → bfr MT (d + 0) M_X12_lays 78 [some (.ref 0), some (.int x1)] [] [] (mkM σ) (none, mkM q) := by
  intro k
  induction k with
  | zero => intro x1 σ h; exact bno h
  | succ k ih =>
    intro x1 σ h
    unfold m_lays_b78 at h
    refine bfr_br 3 (pc1 := 123) (L1 := [some (.ref 0), some (.int x1)]) (J1 := []) (st1 := []) (w1 := mkM σ) (pc2 := 85) (L2 := [some (.ref 0), some (.int x1)]) (J2 := []) (st2 := []) (w2 := mkM σ) (fun _ _ => rfl) h (fun h => ?_) (fun h => ?_)
    · refine bfr_run 2 125 [some (.ref 0), some (.int ci_0)] [] [] (mkM σ) (fun _ _ => rfl) ?_
      exact k_m_lays_b125 n d q _ _ _ h
    · refine bfr_run 6 97 [some (.ref 0), some (.int x1)] [] [(.int cs_196), (.ref 10), (.int x1), (.ref 10)] (mkM σ) (fun _ _ => rfl) ?_
      refine bfr_in (i := (cs_196 + x1)) (m := 392) 3 (pc1 := 100) (L1 := [some (.ref 0), some (.int x1)]) (J1 := []) (st1 := [(.int (sA σ 10 (cs_196 + x1))), (.int x1), (.ref 10)]) (w1 := mkM σ) (fun _ _ => rfl) h (fun h => ?_)
      refine bfr_in (i := x1) (m := 392) 1 (pc1 := 101) (L1 := [some (.ref 0), some (.int x1)]) (J1 := []) (st1 := []) (w1 := ((mkM σ).set 10 (.inl (0, 392, upd (σ.2.1 10) (x1).toNatClampNeg (sA σ 10 (cs_196 + x1)))))) (fun _ _ => rfl) h (fun h => ?_)
      rw [mkM_A10]
      refine bfr_run 6 113 [some (.ref 0), some (.int x1)] [] [(.int cs_196), (.ref 11), (.int x1), (.ref 11)] (mkM (uA σ 10 x1 (sA σ 10 (cs_196 + x1)))) (fun _ _ => rfl) ?_
      refine bfr_in (i := (cs_196 + x1)) (m := 392) 3 (pc1 := 116) (L1 := [some (.ref 0), some (.int x1)]) (J1 := []) (st1 := [(.int (sA (uA σ 10 x1 (sA σ 10 (cs_196 + x1))) 11 (cs_196 + x1))), (.int x1), (.ref 11)]) (w1 := mkM (uA σ 10 x1 (sA σ 10 (cs_196 + x1)))) (fun _ _ => rfl) h (fun h => ?_)
      refine bfr_in (i := x1) (m := 392) 1 (pc1 := 117) (L1 := [some (.ref 0), some (.int x1)]) (J1 := []) (st1 := []) (w1 := ((mkM (uA σ 10 x1 (sA σ 10 (cs_196 + x1)))).set 11 (.inl (0, 392, upd ((uA σ 10 x1 (sA σ 10 (cs_196 + x1))).2.1 11) (x1).toNatClampNeg (sA (uA σ 10 x1 (sA σ 10 (cs_196 + x1))) 11 (cs_196 + x1)))))) (fun _ _ => rfl) h (fun h => ?_)
      rw [mkM_A11]
      refine bfr_run 1 120 [some (.ref 0), some (.int (x1 + ci_1))] [] [] (mkM (uA (uA σ 10 x1 (sA σ 10 (cs_196 + x1))) 11 x1 (sA (uA σ 10 x1 (sA σ 10 (cs_196 + x1))) 11 (cs_196 + x1)))) (fun _ _ => rfl) ?_
      refine bfr_run 1 78 [some (.ref 0), some (.int (x1 + ci_1))] [] [] (mkM (uA (uA σ 10 x1 (sA σ 10 (cs_196 + x1))) 11 x1 (sA (uA σ 10 x1 (sA σ 10 (cs_196 + x1))) 11 (cs_196 + x1)))) (fun _ _ => rfl) ?_
      exact ih _ _ h
set_option maxRecDepth 100000 in
theorem k_m_lays_b49 (n d : Nat) (q : bS) : ∀ (k : Nat) (x1 : Int32) (σ : bS), m_lays_b49 n k x1 σ = some q → bfr MT (d + 0) M_X12_lays 49 [some (.ref 0), some (.int x1)] [] [] (mkM σ) (none, mkM q) := by
  intro k
  induction k with
  | zero => intro x1 σ h; exact bno h
  | succ k ih =>
    intro x1 σ h
    unfold m_lays_b49 at h
    refine bfr_br 3 (pc1 := 76) (L1 := [some (.ref 0), some (.int x1)]) (J1 := []) (st1 := []) (w1 := mkM σ) (pc2 := 55) (L2 := [some (.ref 0), some (.int x1)]) (J2 := []) (st2 := []) (w2 := mkM σ) (fun _ _ => rfl) h (fun h => ?_) (fun h => ?_)
    · refine bfr_run 2 78 [some (.ref 0), some (.int ci_0)] [] [] (mkM σ) (fun _ _ => rfl) ?_
      exact k_m_lays_b78 n d q _ _ _ h
    · refine bfr_run 6 66 [some (.ref 0), some (.int x1)] [] [(.int cb_14), (.ref 9), (.int x1), (.ref 9)] (mkM σ) (fun _ _ => rfl) ?_
      refine bfr_in (i := (cb_14 + x1)) (m := 28) 3 (pc1 := 69) (L1 := [some (.ref 0), some (.int x1)]) (J1 := []) (st1 := [(.int (sA σ 9 (cb_14 + x1))), (.int x1), (.ref 9)]) (w1 := mkM σ) (fun _ _ => rfl) h (fun h => ?_)
      refine bfr_in (i := x1) (m := 28) 1 (pc1 := 70) (L1 := [some (.ref 0), some (.int x1)]) (J1 := []) (st1 := []) (w1 := ((mkM σ).set 9 (.inl (0, 28, upd (σ.2.1 9) (x1).toNatClampNeg (sA σ 9 (cb_14 + x1)))))) (fun _ _ => rfl) h (fun h => ?_)
      rw [mkM_A9]
      refine bfr_run 1 73 [some (.ref 0), some (.int (x1 + ci_1))] [] [] (mkM (uA σ 9 x1 (sA σ 9 (cb_14 + x1)))) (fun _ _ => rfl) ?_
      refine bfr_run 1 49 [some (.ref 0), some (.int (x1 + ci_1))] [] [] (mkM (uA σ 9 x1 (sA σ 9 (cb_14 + x1)))) (fun _ _ => rfl) ?_
      exact ih _ _ h
set_option maxRecDepth 100000 in
theorem k_m_lays_b2 (n d : Nat) (q : bS) : ∀ (k : Nat) (x1 : Int32) (σ : bS), m_lays_b2 n k x1 σ = some q → bfr MT (d + 0) M_X12_lays 2 [some (.ref 0), some (.int x1)] [] [] (mkM σ) (none, mkM q) := by
  intro k
  induction k with
  | zero => intro x1 σ h; exact bno h
  | succ k ih =>
    intro x1 σ h
    unfold m_lays_b2 at h
    refine bfr_br 3 (pc1 := 47) (L1 := [some (.ref 0), some (.int x1)]) (J1 := []) (st1 := []) (w1 := mkM σ) (pc2 := 9) (L2 := [some (.ref 0), some (.int x1)]) (J2 := []) (st2 := []) (w2 := mkM σ) (fun _ _ => rfl) h (fun h => ?_) (fun h => ?_)
    · refine bfr_run 2 49 [some (.ref 0), some (.int ci_0)] [] [] (mkM σ) (fun _ _ => rfl) ?_
      exact k_m_lays_b49 n d q _ _ _ h
    · refine bfr_run 6 21 [some (.ref 0), some (.int x1)] [] [(.int cs_500), (.ref 7), (.int x1), (.ref 7)] (mkM σ) (fun _ _ => rfl) ?_
      refine bfr_in (i := (cs_500 + x1)) (m := 1000) 3 (pc1 := 24) (L1 := [some (.ref 0), some (.int x1)]) (J1 := []) (st1 := [(.int (sA σ 7 (cs_500 + x1))), (.int x1), (.ref 7)]) (w1 := mkM σ) (fun _ _ => rfl) h (fun h => ?_)
      refine bfr_in (i := x1) (m := 1000) 1 (pc1 := 25) (L1 := [some (.ref 0), some (.int x1)]) (J1 := []) (st1 := []) (w1 := ((mkM σ).set 7 (.inl (0, 1000, upd (σ.2.1 7) (x1).toNatClampNeg (sA σ 7 (cs_500 + x1)))))) (fun _ _ => rfl) h (fun h => ?_)
      rw [mkM_A7]
      refine bfr_run 6 37 [some (.ref 0), some (.int x1)] [] [(.int cs_500), (.ref 8), (.int x1), (.ref 8)] (mkM (uA σ 7 x1 (sA σ 7 (cs_500 + x1)))) (fun _ _ => rfl) ?_
      refine bfr_in (i := (cs_500 + x1)) (m := 1000) 3 (pc1 := 40) (L1 := [some (.ref 0), some (.int x1)]) (J1 := []) (st1 := [(.int (sA (uA σ 7 x1 (sA σ 7 (cs_500 + x1))) 8 (cs_500 + x1))), (.int x1), (.ref 8)]) (w1 := mkM (uA σ 7 x1 (sA σ 7 (cs_500 + x1)))) (fun _ _ => rfl) h (fun h => ?_)
      refine bfr_in (i := x1) (m := 1000) 1 (pc1 := 41) (L1 := [some (.ref 0), some (.int x1)]) (J1 := []) (st1 := []) (w1 := ((mkM (uA σ 7 x1 (sA σ 7 (cs_500 + x1)))).set 8 (.inl (0, 1000, upd ((uA σ 7 x1 (sA σ 7 (cs_500 + x1))).2.1 8) (x1).toNatClampNeg (sA (uA σ 7 x1 (sA σ 7 (cs_500 + x1))) 8 (cs_500 + x1)))))) (fun _ _ => rfl) h (fun h => ?_)
      rw [mkM_A8]
      refine bfr_run 1 44 [some (.ref 0), some (.int (x1 + ci_1))] [] [] (mkM (uA (uA σ 7 x1 (sA σ 7 (cs_500 + x1))) 8 x1 (sA (uA σ 7 x1 (sA σ 7 (cs_500 + x1))) 8 (cs_500 + x1)))) (fun _ _ => rfl) ?_
      refine bfr_run 1 2 [some (.ref 0), some (.int (x1 + ci_1))] [] [] (mkM (uA (uA σ 7 x1 (sA σ 7 (cs_500 + x1))) 8 x1 (sA (uA σ 7 x1 (sA σ 7 (cs_500 + x1))) 8 (cs_500 + x1)))) (fun _ _ => rfl) ?_
      exact ih _ _ h
set_option maxRecDepth 100000 in
theorem k_m_lays (n d : Nat) (q : bS) (σ : bS) (h : m_lays n σ = some q) : bfr MT (d + 0) M_X12_lays 0 [some (.ref 0), none] [] [] (mkM σ) (none, mkM q) := by
  unfold m_lays at h
  refine bfr_run 2 2 [some (.ref 0), some (.int ci_0)] [] [] (mkM σ) (fun _ _ => rfl) ?_
  exact k_m_lays_b2 n d q _ _ _ h
