set_option maxRecDepth 100000 in
theorem k_cRows_homeOf (n d : Nat) (q : (Int32 × bS)) (x1 : Int32) (ra : Nat) (rb : Nat) (re : Nat) (rf : Value) (rg : Value) (σ : bS) (h : cRows_homeOf n x1 σ = some q) : bfr MT (d + 0) M_X5_homeOf 0 [some (.ref 59), some (.int x1)] [] [] (mkC ra rb 1 re rf rg σ) (some (.int q.1), mkC ra rb 1 re rf rg q.2) := by
  unfold cRows_homeOf at h
  refine bfr_in (i := x1) (m := 7) 6 (pc1 := 12) (L1 := [some (.ref 59), some (.int x1)]) (J1 := []) (st1 := [(.int (sA σ 6 x1))]) (w1 := mkC ra rb 1 re rf rg σ) (fun _ _ => rfl) h (fun h => ?_)
  cases h
  exact bfr_ret 1 (fun _ _ => rfl)
set_option maxRecDepth 100000 in
theorem k_cRows_wishAt (n d : Nat) (q : (Int32 × bS)) (x1 : Int32) (x2 : Int32) (x3 : Int32) (ra : Nat) (rb : Nat) (rc : Nat) (re : Nat) (rf : Value) (rg : Value) (σ : bS) (h : cRows_wishAt n x1 x2 x3 σ = some q) : bfr MT (d + 1) M_X5_wishAt 0 [some (.ref 59), some (.int x1), some (.int x2), some (.int x3)] [] [] (mkC ra rb rc re rf rg σ) (some (.int q.1), mkC ra rb rc re rf rg q.2) := by
  unfold cRows_wishAt at h
  refine bfr_call 6 (d1 := d + 0) (M1 := M_X5_wishCell) (vs := [(.int x1), (.int x2), (.int x3)]) (w1 := mkC ra rb rc re rf rg σ) (pc2 := 10) (L2 := [some (.ref 59), some (.int x1), some (.int x2), some (.int x3)]) (J2 := []) (rest := [(.ref 60)]) (fun a => some (.int a.1)) (fun a => mkC ra rb rc re rf rg a.2) (fun _ _ => rfl) h (fun a ha => k_cRows_wishCell n (d + 0) _ _ _ _ _ _ _ _ _ _ _ ha) (fun q1 _ h => ?_)
  refine bfr_in (i := q1.1) (m := 686) 1 (pc1 := 11) (L1 := [some (.ref 59), some (.int x1), some (.int x2), some (.int x3)]) (J1 := []) (st1 := [(.int (sA q1.2 60 q1.1))]) (w1 := mkC ra rb rc re rf rg q1.2) (fun _ _ => rfl) h (fun h => ?_)
  cases h
  exact bfr_ret 1 (fun _ _ => rfl)
set_option maxRecDepth 100000 in
theorem k_cRows_allLiveAt_b28 (n d : Nat) (r2 : Int32 → Int32 → Int32 → bS → Option (Int32 × bS)) (q : (Int32 × bS)) (hr2 : ∀ (x1 : Int32) (x2 : Int32) (x3 : Int32) (ra : Nat) (rb : Nat) (re : Nat) (rf : Value) (rg : Value) (σ : bS), r2 x1 x2 x3 σ = some q → bfr MT (d + 1) M_X5_allLiveAt 2 [some (.ref 59), some (.int x1), some (.int x2), some (.int x3)] [] [] (mkC ra rb 1 re rf rg σ) (some (.int q.1), mkC ra rb 1 re rf rg q.2)) (x1 : Int32) (x2 : Int32) (x3 : Int32) (ra : Nat) (rb : Nat) (re : Nat) (rf : Value) (rg : Value) (σ : bS) (h : cRows_allLiveAt_b28 n r2 x1 x2 x3 σ = some q) : bfr MT (d + 1) M_X5_allLiveAt 28 [some (.ref 59), some (.int x1), some (.int x2), some (.int x3)] [] [] (mkC ra rb 1 re rf rg σ) (some (.int q.1), mkC ra rb 1 re rf rg q.2) := by
  unfold cRows_allLiveAt_b28 at h
  refine bfr_run 1 31 [some (.ref 59), some (.int x1), some (.int x2), some (.int (x3 + ci_1))] [] [] (mkC ra rb 1 re rf rg σ) (fun _ _ => rfl) ?_
  refine bfr_run 1 2 [some (.ref 59), some (.int x1), some (.int x2), some (.int (x3 + ci_1))] [] [] (mkC ra rb 1 re rf rg σ) (fun _ _ => rfl) ?_
  exact hr2 _ _ _ _ _ _ _ _ _ h
set_option maxRecDepth 100000 in
theorem k_cRows_allLiveAt_b2 (n d : Nat) (q : (Int32 × bS)) : ∀ (k : Nat) (x1 : Int32) (x2 : Int32) (x3 : Int32) (ra : Nat) (rb : Nat) (re : Nat) (rf : Value) (rg : Value) (σ : bS), cRows_allLiveAt_b2 n k x1 x2 x3 σ = some q → bfr MT (d + 1) M_X5_allLiveAt 2 [some (.ref 59), some (.int x1), some (.int x2), some (.int x3)] [] [] (mkC ra rb 1 re rf rg σ) (some (.int q.1), mkC ra rb 1 re rf rg q.2) := by
  intro k
  induction k with
  | zero => intro x1 x2 x3 ra rb re rf rg σ h; exact bno h
  | succ k ih =>
    intro x1 x2 x3 ra rb re rf rg σ h
    unfold cRows_allLiveAt_b2 at h
    refine bfr_br 3 (pc1 := 34) (L1 := [some (.ref 59), some (.int x1), some (.int x2), some (.int x3)]) (J1 := []) (st1 := []) (w1 := mkC ra rb 1 re rf rg σ) (pc2 := 8) (L2 := [some (.ref 59), some (.int x1), some (.int x2), some (.int x3)]) (J2 := []) (st2 := []) (w2 := mkC ra rb 1 re rf rg σ) (fun _ _ => rfl) h (fun h => ?_) (fun h => ?_)
    · exact bfr_bz (mk := mkC ra rb 1 re rf rg) 2 (fun _ _ => rfl) h
    · refine bfr_run 6 14 [some (.ref 59), some (.int x1), some (.int x2), some (.int x3)] [] [(.int ci_1), (.int ((x1 >>> (x3 &&& 31)) &&& ci_1))] (mkC ra rb 1 re rf rg σ) (fun _ _ => rfl) ?_
      refine bfr_br 1 (pc1 := 17) (L1 := [some (.ref 59), some (.int x1), some (.int x2), some (.int x3)]) (J1 := []) (st1 := []) (w1 := mkC ra rb 1 re rf rg σ) (pc2 := 28) (L2 := [some (.ref 59), some (.int x1), some (.int x2), some (.int x3)]) (J2 := []) (st2 := []) (w2 := mkC ra rb 1 re rf rg σ) (fun _ _ => rfl) h (fun h => ?_) (fun h => ?_)
      · refine bfr_call 3 (d1 := d + 0) (M1 := M_X5_homeOf) (vs := [(.ref 59), (.int x3)]) (w1 := mkC ra rb 1 re rf rg σ) (pc2 := 22) (L2 := [some (.ref 59), some (.int x1), some (.int x2), some (.int x3)]) (J2 := []) (rest := []) (fun a => some (.int a.1)) (fun a => mkC ra rb 1 re rf rg a.2) (fun _ _ => rfl) h (fun a ha => k_cRows_homeOf n (d + 0) _ _ _ _ _ _ _ _ ha) (fun q1 _ h => ?_)
        refine bfr_br 2 (pc1 := 28) (L1 := [some (.ref 59), some (.int x1), some (.int x2), some (.int x3)]) (J1 := []) (st1 := []) (w1 := mkC ra rb 1 re rf rg q1.2) (pc2 := 26) (L2 := [some (.ref 59), some (.int x1), some (.int x2), some (.int x3)]) (J2 := []) (st2 := []) (w2 := mkC ra rb 1 re rf rg q1.2) (fun _ _ => rfl) h (fun h => ?_) (fun h => ?_)
        · exact k_cRows_allLiveAt_b28 n d _ q (ih) _ _ _ _ _ _ _ _ _ h
        · exact bfr_bz (mk := mkC ra rb 1 re rf rg) 2 (fun _ _ => rfl) h
      · exact k_cRows_allLiveAt_b28 n d _ q (ih) _ _ _ _ _ _ _ _ _ h
set_option maxRecDepth 100000 in
theorem k_cRows_allLiveAt (n d : Nat) (q : (Int32 × bS)) (x1 : Int32) (x2 : Int32) (ra : Nat) (rb : Nat) (re : Nat) (rf : Value) (rg : Value) (σ : bS) (h : cRows_allLiveAt n x1 x2 σ = some q) : bfr MT (d + 1) M_X5_allLiveAt 0 [some (.ref 59), some (.int x1), some (.int x2), none] [] [] (mkC ra rb 1 re rf rg σ) (some (.int q.1), mkC ra rb 1 re rf rg q.2) := by
  unfold cRows_allLiveAt at h
  refine bfr_run 2 2 [some (.ref 59), some (.int x1), some (.int x2), some (.int ci_0)] [] [] (mkC ra rb 1 re rf rg σ) (fun _ _ => rfl) ?_
  exact k_cRows_allLiveAt_b2 n d q _ _ _ _ _ _ _ _ _ _ h
set_option maxRecDepth 100000 in
theorem k_cRows_spotAfter_b74 (n d : Nat) (q : (Int32 × bS)) (s0 : Int32) (s1 : Int32) (o0 : Option Value) (o1 : Option Value) (o2 : Option Value) (o3 : Option Value) (o4 : Option Value) (o5 : Option Value) (o6 : Option Value) (ra : Nat) (rb : Nat) (re : Nat) (rf : Value) (rg : Value) (σ : bS) (h : cRows_spotAfter_b74 n s0 s1 σ = some q) : bfr MT (d + 2) M_X5_spotAfter 74 [o0, o1, o2, o3, o4, o5, o6] [] [(.int s1), (.int s0)] (mkC ra rb 1 re rf rg σ) (some (.int q.1), mkC ra rb 1 re rf rg q.2) := by
  unfold cRows_spotAfter_b74 at h
  refine bfr_call 1 (d1 := d + 1) (M1 := M_X5_spotOf) (vs := [(.int s0), (.int s1)]) (w1 := mkC ra rb 1 re rf rg σ) (pc2 := 77) (L2 := [o0, o1, o2, o3, o4, o5, o6]) (J2 := []) (rest := []) (fun a => some (.int a.1)) (fun a => mkC ra rb 1 re rf rg a.2) (fun _ _ => rfl) h (fun a ha => k_cRows_spotOf n (d + 1) _ _ _ _ _ _ _ _ _ _ ha) (fun q1 _ h => ?_)
  cases h
  exact bfr_ret 1 (fun _ _ => rfl)
set_option maxRecDepth 100000 in
theorem k_cRows_spotAfter_b64 (n d : Nat) (q : (Int32 × bS)) (x5 : Int32) (s0 : Int32) (o0 : Option Value) (o1 : Option Value) (o2 : Option Value) (o3 : Option Value) (o4 : Option Value) (o6 : Option Value) (ra : Nat) (rb : Nat) (re : Nat) (rf : Value) (rg : Value) (σ : bS) (h : cRows_spotAfter_b64 n x5 s0 σ = some q) : bfr MT (d + 2) M_X5_spotAfter 64 [o0, o1, o2, o3, o4, some (.int x5), o6] [] [(.int s0)] (mkC ra rb 1 re rf rg σ) (some (.int q.1), mkC ra rb 1 re rf rg q.2) := by
  unfold cRows_spotAfter_b64 at h
  refine bfr_br 2 (pc1 := 73) (L1 := [o0, o1, o2, o3, o4, some (.int x5), o6]) (J1 := []) (st1 := [(.int s0)]) (w1 := mkC ra rb 1 re rf rg σ) (pc2 := 69) (L2 := [o0, o1, o2, o3, o4, some (.int x5), o6]) (J2 := []) (st2 := [(.int s0)]) (w2 := mkC ra rb 1 re rf rg σ) (fun _ _ => rfl) h (fun h => ?_) (fun h => ?_)
  · refine bfr_run 1 74 [o0, o1, o2, o3, o4, some (.int x5), o6] [] [(.int ci_0), (.int s0)] (mkC ra rb 1 re rf rg σ) (fun _ _ => rfl) ?_
    exact k_cRows_spotAfter_b74 n d q _ _ _ _ _ _ _ _ _ _ _ _ _ _ _ h
  · refine bfr_run 2 74 [o0, o1, o2, o3, o4, some (.int x5), o6] [] [(.int ci_1), (.int s0)] (mkC ra rb 1 re rf rg σ) (fun _ _ => rfl) ?_
    exact k_cRows_spotAfter_b74 n d q _ _ _ _ _ _ _ _ _ _ _ _ _ _ _ h
set_option maxRecDepth 100000 in
theorem k_cRows_spotAfter_b41 (n d : Nat) (q : (Int32 × bS)) (x3 : Int32) (x4 : Int32) (x5 : Int32) (o1 : Option Value) (o2 : Option Value) (o6 : Option Value) (ra : Nat) (rb : Nat) (re : Nat) (rf : Value) (rg : Value) (σ : bS) (h : cRows_spotAfter_b41 n x3 x4 x5 σ = some q) : bfr MT (d + 2) M_X5_spotAfter 41 [some (.ref 59), o1, o2, some (.int x3), some (.int x4), some (.int x5), o6] [] [] (mkC ra rb 1 re rf rg σ) (some (.int q.1), mkC ra rb 1 re rf rg q.2) := by
  unfold cRows_spotAfter_b41 at h
  refine bfr_call 5 (d1 := d + 1) (M1 := M_X5_wishAt) (vs := [(.ref 59), (.int x3), (.int x5), (.int x4)]) (w1 := mkC ra rb 1 re rf rg σ) (pc2 := 50) (L2 := [some (.ref 59), o1, o2, some (.int x3), some (.int x4), some (.int x5), o6]) (J2 := []) (rest := []) (fun a => some (.int a.1)) (fun a => mkC ra rb 1 re rf rg a.2) (fun _ _ => rfl) h (fun a ha => k_cRows_wishAt n (d + 0) _ _ _ _ _ _ _ _ _ _ _ ha) (fun q2 _ h => ?_)
  refine bfr_br 3 (pc1 := 62) (L1 := [some (.ref 59), o1, o2, some (.int x3), some (.int x4), some (.int x5), some (.int q2.1)]) (J1 := []) (st1 := []) (w1 := mkC ra rb 1 re rf rg q2.2) (pc2 := 57) (L2 := [some (.ref 59), o1, o2, some (.int x3), some (.int x4), some (.int x5), some (.int q2.1)]) (J2 := []) (st2 := []) (w2 := mkC ra rb 1 re rf rg q2.2) (fun _ _ => rfl) h (fun h => ?_) (fun h => ?_)
  · refine bfr_run 1 64 [some (.ref 59), o1, o2, some (.int x3), some (.int x4), some (.int x5), some (.int q2.1)] [] [(.int q2.1)] (mkC ra rb 1 re rf rg q2.2) (fun _ _ => rfl) ?_
    exact k_cRows_spotAfter_b64 n d q _ _ _ _ _ _ _ _ _ _ _ _ _ _ h
  · refine bfr_run 2 64 [some (.ref 59), o1, o2, some (.int x3), some (.int x4), some (.int x5), some (.int q2.1)] [] [(.int x5)] (mkC ra rb 1 re rf rg q2.2) (fun _ _ => rfl) ?_
    exact k_cRows_spotAfter_b64 n d q _ _ _ _ _ _ _ _ _ _ _ _ _ _ h
set_option maxRecDepth 100000 in
theorem k_cRows_spotAfter_b39 (n d : Nat) (q : (Int32 × bS)) (o0 : Option Value) (o1 : Option Value) (o2 : Option Value) (o3 : Option Value) (o4 : Option Value) (o5 : Option Value) (o6 : Option Value) (ra : Nat) (rb : Nat) (re : Nat) (rf : Value) (rg : Value) (σ : bS) (h : cRows_spotAfter_b39 n σ = some q) : bfr MT (d + 2) M_X5_spotAfter 39 [o0, o1, o2, o3, o4, o5, o6] [] [] (mkC ra rb 1 re rf rg σ) (some (.int q.1), mkC ra rb 1 re rf rg q.2) := by
  unfold cRows_spotAfter_b39 at h
  cases h
  exact bfr_ret 2 (fun _ _ => rfl)
set_option maxRecDepth 100000 in
theorem k_cRows_spotAfter_b5 (n d : Nat) (q : (Int32 × bS)) (x1 : Int32) (x2 : Int32) (x3 : Int32) (x4 : Int32) (s0 : Int32) (o5 : Option Value) (o6 : Option Value) (ra : Nat) (rb : Nat) (re : Nat) (rf : Value) (rg : Value) (σ : bS) (h : cRows_spotAfter_b5 n x1 x2 x3 x4 s0 σ = some q) : bfr MT (d + 2) M_X5_spotAfter 5 [some (.ref 59), some (.int x1), some (.int x2), some (.int x3), some (.int x4), o5, o6] [] [(.int s0)] (mkC ra rb 1 re rf rg σ) (some (.int q.1), mkC ra rb 1 re rf rg q.2) := by
  unfold cRows_spotAfter_b5 at h
  refine bfr_br 3 (pc1 := 41) (L1 := [some (.ref 59), some (.int x1), some (.int x2), some (.int x3), some (.int x4), some (.int s0), o6]) (J1 := []) (st1 := []) (w1 := mkC ra rb 1 re rf rg σ) (pc2 := 12) (L2 := [some (.ref 59), some (.int x1), some (.int x2), some (.int x3), some (.int x4), some (.int s0), o6]) (J2 := []) (st2 := []) (w2 := mkC ra rb 1 re rf rg σ) (fun _ _ => rfl) h (fun h => ?_) (fun h => ?_)
  · exact k_cRows_spotAfter_b41 n d q _ _ _ _ _ _ _ _ _ _ _ _ h
  · refine bfr_call 3 (d1 := d + 1) (M1 := M_X5_homeOf) (vs := [(.ref 59), (.int x3)]) (w1 := mkC ra rb 1 re rf rg σ) (pc2 := 17) (L2 := [some (.ref 59), some (.int x1), some (.int x2), some (.int x3), some (.int x4), some (.int s0), o6]) (J2 := []) (rest := []) (fun a => some (.int a.1)) (fun a => mkC ra rb 1 re rf rg a.2) (fun _ _ => rfl) h (fun a ha => k_cRows_homeOf n (d + 1) _ _ _ _ _ _ _ _ ha) (fun q3 _ h => ?_)
    refine bfr_br 2 (pc1 := 22) (L1 := [some (.ref 59), some (.int x1), some (.int x2), some (.int x3), some (.int x4), some (.int s0), o6]) (J1 := []) (st1 := []) (w1 := mkC ra rb 1 re rf rg q3.2) (pc2 := 39) (L2 := [some (.ref 59), some (.int x1), some (.int x2), some (.int x3), some (.int x4), some (.int s0), o6]) (J2 := []) (st2 := []) (w2 := mkC ra rb 1 re rf rg q3.2) (fun _ _ => rfl) h (fun h => ?_) (fun h => ?_)
    · refine bfr_chk 3 (pc1 := 25) (L1 := [some (.ref 59), some (.int x1), some (.int x2), some (.int x3), some (.int x4), some (.int s0), o6]) (J1 := []) (st1 := [(.int (brem x2 ci_2))]) (w1 := mkC ra rb 1 re rf rg q3.2) (fun _ _ => rfl) h (fun h => ?_)
      refine bfr_br 2 (pc1 := 29) (L1 := [some (.ref 59), some (.int x1), some (.int x2), some (.int x3), some (.int x4), some (.int s0), o6]) (J1 := []) (st1 := []) (w1 := mkC ra rb 1 re rf rg q3.2) (pc2 := 41) (L2 := [some (.ref 59), some (.int x1), some (.int x2), some (.int x3), some (.int x4), some (.int s0), o6]) (J2 := []) (st2 := []) (w2 := mkC ra rb 1 re rf rg q3.2) (fun _ _ => rfl) h (fun h => ?_) (fun h => ?_)
      · refine bfr_call 4 (d1 := d + 1) (M1 := M_X5_allLiveAt) (vs := [(.ref 59), (.int x1), (.int s0)]) (w1 := mkC ra rb 1 re rf rg q3.2) (pc2 := 36) (L2 := [some (.ref 59), some (.int x1), some (.int x2), some (.int x3), some (.int x4), some (.int s0), o6]) (J2 := []) (rest := []) (fun a => some (.int a.1)) (fun a => mkC ra rb 1 re rf rg a.2) (fun _ _ => rfl) h (fun a ha => k_cRows_allLiveAt n (d + 0) _ _ _ _ _ _ _ _ _ ha) (fun q4 _ h => ?_)
        refine bfr_br 1 (pc1 := 39) (L1 := [some (.ref 59), some (.int x1), some (.int x2), some (.int x3), some (.int x4), some (.int s0), o6]) (J1 := []) (st1 := []) (w1 := mkC ra rb 1 re rf rg q4.2) (pc2 := 41) (L2 := [some (.ref 59), some (.int x1), some (.int x2), some (.int x3), some (.int x4), some (.int s0), o6]) (J2 := []) (st2 := []) (w2 := mkC ra rb 1 re rf rg q4.2) (fun _ _ => rfl) h (fun h => ?_) (fun h => ?_)
        · exact k_cRows_spotAfter_b39 n d q _ _ _ _ _ _ _ _ _ _ _ _ _ h
        · exact k_cRows_spotAfter_b41 n d q _ _ _ _ _ _ _ _ _ _ _ _ h
      · exact k_cRows_spotAfter_b41 n d q _ _ _ _ _ _ _ _ _ _ _ _ h
    · exact k_cRows_spotAfter_b39 n d q _ _ _ _ _ _ _ _ _ _ _ _ _ h
set_option maxRecDepth 100000 in
theorem k_cRows_spotAfter (n d : Nat) (q : (Int32 × bS)) (x1 : Int32) (x2 : Int32) (x3 : Int32) (x4 : Int32) (ra : Nat) (rb : Nat) (re : Nat) (rf : Value) (rg : Value) (σ : bS) (h : cRows_spotAfter n x1 x2 x3 x4 σ = some q) : bfr MT (d + 2) M_X5_spotAfter 0 [some (.ref 59), some (.int x1), some (.int x2), some (.int x3), some (.int x4), none, none] [] [] (mkC ra rb 1 re rf rg σ) (some (.int q.1), mkC ra rb 1 re rf rg q.2) := by
  unfold cRows_spotAfter at h
  refine bfr_chk 3 (pc1 := 3) (L1 := [some (.ref 59), some (.int x1), some (.int x2), some (.int x3), some (.int x4), none, none]) (J1 := []) (st1 := [(.int (x2 / ci_2))]) (w1 := mkC ra rb 1 re rf rg σ) (fun _ _ => rfl) h (fun h => ?_)
  refine bfr_run 2 5 [some (.ref 59), some (.int x1), some (.int x2), some (.int x3), some (.int x4), none, none] [] [(.int ((x2 / ci_2) - ci_1))] (mkC ra rb 1 re rf rg σ) (fun _ _ => rfl) ?_
  exact k_cRows_spotAfter_b5 n d q _ _ _ _ _ _ _ _ _ _ _ _ _ h
set_option maxRecDepth 100000 in
theorem k_cRows_passOrdersOn_b69 (n d : Nat) (r2 : Int32 → Int32 → Int32 → bS → Option bS) (q : bS) (hr2 : ∀ (x1 : Int32) (x2 : Int32) (x3 : Int32) (o4 : Option Value) (ra : Nat) (rb : Nat) (re : Nat) (rf : Value) (rg : Value) (σ : bS), r2 x1 x2 x3 σ = some q → bfr MT (d + 3) M_X5_passOrdersOn 2 [some (.ref 59), some (.int x1), some (.int x2), some (.int x3), o4] [] [] (mkC ra rb 1 re rf rg σ) (none, mkC ra rb 1 re rf rg q)) (x1 : Int32) (x2 : Int32) (x3 : Int32) (o4 : Option Value) (ra : Nat) (rb : Nat) (re : Nat) (rf : Value) (rg : Value) (σ : bS) (h : cRows_passOrdersOn_b69 n r2 x1 x2 x3 σ = some q) : bfr MT (d + 3) M_X5_passOrdersOn 69 [some (.ref 59), some (.int x1), some (.int x2), some (.int x3), o4] [] [] (mkC ra rb 1 re rf rg σ) (none, mkC ra rb 1 re rf rg q) := by
  unfold cRows_passOrdersOn_b69 at h
  refine bfr_run 1 72 [some (.ref 59), some (.int x1), some (.int x2), some (.int (x3 + ci_1)), o4] [] [] (mkC ra rb 1 re rf rg σ) (fun _ _ => rfl) ?_
  refine bfr_run 1 2 [some (.ref 59), some (.int x1), some (.int x2), some (.int (x3 + ci_1)), o4] [] [] (mkC ra rb 1 re rf rg σ) (fun _ _ => rfl) ?_
  exact hr2 _ _ _ _ _ _ _ _ _ _ h
set_option maxRecDepth 100000 in
theorem k_cRows_passOrdersOn_b32 (n d : Nat) (r2 : Int32 → Int32 → Int32 → bS → Option bS) (q : bS) (hr2 : ∀ (x1 : Int32) (x2 : Int32) (x3 : Int32) (o4 : Option Value) (ra : Nat) (rb : Nat) (re : Nat) (rf : Value) (rg : Value) (σ : bS), r2 x1 x2 x3 σ = some q → bfr MT (d + 3) M_X5_passOrdersOn 2 [some (.ref 59), some (.int x1), some (.int x2), some (.int x3), o4] [] [] (mkC ra rb 1 re rf rg σ) (none, mkC ra rb 1 re rf rg q)) (x1 : Int32) (x2 : Int32) (x3 : Int32) (s0 : Int32) (o4 : Option Value) (ra : Nat) (rb : Nat) (re : Nat) (rf : Value) (rg : Value) (σ : bS) (h : cRows_passOrdersOn_b32 n r2 x1 x2 x3 s0 σ = some q) : bfr MT (d + 3) M_X5_passOrdersOn 32 [some (.ref 59), some (.int x1), some (.int x2), some (.int x3), o4] [] [(.int s0)] (mkC ra rb 1 re rf rg σ) (none, mkC ra rb 1 re rf rg q) := by
  unfold cRows_passOrdersOn_b32 at h
  refine bfr_br 3 (pc1 := 69) (L1 := [some (.ref 59), some (.int x1), some (.int x2), some (.int x3), some (.int s0)]) (J1 := []) (st1 := []) (w1 := mkC ra rb 1 re rf rg σ) (pc2 := 39) (L2 := [some (.ref 59), some (.int x1), some (.int x2), some (.int x3), some (.int s0)]) (J2 := []) (st2 := []) (w2 := mkC ra rb 1 re rf rg σ) (fun _ _ => rfl) h (fun h => ?_) (fun h => ?_)
  · exact k_cRows_passOrdersOn_b69 n d _ q hr2 _ _ _ _ _ _ _ _ _ _ h
  · refine bfr_run 6 47 [some (.ref 59), some (.int x1), some (.int x2), some (.int x3), some (.int s0)] [] [(.int (ci_1 <<< (x3 &&& 31))), (.int x1), (.ref 61)] (mkC ra rb 1 re rf rg σ) (fun _ _ => rfl) ?_
    refine bfr_run 6 55 [some (.ref 59), some (.int x1), some (.int x2), some (.int x3), some (.int s0)] [] [(.int (((x1 ||| (ci_1 <<< (x3 &&& 31))) * cb_14) + s0)), (.ref 61), (.int (((x1 ||| (ci_1 <<< (x3 &&& 31))) * cb_14) + s0)), (.ref 61)] (mkC ra rb 1 re rf rg σ) (fun _ _ => rfl) ?_
    refine bfr_in (i := (((x1 ||| (ci_1 <<< (x3 &&& 31))) * cb_14) + s0)) (m := 1792) 1 (pc1 := 56) (L1 := [some (.ref 59), some (.int x1), some (.int x2), some (.int x3), some (.int s0)]) (J1 := []) (st1 := [(.int (sA σ 61 (((x1 ||| (ci_1 <<< (x3 &&& 31))) * cb_14) + s0))), (.int (((x1 ||| (ci_1 <<< (x3 &&& 31))) * cb_14) + s0)), (.ref 61)]) (w1 := mkC ra rb 1 re rf rg σ) (fun _ _ => rfl) h (fun h => ?_)
    refine bfr_run 6 65 [some (.ref 59), some (.int x1), some (.int x2), some (.int x3), some (.int s0)] [] [(.int x2), (.int (x1 * cb_14)), (.ref 61), (.int (sA σ 61 (((x1 ||| (ci_1 <<< (x3 &&& 31))) * cb_14) + s0))), (.int (((x1 ||| (ci_1 <<< (x3 &&& 31))) * cb_14) + s0)), (.ref 61)] (mkC ra rb 1 re rf rg σ) (fun _ _ => rfl) ?_
    refine bfr_in (i := ((x1 * cb_14) + x2)) (m := 1792) 2 (pc1 := 67) (L1 := [some (.ref 59), some (.int x1), some (.int x2), some (.int x3), some (.int s0)]) (J1 := []) (st1 := [(.int (sA σ 61 ((x1 * cb_14) + x2))), (.int (sA σ 61 (((x1 ||| (ci_1 <<< (x3 &&& 31))) * cb_14) + s0))), (.int (((x1 ||| (ci_1 <<< (x3 &&& 31))) * cb_14) + s0)), (.ref 61)]) (w1 := mkC ra rb 1 re rf rg σ) (fun _ _ => rfl) h (fun h => ?_)
    refine bfr_in (i := (((x1 ||| (ci_1 <<< (x3 &&& 31))) * cb_14) + s0)) (m := 1792) 2 (pc1 := 69) (L1 := [some (.ref 59), some (.int x1), some (.int x2), some (.int x3), some (.int s0)]) (J1 := []) (st1 := []) (w1 := ((mkC ra rb 1 re rf rg σ).set 61 (.inl (0, 1792, upd (σ.2.1 61) ((((x1 ||| (ci_1 <<< (x3 &&& 31))) * cb_14) + s0)).toNatClampNeg ((sA σ 61 (((x1 ||| (ci_1 <<< (x3 &&& 31))) * cb_14) + s0)) + (sA σ 61 ((x1 * cb_14) + x2))))))) (fun _ _ => rfl) h (fun h => ?_)
    rw [mkC_A61]
    exact k_cRows_passOrdersOn_b69 n d _ q hr2 _ _ _ _ _ _ _ _ _ _ h
set_option maxRecDepth 100000 in
theorem k_cRows_passOrdersOn_b2 (n d : Nat) (q : bS) : ∀ (k : Nat) (x1 : Int32) (x2 : Int32) (x3 : Int32) (o4 : Option Value) (ra : Nat) (rb : Nat) (re : Nat) (rf : Value) (rg : Value) (σ : bS), cRows_passOrdersOn_b2 n k x1 x2 x3 σ = some q → bfr MT (d + 3) M_X5_passOrdersOn 2 [some (.ref 59), some (.int x1), some (.int x2), some (.int x3), o4] [] [] (mkC ra rb 1 re rf rg σ) (none, mkC ra rb 1 re rf rg q) := by
  intro k
  induction k with
  | zero => intro x1 x2 x3 o4 ra rb re rf rg σ h; exact bno h
  | succ k ih =>
    intro x1 x2 x3 o4 ra rb re rf rg σ h
    unfold cRows_passOrdersOn_b2 at h
    refine bfr_br 3 (pc1 := 75) (L1 := [some (.ref 59), some (.int x1), some (.int x2), some (.int x3), o4]) (J1 := []) (st1 := []) (w1 := mkC ra rb 1 re rf rg σ) (pc2 := 8) (L2 := [some (.ref 59), some (.int x1), some (.int x2), some (.int x3), o4]) (J2 := []) (st2 := []) (w2 := mkC ra rb 1 re rf rg σ) (fun _ _ => rfl) h (fun h => ?_) (fun h => ?_)
    · cases h
      exact bfr_ret 1 (fun _ _ => rfl)
    · refine bfr_call 4 (d1 := d + 2) (M1 := M_X5_isLeft) (vs := [(.ref 59), (.int x3), (.int x1)]) (w1 := mkC ra rb 1 re rf rg σ) (pc2 := 14) (L2 := [some (.ref 59), some (.int x1), some (.int x2), some (.int x3), o4]) (J2 := []) (rest := []) (fun a => some (.int a.1)) (fun a => mkC ra rb 1 re rf rg a.2) (fun _ _ => rfl) h (fun a ha => k_cRows_isLeft n (d + 2) _ _ _ _ _ _ _ _ _ _ ha) (fun q1 _ h => ?_)
      refine bfr_br 1 (pc1 := 31) (L1 := [some (.ref 59), some (.int x1), some (.int x2), some (.int x3), o4]) (J1 := []) (st1 := []) (w1 := mkC ra rb 1 re rf rg q1.2) (pc2 := 17) (L2 := [some (.ref 59), some (.int x1), some (.int x2), some (.int x3), o4]) (J2 := []) (st2 := []) (w2 := mkC ra rb 1 re rf rg q1.2) (fun _ _ => rfl) h (fun h => ?_) (fun h => ?_)
      · refine bfr_run 1 32 [some (.ref 59), some (.int x1), some (.int x2), some (.int x3), o4] [] [(.int ci_m1)] (mkC ra rb 1 re rf rg q1.2) (fun _ _ => rfl) ?_
        exact k_cRows_passOrdersOn_b32 n d _ q (ih) _ _ _ _ _ _ _ _ _ _ _ h
      · refine bfr_call 6 (d1 := d + 2) (M1 := M_J6_bitCount_0f7a4) (vs := [(.int x1)]) (w1 := mkC ra rb 1 re rf rg q1.2) (pc2 := 25) (L2 := [some (.ref 59), some (.int x1), some (.int x2), some (.int x3), o4]) (J2 := []) (rest := [(.int x3), (.int x2), (.int x1), (.ref 59)]) (fun a => some (.int a.1)) (fun a => mkC ra rb 1 re rf rg a.2) (fun _ _ => rfl) h (fun a ha => k_cj_bitCount n (d + 2) _ _ _ _ _ _ _ _ _ ha) (fun q2 _ h => ?_)
        refine bfr_call 1 (d1 := d + 2) (M1 := M_X5_spotAfter) (vs := [(.ref 59), (.int x1), (.int x2), (.int x3), (.int q2.1)]) (w1 := mkC ra rb 1 re rf rg q2.2) (pc2 := 28) (L2 := [some (.ref 59), some (.int x1), some (.int x2), some (.int x3), o4]) (J2 := []) (rest := []) (fun a => some (.int a.1)) (fun a => mkC ra rb 1 re rf rg a.2) (fun _ _ => rfl) h (fun a ha => k_cRows_spotAfter n (d + 0) _ _ _ _ _ _ _ _ _ _ _ ha) (fun q3 _ h => ?_)
        refine bfr_run 1 32 [some (.ref 59), some (.int x1), some (.int x2), some (.int x3), o4] [] [(.int q3.1)] (mkC ra rb 1 re rf rg q3.2) (fun _ _ => rfl) ?_
        exact k_cRows_passOrdersOn_b32 n d _ q (ih) _ _ _ _ _ _ _ _ _ _ _ h
set_option maxRecDepth 100000 in
theorem k_cRows_passOrdersOn (n d : Nat) (q : bS) (x1 : Int32) (x2 : Int32) (ra : Nat) (rb : Nat) (re : Nat) (rf : Value) (rg : Value) (σ : bS) (h : cRows_passOrdersOn n x1 x2 σ = some q) : bfr MT (d + 3) M_X5_passOrdersOn 0 [some (.ref 59), some (.int x1), some (.int x2), none, none] [] [] (mkC ra rb 1 re rf rg σ) (none, mkC ra rb 1 re rf rg q) := by
  unfold cRows_passOrdersOn at h
  refine bfr_run 2 2 [some (.ref 59), some (.int x1), some (.int x2), some (.int ci_0), none] [] [] (mkC ra rb 1 re rf rg σ) (fun _ _ => rfl) ?_
  exact k_cRows_passOrdersOn_b2 n d q _ _ _ _ _ _ _ _ _ _ _ h
set_option maxRecDepth 100000 in
theorem k_cRows_countOrders_b84 (n d : Nat) (q : (Int32 × bS)) : ∀ (k : Nat) (x1 : Int32) (x2 : Int32) (ra : Nat) (rb : Nat) (re : Nat) (rf : Value) (rg : Value) (σ : bS), cRows_countOrders_b84 n k x1 x2 σ = some q → bfr MT (d + 4) M_X5_countOrders 84 [some (.ref 59), some (.int x1), some (.int x2)] [] [] (mkC ra rb 1 re rf rg σ) (some (.int q.1), mkC ra rb 1 re rf rg q.2) := by
  intro k
  induction k with
  | zero => intro x1 x2 ra rb re rf rg σ h; exact bno h
  | succ k ih =>
    intro x1 x2 ra rb re rf rg σ h
    unfold cRows_countOrders_b84 at h
    refine bfr_br 3 (pc1 := 113) (L1 := [some (.ref 59), some (.int x1), some (.int x2)]) (J1 := []) (st1 := []) (w1 := mkC ra rb 1 re rf rg σ) (pc2 := 90) (L2 := [some (.ref 59), some (.int x1), some (.int x2)]) (J2 := []) (st2 := []) (w2 := mkC ra rb 1 re rf rg σ) (fun _ _ => rfl) h (fun h => ?_) (fun h => ?_)
    · cases h
      exact bfr_ret 2 (fun _ _ => rfl)
    · refine bfr_run 6 101 [some (.ref 59), some (.int x1), some (.int x2)] [] [(.int cb_14), (.int (sI σ 59 10)), (.ref 61), (.int x1)] (mkC ra rb 1 re rf rg σ) (fun _ _ => rfl) ?_
      refine bfr_in (i := (((sI σ 59 10) * cb_14) + x2)) (m := 1792) 4 (pc1 := 105) (L1 := [some (.ref 59), some (.int x1), some (.int x2)]) (J1 := []) (st1 := [(.int (sA σ 61 (((sI σ 59 10) * cb_14) + x2))), (.int x1)]) (w1 := mkC ra rb 1 re rf rg σ) (fun _ _ => rfl) h (fun h => ?_)
      refine bfr_run 3 110 [some (.ref 59), some (.int (x1 + (sA σ 61 (((sI σ 59 10) * cb_14) + x2)))), some (.int (x2 + ci_2))] [] [] (mkC ra rb 1 re rf rg σ) (fun _ _ => rfl) ?_
      refine bfr_run 1 84 [some (.ref 59), some (.int (x1 + (sA σ 61 (((sI σ 59 10) * cb_14) + x2)))), some (.int (x2 + ci_2))] [] [] (mkC ra rb 1 re rf rg σ) (fun _ _ => rfl) ?_
      exact ih _ _ _ _ _ _ _ _ h
set_option maxRecDepth 100000 in
theorem k_cRows_countOrders_b74 (n d : Nat) (r24 : Int32 → bS → Option (Int32 × bS)) (q : (Int32 × bS)) (hr24 : ∀ (x1 : Int32) (o2 : Option Value) (ra : Nat) (rb : Nat) (re : Nat) (rf : Value) (rg : Value) (σ : bS), r24 x1 σ = some q → bfr MT (d + 4) M_X5_countOrders 24 [some (.ref 59), some (.int x1), o2] [] [] (mkC ra rb 1 re rf rg σ) (some (.int q.1), mkC ra rb 1 re rf rg q.2)) (x1 : Int32) (o2 : Option Value) (ra : Nat) (rb : Nat) (re : Nat) (rf : Value) (rg : Value) (σ : bS) (h : cRows_countOrders_b74 n r24 x1 σ = some q) : bfr MT (d + 4) M_X5_countOrders 74 [some (.ref 59), some (.int x1), o2] [] [] (mkC ra rb 1 re rf rg σ) (some (.int q.1), mkC ra rb 1 re rf rg q.2) := by
  unfold cRows_countOrders_b74 at h
  refine bfr_run 1 77 [some (.ref 59), some (.int (x1 + ci_1)), o2] [] [] (mkC ra rb 1 re rf rg σ) (fun _ _ => rfl) ?_
  refine bfr_run 1 24 [some (.ref 59), some (.int (x1 + ci_1)), o2] [] [] (mkC ra rb 1 re rf rg σ) (fun _ _ => rfl) ?_
  exact hr24 _ _ _ _ _ _ _ _ h
set_option maxRecDepth 100000 in
theorem k_cRows_countOrders_b68 (n d : Nat) (r24 : Int32 → bS → Option (Int32 × bS)) (r34 : Int32 → Int32 → bS → Option (Int32 × bS)) (q : (Int32 × bS)) (hr24 : ∀ (x1 : Int32) (o2 : Option Value) (ra : Nat) (rb : Nat) (re : Nat) (rf : Value) (rg : Value) (σ : bS), r24 x1 σ = some q → bfr MT (d + 4) M_X5_countOrders 24 [some (.ref 59), some (.int x1), o2] [] [] (mkC ra rb 1 re rf rg σ) (some (.int q.1), mkC ra rb 1 re rf rg q.2)) (hr34 : ∀ (x1 : Int32) (x2 : Int32) (ra : Nat) (rb : Nat) (re : Nat) (rf : Value) (rg : Value) (σ : bS), r34 x1 x2 σ = some q → bfr MT (d + 4) M_X5_countOrders 34 [some (.ref 59), some (.int x1), some (.int x2)] [] [] (mkC ra rb 1 re rf rg σ) (some (.int q.1), mkC ra rb 1 re rf rg q.2)) (x1 : Int32) (x2 : Int32) (ra : Nat) (rb : Nat) (re : Nat) (rf : Value) (rg : Value) (σ : bS) (h : cRows_countOrders_b68 n r24 r34 x1 x2 σ = some q) : bfr MT (d + 4) M_X5_countOrders 68 [some (.ref 59), some (.int x1), some (.int x2)] [] [] (mkC ra rb 1 re rf rg σ) (some (.int q.1), mkC ra rb 1 re rf rg q.2) := by
  unfold cRows_countOrders_b68 at h
  refine bfr_run 1 71 [some (.ref 59), some (.int x1), some (.int (x2 + ci_1))] [] [] (mkC ra rb 1 re rf rg σ) (fun _ _ => rfl) ?_
  refine bfr_run 1 34 [some (.ref 59), some (.int x1), some (.int (x2 + ci_1))] [] [] (mkC ra rb 1 re rf rg σ) (fun _ _ => rfl) ?_
  exact hr34 _ _ _ _ _ _ _ _ h
set_option maxRecDepth 100000 in
theorem k_cRows_countOrders_b34 (n d : Nat) (r24 : Int32 → bS → Option (Int32 × bS)) (q : (Int32 × bS)) (hr24 : ∀ (x1 : Int32) (o2 : Option Value) (ra : Nat) (rb : Nat) (re : Nat) (rf : Value) (rg : Value) (σ : bS), r24 x1 σ = some q → bfr MT (d + 4) M_X5_countOrders 24 [some (.ref 59), some (.int x1), o2] [] [] (mkC ra rb 1 re rf rg σ) (some (.int q.1), mkC ra rb 1 re rf rg q.2)) : ∀ (k : Nat) (x1 : Int32) (x2 : Int32) (ra : Nat) (rb : Nat) (re : Nat) (rf : Value) (rg : Value) (σ : bS), cRows_countOrders_b34 n r24 k x1 x2 σ = some q → bfr MT (d + 4) M_X5_countOrders 34 [some (.ref 59), some (.int x1), some (.int x2)] [] [] (mkC ra rb 1 re rf rg σ) (some (.int q.1), mkC ra rb 1 re rf rg q.2) := by
  intro k
  induction k with
  | zero => intro x1 x2 ra rb re rf rg σ h; exact bno h
  | succ k ih =>
    intro x1 x2 ra rb re rf rg σ h
    unfold cRows_countOrders_b34 at h
    refine bfr_br 3 (pc1 := 74) (L1 := [some (.ref 59), some (.int x1), some (.int x2)]) (J1 := []) (st1 := []) (w1 := mkC ra rb 1 re rf rg σ) (pc2 := 40) (L2 := [some (.ref 59), some (.int x1), some (.int x2)]) (J2 := []) (st2 := []) (w2 := mkC ra rb 1 re rf rg σ) (fun _ _ => rfl) h (fun h => ?_) (fun h => ?_)
    · exact k_cRows_countOrders_b74 n d _ q hr24 _ _ _ _ _ _ _ _ h
    · refine bfr_call 3 (d1 := d + 3) (M1 := M_X5_isSubset) (vs := [(.ref 59), (.int x1)]) (w1 := mkC ra rb 1 re rf rg σ) (pc2 := 45) (L2 := [some (.ref 59), some (.int x1), some (.int x2)]) (J2 := []) (rest := []) (fun a => some (.int a.1)) (fun a => mkC ra rb 1 re rf rg a.2) (fun _ _ => rfl) h (fun a ha => k_cRows_isSubset n (d + 3) _ _ _ _ _ _ _ _ _ ha) (fun q1 _ h => ?_)
      refine bfr_br 1 (pc1 := 74) (L1 := [some (.ref 59), some (.int x1), some (.int x2)]) (J1 := []) (st1 := []) (w1 := mkC ra rb 1 re rf rg q1.2) (pc2 := 48) (L2 := [some (.ref 59), some (.int x1), some (.int x2)]) (J2 := []) (st2 := []) (w2 := mkC ra rb 1 re rf rg q1.2) (fun _ _ => rfl) h (fun h => ?_) (fun h => ?_)
      · exact k_cRows_countOrders_b74 n d _ q hr24 _ _ _ _ _ _ _ _ h
      · refine bfr_run 6 57 [some (.ref 59), some (.int x1), some (.int x2)] [] [(.int x2), (.int (x1 * cb_14)), (.ref 61)] (mkC ra rb 1 re rf rg q1.2) (fun _ _ => rfl) ?_
        refine bfr_in (i := ((x1 * cb_14) + x2)) (m := 1792) 2 (pc1 := 59) (L1 := [some (.ref 59), some (.int x1), some (.int x2)]) (J1 := []) (st1 := [(.int (sA q1.2 61 ((x1 * cb_14) + x2)))]) (w1 := mkC ra rb 1 re rf rg q1.2) (fun _ _ => rfl) h (fun h => ?_)
        refine bfr_br 1 (pc1 := 68) (L1 := [some (.ref 59), some (.int x1), some (.int x2)]) (J1 := []) (st1 := []) (w1 := mkC ra rb 1 re rf rg q1.2) (pc2 := 62) (L2 := [some (.ref 59), some (.int x1), some (.int x2)]) (J2 := []) (st2 := []) (w2 := mkC ra rb 1 re rf rg q1.2) (fun _ _ => rfl) h (fun h => ?_) (fun h => ?_)
        · exact k_cRows_countOrders_b68 n d _ _ q hr24 (ih) _ _ _ _ _ _ _ _ h
        · refine bfr_call 4 (d1 := d + 3) (M1 := M_X5_passOrdersOn) (vs := [(.ref 59), (.int x1), (.int x2)]) (w1 := mkC ra rb 1 re rf rg q1.2) (pc2 := 68) (L2 := [some (.ref 59), some (.int x1), some (.int x2)]) (J2 := []) (rest := []) (fun _ => none) (fun a => mkC ra rb 1 re rf rg a) (fun _ _ => rfl) h (fun a ha => k_cRows_passOrdersOn n (d + 0) _ _ _ _ _ _ _ _ _ ha) (fun q2 _ h => ?_)
          exact k_cRows_countOrders_b68 n d _ _ q hr24 (ih) _ _ _ _ _ _ _ _ h
set_option maxRecDepth 100000 in
theorem k_cRows_countOrders_b24 (n d : Nat) (q : (Int32 × bS)) : ∀ (k : Nat) (x1 : Int32) (o2 : Option Value) (ra : Nat) (rb : Nat) (re : Nat) (rf : Value) (rg : Value) (σ : bS), cRows_countOrders_b24 n k x1 σ = some q → bfr MT (d + 4) M_X5_countOrders 24 [some (.ref 59), some (.int x1), o2] [] [] (mkC ra rb 1 re rf rg σ) (some (.int q.1), mkC ra rb 1 re rf rg q.2) := by
  intro k
  induction k with
  | zero => intro x1 o2 ra rb re rf rg σ h; exact bno h
  | succ k ih =>
    intro x1 o2 ra rb re rf rg σ h
    unfold cRows_countOrders_b24 at h
    refine bfr_br 4 (pc1 := 80) (L1 := [some (.ref 59), some (.int x1), o2]) (J1 := []) (st1 := []) (w1 := mkC ra rb 1 re rf rg σ) (pc2 := 32) (L2 := [some (.ref 59), some (.int x1), o2]) (J2 := []) (st2 := []) (w2 := mkC ra rb 1 re rf rg σ) (fun _ _ => rfl) h (fun h => ?_) (fun h => ?_)
    · refine bfr_run 4 84 [some (.ref 59), some (.int ci_0), some (.int ci_0)] [] [] (mkC ra rb 1 re rf rg σ) (fun _ _ => rfl) ?_
      exact k_cRows_countOrders_b84 n d q _ _ _ _ _ _ _ _ _ h
    · refine bfr_run 2 34 [some (.ref 59), some (.int x1), some (.int ci_0)] [] [] (mkC ra rb 1 re rf rg σ) (fun _ _ => rfl) ?_
      exact k_cRows_countOrders_b34 n d _ q (ih) _ _ _ _ _ _ _ _ _ h
set_option maxRecDepth 100000 in
theorem k_cRows_countOrders (n d : Nat) (q : (Int32 × bS)) (ra : Nat) (rb : Nat) (re : Nat) (rf : Value) (rg : Value) (σ : bS) (h : cRows_countOrders n σ = some q) : bfr MT (d + 4) M_X5_countOrders 0 [some (.ref 59), none, none] [] [] (mkC ra rb 1 re rf rg σ) (some (.int q.1), mkC ra rb 1 re rf rg q.2) := by
  unfold cRows_countOrders at h
  refine bfr_call 4 (d1 := d + 3) (M1 := M_J7_fill_53178) (vs := [(.ref 61), (.int ci_0)]) (w1 := mkC ra rb 1 re rf rg σ) (pc2 := 8) (L2 := [some (.ref 59), none, none]) (J2 := []) (rest := []) (fun _ => none) (fun a => mkC ra rb 1 re rf rg a) (fun _ _ => rfl) h (fun a ha => k_cj_fill_61 n (d + 3) _ _ _ _ _ _ _ _ _ ha) (fun q3 _ h => ?_)
  refine bfr_call 6 (d1 := d + 3) (M1 := M_X5_spotOf) (vs := [(.int (sI q3 59 12)), (.int ci_0)]) (w1 := mkC ra rb 1 re rf rg q3) (pc2 := 20) (L2 := [some (.ref 59), none, none]) (J2 := []) (rest := [(.ref 61)]) (fun a => some (.int a.1)) (fun a => mkC ra rb 1 re rf rg a.2) (fun _ _ => rfl) h (fun a ha => k_cRows_spotOf n (d + 3) _ _ _ _ _ _ _ _ _ _ ha) (fun q4 _ h => ?_)
  refine bfr_in (i := q4.1) (m := 1792) 2 (pc1 := 22) (L1 := [some (.ref 59), none, none]) (J1 := []) (st1 := []) (w1 := ((mkC ra rb 1 re rf rg q4.2).set 61 (.inl (0, 1792, upd (q4.2.2.1 61) (q4.1).toNatClampNeg ci_1)))) (fun _ _ => rfl) h (fun h => ?_)
  rw [mkC_A61]
  refine bfr_run 2 24 [some (.ref 59), some (.int ci_0), none] [] [] (mkC ra rb 1 re rf rg (uA q4.2 61 q4.1 ci_1)) (fun _ _ => rfl) ?_
  exact k_cRows_countOrders_b24 n d q _ _ _ _ _ _ _ _ _ h
set_option maxRecDepth 100000 in
theorem k_cTop_orders (n d : Nat) (q : (Int32 × bS)) (x1 : Int32) (x2 : Int32) (rb : Nat) (re : Nat) (rf : Value) (rg : Value) (σ : bS) (h : cTop_orders n x1 x2 σ = some q) : bfr MT (d + 5) M_X11_orders 0 [some (.ref 0), some (.int x1), some (.int x2), none] [] [] (mkC 1 rb 1 re rf rg σ) (some (.int q.1), mkC 1 rb 1 re rf rg q.2) := by
  unfold cTop_orders at h
  refine bfr_call 4 (d1 := d + 4) (M1 := M_X11_rowFault) (vs := [(.ref 0), (.int x1), (.int x2)]) (w1 := mkC 1 rb 1 re rf rg σ) (pc2 := 6) (L2 := [some (.ref 0), some (.int x1), some (.int x2), none]) (J2 := []) (rest := []) (fun a => some (.int a.1)) (fun a => mkC 1 rb 1 re rf rg a.2) (fun _ _ => rfl) h (fun a ha => k_cTop_rowFault n (d + 3) _ _ _ _ _ _ _ _ ha) (fun q1 _ h => ?_)
  refine bfr_br 3 (pc1 := 13) (L1 := [some (.ref 0), some (.int x1), some (.int x2), some (.int q1.1)]) (J1 := []) (st1 := []) (w1 := mkC 1 rb 1 re rf rg q1.2) (pc2 := 11) (L2 := [some (.ref 0), some (.int x1), some (.int x2), some (.int q1.1)]) (J2 := []) (st2 := []) (w2 := mkC 1 rb 1 re rf rg q1.2) (fun _ _ => rfl) h (fun h => ?_) (fun h => ?_)
  · refine bfr_call 6 (d1 := d + 4) (M1 := M_X5_prepare) (vs := [(.ref 59), (.int x1), (.int x2), (.int ci_1)]) (w1 := mkC 1 rb 1 re rf rg q1.2) (pc2 := 23) (L2 := [some (.ref 0), some (.int x1), some (.int x2), some (.int q1.1)]) (J2 := []) (rest := []) (fun _ => none) (fun a => mkC 1 rb 1 re rf rg a) (fun _ _ => rfl) h (fun a ha => k_cRows_prepare n (d + 1) _ _ _ _ _ _ _ _ _ _ ha) (fun q2 _ h => ?_)
    refine bfr_call 3 (d1 := d + 4) (M1 := M_X5_countOrders) (vs := [(.ref 59)]) (w1 := mkC 1 rb 1 re rf rg q2) (pc2 := 30) (L2 := [some (.ref 0), some (.int x1), some (.int x2), some (.int q1.1)]) (J2 := []) (rest := []) (fun a => some (.int a.1)) (fun a => mkC 1 rb 1 re rf rg a.2) (fun _ _ => rfl) h (fun a ha => k_cRows_countOrders n (d + 0) _ _ _ _ _ _ _ ha) (fun q3 _ h => ?_)
    cases h
    exact bfr_ret 1 (fun _ _ => rfl)
  · cases h
    exact bfr_ret 2 (fun _ _ => rfl)
set_option maxRecDepth 100000 in
theorem k_cj_fill_62_b5 (n d : Nat) (q : bS) : ∀ (k : Nat) (x1 : Int32) (x2 : Int32) (x3 : Int32) (ra : Nat) (rb : Nat) (rc : Nat) (re : Nat) (rf : Value) (rg : Value) (σ : bS), cj_fill_62_b5 n k x1 x2 x3 σ = some q → bfr MT (d + 0) M_J7_fill_53178 5 [some (.ref 62), some (.int x1), some (.int x2), some (.int x3)] [] [] (mkC ra rb rc re rf rg σ) (none, mkC ra rb rc re rf rg q) := by
  intro k
  induction k with
  | zero => intro x1 x2 x3 ra rb rc re rf rg σ h; exact bno h
  | succ k ih =>
    intro x1 x2 x3 ra rb rc re rf rg σ h
    unfold cj_fill_62_b5 at h
    refine bfr_br 3 (pc1 := 20) (L1 := [some (.ref 62), some (.int x1), some (.int x2), some (.int x3)]) (J1 := []) (st1 := []) (w1 := mkC ra rb rc re rf rg σ) (pc2 := 10) (L2 := [some (.ref 62), some (.int x1), some (.int x2), some (.int x3)]) (J2 := []) (st2 := []) (w2 := mkC ra rb rc re rf rg σ) (fun _ _ => rfl) h (fun h => ?_) (fun h => ?_)
    · cases h
      exact bfr_ret 1 (fun _ _ => rfl)
    · refine bfr_in (i := x2) (m := 1024) 4 (pc1 := 14) (L1 := [some (.ref 62), some (.int x1), some (.int x2), some (.int x3)]) (J1 := []) (st1 := []) (w1 := ((mkC ra rb rc re rf rg σ).set 62 (.inl (0, 1024, upd (σ.2.1 62) (x2).toNatClampNeg x1)))) (fun _ _ => rfl) h (fun h => ?_)
      rw [mkC_A62]
      refine bfr_run 1 17 [some (.ref 62), some (.int x1), some (.int (x2 + ci_1)), some (.int x3)] [] [] (mkC ra rb rc re rf rg (uA σ 62 x2 x1)) (fun _ _ => rfl) ?_
      refine bfr_run 1 5 [some (.ref 62), some (.int x1), some (.int (x2 + ci_1)), some (.int x3)] [] [] (mkC ra rb rc re rf rg (uA σ 62 x2 x1)) (fun _ _ => rfl) ?_
      exact ih _ _ _ _ _ _ _ _ _ _ h
set_option maxRecDepth 100000 in
theorem k_cj_fill_62 (n d : Nat) (q : bS) (x1 : Int32) (ra : Nat) (rb : Nat) (rc : Nat) (re : Nat) (rf : Value) (rg : Value) (σ : bS) (h : cj_fill_62 n x1 σ = some q) : bfr MT (d + 0) M_J7_fill_53178 0 [some (.ref 62), some (.int x1), none, none] [] [] (mkC ra rb rc re rf rg σ) (none, mkC ra rb rc re rf rg q) := by
  unfold cj_fill_62 at h
  refine bfr_run 5 5 [some (.ref 62), some (.int x1), some (.int ci_0), some (.int cn_1024)] [] [] (mkC ra rb rc re rf rg σ) (fun _ _ => rfl) ?_
  exact k_cj_fill_62_b5 n d q _ _ _ _ _ _ _ _ _ _ _ h
set_option maxRecDepth 100000 in
theorem k_cRows_spotFree (n d : Nat) (q : (Int32 × bS)) (x1 : Int32) (x2 : Int32) (x3 : Int32) (x4 : Int32) (ra : Nat) (rb : Nat) (re : Nat) (rf : Value) (rg : Value) (σ : bS) (h : cRows_spotFree n x1 x2 x3 x4 σ = some q) : bfr MT (d + 3) M_X5_spotFree 0 [some (.ref 59), some (.int x1), some (.int x2), some (.int x3), some (.int x4)] [] [] (mkC ra rb 1 re rf rg σ) (some (.int q.1), mkC ra rb 1 re rf rg q.2) := by
  unfold cRows_spotFree at h
  refine bfr_call 6 (d1 := d + 2) (M1 := M_J6_bitCount_0f7a4) (vs := [(.int x1)]) (w1 := mkC ra rb 1 re rf rg σ) (pc2 := 9) (L2 := [some (.ref 59), some (.int x1), some (.int x2), some (.int x3), some (.int x4)]) (J2 := []) (rest := [(.int x4), (.int x2), (.int x1), (.ref 59)]) (fun a => some (.int a.1)) (fun a => mkC ra rb 1 re rf rg a.2) (fun _ _ => rfl) h (fun a ha => k_cj_bitCount n (d + 2) _ _ _ _ _ _ _ _ _ ha) (fun q1 _ h => ?_)
  refine bfr_call 3 (d1 := d + 2) (M1 := M_X5_spotAfter) (vs := [(.ref 59), (.int x1), (.int x2), (.int x4), (.int (q1.1 + x3))]) (w1 := mkC ra rb 1 re rf rg q1.2) (pc2 := 14) (L2 := [some (.ref 59), some (.int x1), some (.int x2), some (.int x3), some (.int x4)]) (J2 := []) (rest := []) (fun a => some (.int a.1)) (fun a => mkC ra rb 1 re rf rg a.2) (fun _ _ => rfl) h (fun a ha => k_cRows_spotAfter n (d + 0) _ _ _ _ _ _ _ _ _ _ _ ha) (fun q2 _ h => ?_)
  cases h
  exact bfr_ret 1 (fun _ _ => rfl)
set_option maxRecDepth 100000 in
theorem k_cRows_spotPaid (n d : Nat) (q : (Int32 × bS)) (x1 : Int32) (x2 : Int32) (x3 : Int32) (x4 : Int32) (ra : Nat) (rb : Nat) (re : Nat) (rf : Value) (rg : Value) (σ : bS) (h : cRows_spotPaid n x1 x2 x3 x4 σ = some q) : bfr MT (d + 3) M_X5_spotPaid 0 [some (.ref 59), some (.int x1), some (.int x2), some (.int x3), some (.int x4), none] [] [] (mkC ra rb 1 re rf rg σ) (some (.int q.1), mkC ra rb 1 re rf rg q.2) := by
  unfold cRows_spotPaid at h
  refine bfr_call 3 (d1 := d + 2) (M1 := M_X5_homeOf) (vs := [(.ref 59), (.int x4)]) (w1 := mkC ra rb 1 re rf rg σ) (pc2 := 6) (L2 := [some (.ref 59), some (.int x1), some (.int x2), some (.int x3), some (.int x4), none]) (J2 := []) (rest := []) (fun a => some (.int a.1)) (fun a => mkC ra rb 1 re rf rg a.2) (fun _ _ => rfl) h (fun a ha => k_cRows_homeOf n (d + 2) _ _ _ _ _ _ _ _ ha) (fun q1 _ h => ?_)
  refine bfr_chk 3 (pc1 := 9) (L1 := [some (.ref 59), some (.int x1), some (.int x2), some (.int x3), some (.int x4), none]) (J1 := []) (st1 := [(.int (brem x2 ci_2)), (.int q1.1)]) (w1 := mkC ra rb 1 re rf rg q1.2) (fun _ _ => rfl) h (fun h => ?_)
  refine bfr_call 1 (d1 := d + 2) (M1 := M_X5_spotOf) (vs := [(.int q1.1), (.int (brem x2 ci_2))]) (w1 := mkC ra rb 1 re rf rg q1.2) (pc2 := 12) (L2 := [some (.ref 59), some (.int x1), some (.int x2), some (.int x3), some (.int x4), none]) (J2 := []) (rest := []) (fun a => some (.int a.1)) (fun a => mkC ra rb 1 re rf rg a.2) (fun _ _ => rfl) h (fun a ha => k_cRows_spotOf n (d + 2) _ _ _ _ _ _ _ _ _ _ ha) (fun q2 _ h => ?_)
  refine bfr_run 6 21 [some (.ref 59), some (.int x1), some (.int x2), some (.int x3), some (.int x4), some (.int q2.1)] [] [(.int x1), (.int x4), (.int q2.1), (.int x1), (.ref 59)] (mkC ra rb 1 re rf rg q2.2) (fun _ _ => rfl) ?_
  refine bfr_call 1 (d1 := d + 2) (M1 := M_J6_bitCount_0f7a4) (vs := [(.int x1)]) (w1 := mkC ra rb 1 re rf rg q2.2) (pc2 := 24) (L2 := [some (.ref 59), some (.int x1), some (.int x2), some (.int x3), some (.int x4), some (.int q2.1)]) (J2 := []) (rest := [(.int x4), (.int q2.1), (.int x1), (.ref 59)]) (fun a => some (.int a.1)) (fun a => mkC ra rb 1 re rf rg a.2) (fun _ _ => rfl) h (fun a ha => k_cj_bitCount n (d + 2) _ _ _ _ _ _ _ _ _ ha) (fun q3 _ h => ?_)
  refine bfr_call 5 (d1 := d + 2) (M1 := M_X5_spotAfter) (vs := [(.ref 59), (.int x1), (.int q2.1), (.int x4), (.int ((q3.1 + x3) + ci_1))]) (w1 := mkC ra rb 1 re rf rg q3.2) (pc2 := 31) (L2 := [some (.ref 59), some (.int x1), some (.int x2), some (.int x3), some (.int x4), some (.int q2.1)]) (J2 := []) (rest := []) (fun a => some (.int a.1)) (fun a => mkC ra rb 1 re rf rg a.2) (fun _ _ => rfl) h (fun a ha => k_cRows_spotAfter n (d + 0) _ _ _ _ _ _ _ _ _ _ _ ha) (fun q4 _ h => ?_)
  cases h
  exact bfr_ret 1 (fun _ _ => rfl)
set_option maxRecDepth 100000 in
theorem k_cRows_spread_b108 (n d : Nat) (r3 : Int32 → Int32 → Int32 → Int32 → Int32 → bS → Option bS) (q : bS) (hr3 : ∀ (x1 : Int32) (x2 : Int32) (x3 : Int32) (x4 : Int32) (x5 : Int32) (o6 : Option Value) (o7 : Option Value) (o8 : Option Value) (ra : Nat) (rb : Nat) (re : Nat) (rf : Value) (rg : Value) (σ : bS), r3 x1 x2 x3 x4 x5 σ = some q → bfr MT (d + 4) M_X5_spread 3 [some (.ref 59), some (.int x1), some (.int x2), some (.int x3), some (.int x4), some (.int x5), o6, o7, o8] [] [] (mkC ra rb 1 re rf rg σ) (none, mkC ra rb 1 re rf rg q)) (x1 : Int32) (x2 : Int32) (x3 : Int32) (x4 : Int32) (x5 : Int32) (o6 : Option Value) (o7 : Option Value) (o8 : Option Value) (ra : Nat) (rb : Nat) (re : Nat) (rf : Value) (rg : Value) (σ : bS) (h : cRows_spread_b108 n r3 x1 x2 x3 x4 x5 σ = some q) : bfr MT (d + 4) M_X5_spread 108 [some (.ref 59), some (.int x1), some (.int x2), some (.int x3), some (.int x4), some (.int x5), o6, o7, o8] [] [] (mkC ra rb 1 re rf rg σ) (none, mkC ra rb 1 re rf rg q) := by
  unfold cRows_spread_b108 at h
  refine bfr_run 1 111 [some (.ref 59), some (.int x1), some (.int x2), some (.int x3), some (.int x4), some (.int (x5 + ci_1)), o6, o7, o8] [] [] (mkC ra rb 1 re rf rg σ) (fun _ _ => rfl) ?_
  refine bfr_run 1 3 [some (.ref 59), some (.int x1), some (.int x2), some (.int x3), some (.int x4), some (.int (x5 + ci_1)), o6, o7, o8] [] [] (mkC ra rb 1 re rf rg σ) (fun _ _ => rfl) ?_
  exact hr3 _ _ _ _ _ _ _ _ _ _ _ _ _ _ h
set_option maxRecDepth 100000 in
theorem k_cRows_spread_b85 (n d : Nat) (r3 : Int32 → Int32 → Int32 → Int32 → Int32 → bS → Option bS) (q : bS) (hr3 : ∀ (x1 : Int32) (x2 : Int32) (x3 : Int32) (x4 : Int32) (x5 : Int32) (o6 : Option Value) (o7 : Option Value) (o8 : Option Value) (ra : Nat) (rb : Nat) (re : Nat) (rf : Value) (rg : Value) (σ : bS), r3 x1 x2 x3 x4 x5 σ = some q → bfr MT (d + 4) M_X5_spread 3 [some (.ref 59), some (.int x1), some (.int x2), some (.int x3), some (.int x4), some (.int x5), o6, o7, o8] [] [] (mkC ra rb 1 re rf rg σ) (none, mkC ra rb 1 re rf rg q)) (x1 : Int32) (x2 : Int32) (x3 : Int32) (x4 : Int32) (x5 : Int32) (x6 : Int32) (s0 : Int32) (o7 : Option Value) (o8 : Option Value) (ra : Nat) (rb : Nat) (re : Nat) (rf : Value) (rg : Value) (σ : bS) (h : cRows_spread_b85 n r3 x1 x2 x3 x4 x5 x6 s0 σ = some q) : bfr MT (d + 4) M_X5_spread 85 [some (.ref 59), some (.int x1), some (.int x2), some (.int x3), some (.int x4), some (.int x5), some (.int x6), o7, o8] [] [(.int s0)] (mkC ra rb 1 re rf rg σ) (none, mkC ra rb 1 re rf rg q) := by
  unfold cRows_spread_b85 at h
  refine bfr_br 3 (pc1 := 108) (L1 := [some (.ref 59), some (.int x1), some (.int x2), some (.int x3), some (.int x4), some (.int x5), some (.int x6), o7, some (.int s0)]) (J1 := []) (st1 := []) (w1 := mkC ra rb 1 re rf rg σ) (pc2 := 92) (L2 := [some (.ref 59), some (.int x1), some (.int x2), some (.int x3), some (.int x4), some (.int x5), some (.int x6), o7, some (.int s0)]) (J2 := []) (st2 := []) (w2 := mkC ra rb 1 re rf rg σ) (fun _ _ => rfl) h (fun h => ?_) (fun h => ?_)
  · exact k_cRows_spread_b108 n d _ q hr3 _ _ _ _ _ _ _ _ _ _ _ _ _ _ h
  · refine bfr_run 6 101 [some (.ref 59), some (.int x1), some (.int x2), some (.int x3), some (.int x4), some (.int x5), some (.int x6), o7, some (.int s0)] [] [(.int (x6 + ci_1)), (.ref 62), (.int (x6 + ci_1)), (.ref 62)] (mkC ra rb 1 re rf rg σ) (fun _ _ => rfl) ?_
    refine bfr_in (i := (x6 + ci_1)) (m := 1024) 1 (pc1 := 102) (L1 := [some (.ref 59), some (.int x1), some (.int x2), some (.int x3), some (.int x4), some (.int x5), some (.int x6), o7, some (.int s0)]) (J1 := []) (st1 := [(.int (sA σ 62 (x6 + ci_1))), (.int (x6 + ci_1)), (.ref 62)]) (w1 := mkC ra rb 1 re rf rg σ) (fun _ _ => rfl) h (fun h => ?_)
    refine bfr_in (i := (x6 + ci_1)) (m := 1024) 5 (pc1 := 108) (L1 := [some (.ref 59), some (.int x1), some (.int x2), some (.int x3), some (.int x4), some (.int x5), some (.int x6), o7, some (.int s0)]) (J1 := []) (st1 := []) (w1 := ((mkC ra rb 1 re rf rg σ).set 62 (.inl (0, 1024, upd (σ.2.1 62) ((x6 + ci_1)).toNatClampNeg ((sA σ 62 (x6 + ci_1)) ||| (ci_1 <<< (s0 &&& 31))))))) (fun _ _ => rfl) h (fun h => ?_)
    rw [mkC_A62]
    exact k_cRows_spread_b108 n d _ q hr3 _ _ _ _ _ _ _ _ _ _ _ _ _ _ h
set_option maxRecDepth 100000 in
theorem k_cRows_spread_b66 (n d : Nat) (r3 : Int32 → Int32 → Int32 → Int32 → Int32 → bS → Option bS) (q : bS) (hr3 : ∀ (x1 : Int32) (x2 : Int32) (x3 : Int32) (x4 : Int32) (x5 : Int32) (o6 : Option Value) (o7 : Option Value) (o8 : Option Value) (ra : Nat) (rb : Nat) (re : Nat) (rf : Value) (rg : Value) (σ : bS), r3 x1 x2 x3 x4 x5 σ = some q → bfr MT (d + 4) M_X5_spread 3 [some (.ref 59), some (.int x1), some (.int x2), some (.int x3), some (.int x4), some (.int x5), o6, o7, o8] [] [] (mkC ra rb 1 re rf rg σ) (none, mkC ra rb 1 re rf rg q)) (x1 : Int32) (x2 : Int32) (x3 : Int32) (x4 : Int32) (x5 : Int32) (x6 : Int32) (o7 : Option Value) (o8 : Option Value) (ra : Nat) (rb : Nat) (re : Nat) (rf : Value) (rg : Value) (σ : bS) (h : cRows_spread_b66 n r3 x1 x2 x3 x4 x5 x6 σ = some q) : bfr MT (d + 4) M_X5_spread 66 [some (.ref 59), some (.int x1), some (.int x2), some (.int x3), some (.int x4), some (.int x5), some (.int x6), o7, o8] [] [] (mkC ra rb 1 re rf rg σ) (none, mkC ra rb 1 re rf rg q) := by
  unfold cRows_spread_b66 at h
  refine bfr_br 3 (pc1 := 84) (L1 := [some (.ref 59), some (.int x1), some (.int x2), some (.int x3), some (.int x4), some (.int x5), some (.int x6), o7, o8]) (J1 := []) (st1 := []) (w1 := mkC ra rb 1 re rf rg σ) (pc2 := 72) (L2 := [some (.ref 59), some (.int x1), some (.int x2), some (.int x3), some (.int x4), some (.int x5), some (.int x6), o7, o8]) (J2 := []) (st2 := []) (w2 := mkC ra rb 1 re rf rg σ) (fun _ _ => rfl) h (fun h => ?_) (fun h => ?_)
  · refine bfr_run 1 85 [some (.ref 59), some (.int x1), some (.int x2), some (.int x3), some (.int x4), some (.int x5), some (.int x6), o7, o8] [] [(.int ci_m1)] (mkC ra rb 1 re rf rg σ) (fun _ _ => rfl) ?_
    exact k_cRows_spread_b85 n d _ q hr3 _ _ _ _ _ _ _ _ _ _ _ _ _ _ _ h
  · refine bfr_call 6 (d1 := d + 3) (M1 := M_X5_spotPaid) (vs := [(.ref 59), (.int x1), (.int x2), (.int x3), (.int x5)]) (w1 := mkC ra rb 1 re rf rg σ) (pc2 := 81) (L2 := [some (.ref 59), some (.int x1), some (.int x2), some (.int x3), some (.int x4), some (.int x5), some (.int x6), o7, o8]) (J2 := []) (rest := []) (fun a => some (.int a.1)) (fun a => mkC ra rb 1 re rf rg a.2) (fun _ _ => rfl) h (fun a ha => k_cRows_spotPaid n (d + 0) _ _ _ _ _ _ _ _ _ _ _ ha) (fun q1 _ h => ?_)
    refine bfr_run 1 85 [some (.ref 59), some (.int x1), some (.int x2), some (.int x3), some (.int x4), some (.int x5), some (.int x6), o7, o8] [] [(.int q1.1)] (mkC ra rb 1 re rf rg q1.2) (fun _ _ => rfl) ?_
    exact k_cRows_spread_b85 n d _ q hr3 _ _ _ _ _ _ _ _ _ _ _ _ _ _ _ h
set_option maxRecDepth 100000 in
theorem k_cRows_spread_b3 (n d : Nat) (q : bS) : ∀ (k : Nat) (x1 : Int32) (x2 : Int32) (x3 : Int32) (x4 : Int32) (x5 : Int32) (o6 : Option Value) (o7 : Option Value) (o8 : Option Value) (ra : Nat) (rb : Nat) (re : Nat) (rf : Value) (rg : Value) (σ : bS), cRows_spread_b3 n k x1 x2 x3 x4 x5 σ = some q → bfr MT (d + 4) M_X5_spread 3 [some (.ref 59), some (.int x1), some (.int x2), some (.int x3), some (.int x4), some (.int x5), o6, o7, o8] [] [] (mkC ra rb 1 re rf rg σ) (none, mkC ra rb 1 re rf rg q) := by
  intro k
  induction k with
  | zero => intro x1 x2 x3 x4 x5 o6 o7 o8 ra rb re rf rg σ h; exact bno h
  | succ k ih =>
    intro x1 x2 x3 x4 x5 o6 o7 o8 ra rb re rf rg σ h
    unfold cRows_spread_b3 at h
    refine bfr_br 3 (pc1 := 114) (L1 := [some (.ref 59), some (.int x1), some (.int x2), some (.int x3), some (.int x4), some (.int x5), o6, o7, o8]) (J1 := []) (st1 := []) (w1 := mkC ra rb 1 re rf rg σ) (pc2 := 10) (L2 := [some (.ref 59), some (.int x1), some (.int x2), some (.int x3), some (.int x4), some (.int x5), o6, o7, o8]) (J2 := []) (st2 := []) (w2 := mkC ra rb 1 re rf rg σ) (fun _ _ => rfl) h (fun h => ?_) (fun h => ?_)
    · cases h
      exact bfr_ret 1 (fun _ _ => rfl)
    · refine bfr_call 4 (d1 := d + 3) (M1 := M_X5_isLeft) (vs := [(.ref 59), (.int x5), (.int x1)]) (w1 := mkC ra rb 1 re rf rg σ) (pc2 := 17) (L2 := [some (.ref 59), some (.int x1), some (.int x2), some (.int x3), some (.int x4), some (.int x5), o6, o7, o8]) (J2 := []) (rest := []) (fun a => some (.int a.1)) (fun a => mkC ra rb 1 re rf rg a.2) (fun _ _ => rfl) h (fun a ha => k_cRows_isLeft n (d + 3) _ _ _ _ _ _ _ _ _ _ ha) (fun q2 _ h => ?_)
      refine bfr_br 1 (pc1 := 20) (L1 := [some (.ref 59), some (.int x1), some (.int x2), some (.int x3), some (.int x4), some (.int x5), o6, o7, o8]) (J1 := []) (st1 := []) (w1 := mkC ra rb 1 re rf rg q2.2) (pc2 := 23) (L2 := [some (.ref 59), some (.int x1), some (.int x2), some (.int x3), some (.int x4), some (.int x5), o6, o7, o8]) (J2 := []) (st2 := []) (w2 := mkC ra rb 1 re rf rg q2.2) (fun _ _ => rfl) h (fun h => ?_) (fun h => ?_)
      · refine bfr_run 1 108 [some (.ref 59), some (.int x1), some (.int x2), some (.int x3), some (.int x4), some (.int x5), o6, o7, o8] [] [] (mkC ra rb 1 re rf rg q2.2) (fun _ _ => rfl) ?_
        exact k_cRows_spread_b108 n d _ q (ih) _ _ _ _ _ _ _ _ _ _ _ _ _ _ h
      · refine bfr_run 6 31 [some (.ref 59), some (.int x1), some (.int x2), some (.int x3), some (.int x4), some (.int x5), o6, o7, o8] [] [(.int cb_8), (.int (x1 ||| (ci_1 <<< (x5 &&& 31))))] (mkC ra rb 1 re rf rg q2.2) (fun _ _ => rfl) ?_
        refine bfr_run 6 38 [some (.ref 59), some (.int x1), some (.int x2), some (.int x3), some (.int x4), some (.int x5), some (.int (((x1 ||| (ci_1 <<< (x5 &&& 31))) * cb_8) + x3)), o7, o8] [] [(.int x1), (.ref 59)] (mkC ra rb 1 re rf rg q2.2) (fun _ _ => rfl) ?_
        refine bfr_call 4 (d1 := d + 3) (M1 := M_X5_spotFree) (vs := [(.ref 59), (.int x1), (.int x2), (.int x3), (.int x5)]) (w1 := mkC ra rb 1 re rf rg q2.2) (pc2 := 45) (L2 := [some (.ref 59), some (.int x1), some (.int x2), some (.int x3), some (.int x4), some (.int x5), some (.int (((x1 ||| (ci_1 <<< (x5 &&& 31))) * cb_8) + x3)), o7, o8]) (J2 := []) (rest := []) (fun a => some (.int a.1)) (fun a => mkC ra rb 1 re rf rg a.2) (fun _ _ => rfl) h (fun a ha => k_cRows_spotFree n (d + 0) _ _ _ _ _ _ _ _ _ _ _ ha) (fun q3 _ h => ?_)
        refine bfr_br 3 (pc1 := 66) (L1 := [some (.ref 59), some (.int x1), some (.int x2), some (.int x3), some (.int x4), some (.int x5), some (.int (((x1 ||| (ci_1 <<< (x5 &&& 31))) * cb_8) + x3)), some (.int q3.1), o8]) (J1 := []) (st1 := []) (w1 := mkC ra rb 1 re rf rg q3.2) (pc2 := 52) (L2 := [some (.ref 59), some (.int x1), some (.int x2), some (.int x3), some (.int x4), some (.int x5), some (.int (((x1 ||| (ci_1 <<< (x5 &&& 31))) * cb_8) + x3)), some (.int q3.1), o8]) (J2 := []) (st2 := []) (w2 := mkC ra rb 1 re rf rg q3.2) (fun _ _ => rfl) h (fun h => ?_) (fun h => ?_)
        · exact k_cRows_spread_b66 n d _ q (ih) _ _ _ _ _ _ _ _ _ _ _ _ _ _ h
        · refine bfr_in (i := (((x1 ||| (ci_1 <<< (x5 &&& 31))) * cb_8) + x3)) (m := 1024) 5 (pc1 := 60) (L1 := [some (.ref 59), some (.int x1), some (.int x2), some (.int x3), some (.int x4), some (.int x5), some (.int (((x1 ||| (ci_1 <<< (x5 &&& 31))) * cb_8) + x3)), some (.int q3.1), o8]) (J1 := []) (st1 := [(.int (sA q3.2 62 (((x1 ||| (ci_1 <<< (x5 &&& 31))) * cb_8) + x3))), (.int (((x1 ||| (ci_1 <<< (x5 &&& 31))) * cb_8) + x3)), (.ref 62)]) (w1 := mkC ra rb 1 re rf rg q3.2) (fun _ _ => rfl) h (fun h => ?_)
          refine bfr_in (i := (((x1 ||| (ci_1 <<< (x5 &&& 31))) * cb_8) + x3)) (m := 1024) 5 (pc1 := 66) (L1 := [some (.ref 59), some (.int x1), some (.int x2), some (.int x3), some (.int x4), some (.int x5), some (.int (((x1 ||| (ci_1 <<< (x5 &&& 31))) * cb_8) + x3)), some (.int q3.1), o8]) (J1 := []) (st1 := []) (w1 := ((mkC ra rb 1 re rf rg q3.2).set 62 (.inl (0, 1024, upd (q3.2.2.1 62) ((((x1 ||| (ci_1 <<< (x5 &&& 31))) * cb_8) + x3)).toNatClampNeg ((sA q3.2 62 (((x1 ||| (ci_1 <<< (x5 &&& 31))) * cb_8) + x3)) ||| (ci_1 <<< (q3.1 &&& 31))))))) (fun _ _ => rfl) h (fun h => ?_)
          rw [mkC_A62]
          exact k_cRows_spread_b66 n d _ q (ih) _ _ _ _ _ _ _ _ _ _ _ _ _ _ h
set_option maxRecDepth 100000 in
theorem k_cRows_spread (n d : Nat) (q : bS) (x1 : Int32) (x2 : Int32) (x3 : Int32) (x4 : Int32) (ra : Nat) (rb : Nat) (re : Nat) (rf : Value) (rg : Value) (σ : bS) (h : cRows_spread n x1 x2 x3 x4 σ = some q) : bfr MT (d + 4) M_X5_spread 0 [some (.ref 59), some (.int x1), some (.int x2), some (.int x3), some (.int x4), none, none, none, none] [] [] (mkC ra rb 1 re rf rg σ) (none, mkC ra rb 1 re rf rg q) := by
  unfold cRows_spread at h
  refine bfr_run 2 3 [some (.ref 59), some (.int x1), some (.int x2), some (.int x3), some (.int x4), some (.int ci_0), none, none, none] [] [] (mkC ra rb 1 re rf rg σ) (fun _ _ => rfl) ?_
  exact k_cRows_spread_b3 n d q _ _ _ _ _ _ _ _ _ _ _ _ _ _ _ h
set_option maxRecDepth 100000 in
theorem k_cRows_fewestWishers_b94 (n d : Nat) (r26 : Int32 → Int32 → bS → Option (Int32 × bS)) (r33 : Int32 → Int32 → Int32 → bS → Option (Int32 × bS)) (q : (Int32 × bS)) (hr26 : ∀ (x1 : Int32) (x2 : Int32) (o3 : Option Value) (o4 : Option Value) (ra : Nat) (rb : Nat) (re : Nat) (rf : Value) (rg : Value) (σ : bS), r26 x1 x2 σ = some q → bfr MT (d + 5) M_X5_fewestWishers 26 [some (.ref 59), some (.int x1), some (.int x2), o3, o4] [] [] (mkC ra rb 1 re rf rg σ) (some (.int q.1), mkC ra rb 1 re rf rg q.2)) (hr33 : ∀ (x1 : Int32) (x2 : Int32) (x3 : Int32) (o4 : Option Value) (ra : Nat) (rb : Nat) (re : Nat) (rf : Value) (rg : Value) (σ : bS), r33 x1 x2 x3 σ = some q → bfr MT (d + 5) M_X5_fewestWishers 33 [some (.ref 59), some (.int x1), some (.int x2), some (.int x3), o4] [] [] (mkC ra rb 1 re rf rg σ) (some (.int q.1), mkC ra rb 1 re rf rg q.2)) (x1 : Int32) (x2 : Int32) (x3 : Int32) (o4 : Option Value) (ra : Nat) (rb : Nat) (re : Nat) (rf : Value) (rg : Value) (σ : bS) (h : cRows_fewestWishers_b94 n r26 r33 x1 x2 x3 σ = some q) : bfr MT (d + 5) M_X5_fewestWishers 94 [some (.ref 59), some (.int x1), some (.int x2), some (.int x3), o4] [] [] (mkC ra rb 1 re rf rg σ) (some (.int q.1), mkC ra rb 1 re rf rg q.2) := by
  unfold cRows_fewestWishers_b94 at h
  refine bfr_run 1 97 [some (.ref 59), some (.int x1), some (.int x2), some (.int (x3 + ci_1)), o4] [] [] (mkC ra rb 1 re rf rg σ) (fun _ _ => rfl) ?_
  refine bfr_run 1 33 [some (.ref 59), some (.int x1), some (.int x2), some (.int (x3 + ci_1)), o4] [] [] (mkC ra rb 1 re rf rg σ) (fun _ _ => rfl) ?_
  exact hr33 _ _ _ _ _ _ _ _ _ _ h
set_option maxRecDepth 100000 in
theorem k_cRows_fewestWishers_b88 (n d : Nat) (r26 : Int32 → Int32 → bS → Option (Int32 × bS)) (r33 : Int32 → Int32 → Int32 → bS → Option (Int32 × bS)) (r44 : Int32 → Int32 → Int32 → Int32 → bS → Option (Int32 × bS)) (q : (Int32 × bS)) (hr26 : ∀ (x1 : Int32) (x2 : Int32) (o3 : Option Value) (o4 : Option Value) (ra : Nat) (rb : Nat) (re : Nat) (rf : Value) (rg : Value) (σ : bS), r26 x1 x2 σ = some q → bfr MT (d + 5) M_X5_fewestWishers 26 [some (.ref 59), some (.int x1), some (.int x2), o3, o4] [] [] (mkC ra rb 1 re rf rg σ) (some (.int q.1), mkC ra rb 1 re rf rg q.2)) (hr33 : ∀ (x1 : Int32) (x2 : Int32) (x3 : Int32) (o4 : Option Value) (ra : Nat) (rb : Nat) (re : Nat) (rf : Value) (rg : Value) (σ : bS), r33 x1 x2 x3 σ = some q → bfr MT (d + 5) M_X5_fewestWishers 33 [some (.ref 59), some (.int x1), some (.int x2), some (.int x3), o4] [] [] (mkC ra rb 1 re rf rg σ) (some (.int q.1), mkC ra rb 1 re rf rg q.2)) (hr44 : ∀ (x1 : Int32) (x2 : Int32) (x3 : Int32) (x4 : Int32) (ra : Nat) (rb : Nat) (re : Nat) (rf : Value) (rg : Value) (σ : bS), r44 x1 x2 x3 x4 σ = some q → bfr MT (d + 5) M_X5_fewestWishers 44 [some (.ref 59), some (.int x1), some (.int x2), some (.int x3), some (.int x4)] [] [] (mkC ra rb 1 re rf rg σ) (some (.int q.1), mkC ra rb 1 re rf rg q.2)) (x1 : Int32) (x2 : Int32) (x3 : Int32) (x4 : Int32) (ra : Nat) (rb : Nat) (re : Nat) (rf : Value) (rg : Value) (σ : bS) (h : cRows_fewestWishers_b88 n r26 r33 r44 x1 x2 x3 x4 σ = some q) : bfr MT (d + 5) M_X5_fewestWishers 88 [some (.ref 59), some (.int x1), some (.int x2), some (.int x3), some (.int x4)] [] [] (mkC ra rb 1 re rf rg σ) (some (.int q.1), mkC ra rb 1 re rf rg q.2) := by
  unfold cRows_fewestWishers_b88 at h
  refine bfr_run 1 91 [some (.ref 59), some (.int x1), some (.int x2), some (.int x3), some (.int (x4 + ci_1))] [] [] (mkC ra rb 1 re rf rg σ) (fun _ _ => rfl) ?_
  refine bfr_run 1 44 [some (.ref 59), some (.int x1), some (.int x2), some (.int x3), some (.int (x4 + ci_1))] [] [] (mkC ra rb 1 re rf rg σ) (fun _ _ => rfl) ?_
  exact hr44 _ _ _ _ _ _ _ _ _ _ h
set_option maxRecDepth 100000 in
theorem k_cRows_fewestWishers_b44 (n d : Nat) (r26 : Int32 → Int32 → bS → Option (Int32 × bS)) (r33 : Int32 → Int32 → Int32 → bS → Option (Int32 × bS)) (q : (Int32 × bS)) (hr26 : ∀ (x1 : Int32) (x2 : Int32) (o3 : Option Value) (o4 : Option Value) (ra : Nat) (rb : Nat) (re : Nat) (rf : Value) (rg : Value) (σ : bS), r26 x1 x2 σ = some q → bfr MT (d + 5) M_X5_fewestWishers 26 [some (.ref 59), some (.int x1), some (.int x2), o3, o4] [] [] (mkC ra rb 1 re rf rg σ) (some (.int q.1), mkC ra rb 1 re rf rg q.2)) (hr33 : ∀ (x1 : Int32) (x2 : Int32) (x3 : Int32) (o4 : Option Value) (ra : Nat) (rb : Nat) (re : Nat) (rf : Value) (rg : Value) (σ : bS), r33 x1 x2 x3 σ = some q → bfr MT (d + 5) M_X5_fewestWishers 33 [some (.ref 59), some (.int x1), some (.int x2), some (.int x3), o4] [] [] (mkC ra rb 1 re rf rg σ) (some (.int q.1), mkC ra rb 1 re rf rg q.2)) : ∀ (k : Nat) (x1 : Int32) (x2 : Int32) (x3 : Int32) (x4 : Int32) (ra : Nat) (rb : Nat) (re : Nat) (rf : Value) (rg : Value) (σ : bS), cRows_fewestWishers_b44 n r26 r33 k x1 x2 x3 x4 σ = some q → bfr MT (d + 5) M_X5_fewestWishers 44 [some (.ref 59), some (.int x1), some (.int x2), some (.int x3), some (.int x4)] [] [] (mkC ra rb 1 re rf rg σ) (some (.int q.1), mkC ra rb 1 re rf rg q.2) := by
  intro k
  induction k with
  | zero => intro x1 x2 x3 x4 ra rb re rf rg σ h; exact bno h
  | succ k ih =>
    intro x1 x2 x3 x4 ra rb re rf rg σ h
    unfold cRows_fewestWishers_b44 at h
    refine bfr_br 3 (pc1 := 94) (L1 := [some (.ref 59), some (.int x1), some (.int x2), some (.int x3), some (.int x4)]) (J1 := []) (st1 := []) (w1 := mkC ra rb 1 re rf rg σ) (pc2 := 51) (L2 := [some (.ref 59), some (.int x1), some (.int x2), some (.int x3), some (.int x4)]) (J2 := []) (st2 := []) (w2 := mkC ra rb 1 re rf rg σ) (fun _ _ => rfl) h (fun h => ?_) (fun h => ?_)
    · exact k_cRows_fewestWishers_b94 n d _ _ q hr26 hr33 _ _ _ _ _ _ _ _ _ _ h
    · refine bfr_call 3 (d1 := d + 4) (M1 := M_X5_isSubset) (vs := [(.ref 59), (.int x3)]) (w1 := mkC ra rb 1 re rf rg σ) (pc2 := 56) (L2 := [some (.ref 59), some (.int x1), some (.int x2), some (.int x3), some (.int x4)]) (J2 := []) (rest := []) (fun a => some (.int a.1)) (fun a => mkC ra rb 1 re rf rg a.2) (fun _ _ => rfl) h (fun a ha => k_cRows_isSubset n (d + 4) _ _ _ _ _ _ _ _ _ ha) (fun q1 _ h => ?_)
      refine bfr_br 1 (pc1 := 94) (L1 := [some (.ref 59), some (.int x1), some (.int x2), some (.int x3), some (.int x4)]) (J1 := []) (st1 := []) (w1 := mkC ra rb 1 re rf rg q1.2) (pc2 := 59) (L2 := [some (.ref 59), some (.int x1), some (.int x2), some (.int x3), some (.int x4)]) (J2 := []) (st2 := []) (w2 := mkC ra rb 1 re rf rg q1.2) (fun _ _ => rfl) h (fun h => ?_) (fun h => ?_)
      · exact k_cRows_fewestWishers_b94 n d _ _ q hr26 hr33 _ _ _ _ _ _ _ _ _ _ h
      · refine bfr_run 6 68 [some (.ref 59), some (.int x1), some (.int x2), some (.int x3), some (.int x4)] [] [(.int x2), (.int (x3 * cb_8)), (.ref 62)] (mkC ra rb 1 re rf rg q1.2) (fun _ _ => rfl) ?_
        refine bfr_in (i := ((x3 * cb_8) + x2)) (m := 1024) 2 (pc1 := 70) (L1 := [some (.ref 59), some (.int x1), some (.int x2), some (.int x3), some (.int x4)]) (J1 := []) (st1 := [(.int (sA q1.2 62 ((x3 * cb_8) + x2)))]) (w1 := mkC ra rb 1 re rf rg q1.2) (fun _ _ => rfl) h (fun h => ?_)
        refine bfr_br 6 (pc1 := 79) (L1 := [some (.ref 59), some (.int x1), some (.int x2), some (.int x3), some (.int x4)]) (J1 := []) (st1 := []) (w1 := mkC ra rb 1 re rf rg q1.2) (pc2 := 88) (L2 := [some (.ref 59), some (.int x1), some (.int x2), some (.int x3), some (.int x4)]) (J2 := []) (st2 := []) (w2 := mkC ra rb 1 re rf rg q1.2) (fun _ _ => rfl) h (fun h => ?_) (fun h => ?_)
        · refine bfr_call 6 (d1 := d + 4) (M1 := M_X5_spread) (vs := [(.ref 59), (.int x3), (.int x4), (.int x2), (.int x1)]) (w1 := mkC ra rb 1 re rf rg q1.2) (pc2 := 88) (L2 := [some (.ref 59), some (.int x1), some (.int x2), some (.int x3), some (.int x4)]) (J2 := []) (rest := []) (fun _ => none) (fun a => mkC ra rb 1 re rf rg a) (fun _ _ => rfl) h (fun a ha => k_cRows_spread n (d + 0) _ _ _ _ _ _ _ _ _ _ _ ha) (fun q2 _ h => ?_)
          exact k_cRows_fewestWishers_b88 n d _ _ _ q hr26 hr33 (ih) _ _ _ _ _ _ _ _ _ _ h
        · exact k_cRows_fewestWishers_b88 n d _ _ _ q hr26 hr33 (ih) _ _ _ _ _ _ _ _ _ _ h
set_option maxRecDepth 100000 in
theorem k_cRows_fewestWishers_b33 (n d : Nat) (r26 : Int32 → Int32 → bS → Option (Int32 × bS)) (q : (Int32 × bS)) (hr26 : ∀ (x1 : Int32) (x2 : Int32) (o3 : Option Value) (o4 : Option Value) (ra : Nat) (rb : Nat) (re : Nat) (rf : Value) (rg : Value) (σ : bS), r26 x1 x2 σ = some q → bfr MT (d + 5) M_X5_fewestWishers 26 [some (.ref 59), some (.int x1), some (.int x2), o3, o4] [] [] (mkC ra rb 1 re rf rg σ) (some (.int q.1), mkC ra rb 1 re rf rg q.2)) : ∀ (k : Nat) (x1 : Int32) (x2 : Int32) (x3 : Int32) (o4 : Option Value) (ra : Nat) (rb : Nat) (re : Nat) (rf : Value) (rg : Value) (σ : bS), cRows_fewestWishers_b33 n r26 k x1 x2 x3 σ = some q → bfr MT (d + 5) M_X5_fewestWishers 33 [some (.ref 59), some (.int x1), some (.int x2), some (.int x3), o4] [] [] (mkC ra rb 1 re rf rg σ) (some (.int q.1), mkC ra rb 1 re rf rg q.2) := by
  intro k
  induction k with
  | zero => intro x1 x2 x3 o4 ra rb re rf rg σ h; exact bno h
  | succ k ih =>
    intro x1 x2 x3 o4 ra rb re rf rg σ h
    unfold cRows_fewestWishers_b33 at h
    refine bfr_br 4 (pc1 := 100) (L1 := [some (.ref 59), some (.int x1), some (.int x2), some (.int x3), o4]) (J1 := []) (st1 := []) (w1 := mkC ra rb 1 re rf rg σ) (pc2 := 41) (L2 := [some (.ref 59), some (.int x1), some (.int x2), some (.int x3), o4]) (J2 := []) (st2 := []) (w2 := mkC ra rb 1 re rf rg σ) (fun _ _ => rfl) h (fun h => ?_) (fun h => ?_)
    · refine bfr_run 6 111 [some (.ref 59), some (.int x1), some (.int x2), some (.int x3), o4] [] [(.int ((sI σ 59 10) * cb_8)), (.ref 62)] (mkC ra rb 1 re rf rg σ) (fun _ _ => rfl) ?_
      refine bfr_in (i := (((sI σ 59 10) * cb_8) + x2)) (m := 1024) 3 (pc1 := 114) (L1 := [some (.ref 59), some (.int x1), some (.int x2), some (.int x3), o4]) (J1 := []) (st1 := [(.int (sA σ 62 (((sI σ 59 10) * cb_8) + x2)))]) (w1 := mkC ra rb 1 re rf rg σ) (fun _ _ => rfl) h (fun h => ?_)
      refine bfr_br 3 (pc1 := 123) (L1 := [some (.ref 59), some (.int x1), some (.int x2), some (.int x3), o4]) (J1 := []) (st1 := []) (w1 := mkC ra rb 1 re rf rg σ) (pc2 := 121) (L2 := [some (.ref 59), some (.int x1), some (.int x2), some (.int x3), o4]) (J2 := []) (st2 := []) (w2 := mkC ra rb 1 re rf rg σ) (fun _ _ => rfl) h (fun h => ?_) (fun h => ?_)
      · refine bfr_run 1 126 [some (.ref 59), some (.int x1), some (.int (x2 + ci_1)), some (.int x3), o4] [] [] (mkC ra rb 1 re rf rg σ) (fun _ _ => rfl) ?_
        refine bfr_run 1 26 [some (.ref 59), some (.int x1), some (.int (x2 + ci_1)), some (.int x3), o4] [] [] (mkC ra rb 1 re rf rg σ) (fun _ _ => rfl) ?_
        exact hr26 _ _ _ _ _ _ _ _ _ _ h
      · cases h
        exact bfr_ret 2 (fun _ _ => rfl)
    · refine bfr_run 2 44 [some (.ref 59), some (.int x1), some (.int x2), some (.int x3), some (.int ci_0)] [] [] (mkC ra rb 1 re rf rg σ) (fun _ _ => rfl) ?_
      exact k_cRows_fewestWishers_b44 n d _ _ q hr26 (ih) _ _ _ _ _ _ _ _ _ _ _ h
set_option maxRecDepth 100000 in
theorem k_cRows_fewestWishers_b26 (n d : Nat) (q : (Int32 × bS)) : ∀ (k : Nat) (x1 : Int32) (x2 : Int32) (o3 : Option Value) (o4 : Option Value) (ra : Nat) (rb : Nat) (re : Nat) (rf : Value) (rg : Value) (σ : bS), cRows_fewestWishers_b26 n k x1 x2 σ = some q → bfr MT (d + 5) M_X5_fewestWishers 26 [some (.ref 59), some (.int x1), some (.int x2), o3, o4] [] [] (mkC ra rb 1 re rf rg σ) (some (.int q.1), mkC ra rb 1 re rf rg q.2) := by
  intro k
  induction k with
  | zero => intro x1 x2 o3 o4 ra rb re rf rg σ h; exact bno h
  | succ k ih =>
    intro x1 x2 o3 o4 ra rb re rf rg σ h
    unfold cRows_fewestWishers_b26 at h
    refine bfr_br 3 (pc1 := 129) (L1 := [some (.ref 59), some (.int x1), some (.int x2), o3, o4]) (J1 := []) (st1 := []) (w1 := mkC ra rb 1 re rf rg σ) (pc2 := 31) (L2 := [some (.ref 59), some (.int x1), some (.int x2), o3, o4]) (J2 := []) (st2 := []) (w2 := mkC ra rb 1 re rf rg σ) (fun _ _ => rfl) h (fun h => ?_) (fun h => ?_)
    · cases h
      exact bfr_ret 4 (fun _ _ => rfl)
    · refine bfr_run 2 33 [some (.ref 59), some (.int x1), some (.int x2), some (.int ci_0), o4] [] [] (mkC ra rb 1 re rf rg σ) (fun _ _ => rfl) ?_
      exact k_cRows_fewestWishers_b33 n d _ q (ih) _ _ _ _ _ _ _ _ _ _ _ h
set_option maxRecDepth 100000 in
theorem k_cRows_fewestWishers (n d : Nat) (q : (Int32 × bS)) (x1 : Int32) (ra : Nat) (rb : Nat) (re : Nat) (rf : Value) (rg : Value) (σ : bS) (h : cRows_fewestWishers n x1 σ = some q) : bfr MT (d + 5) M_X5_fewestWishers 0 [some (.ref 59), some (.int x1), none, none, none] [] [] (mkC ra rb 1 re rf rg σ) (some (.int q.1), mkC ra rb 1 re rf rg q.2) := by
  unfold cRows_fewestWishers at h
  refine bfr_call 4 (d1 := d + 4) (M1 := M_J7_fill_53178) (vs := [(.ref 62), (.int ci_0)]) (w1 := mkC ra rb 1 re rf rg σ) (pc2 := 8) (L2 := [some (.ref 59), some (.int x1), none, none, none]) (J2 := []) (rest := []) (fun _ => none) (fun a => mkC ra rb 1 re rf rg a) (fun _ _ => rfl) h (fun a ha => k_cj_fill_62 n (d + 4) _ _ _ _ _ _ _ _ _ ha) (fun q3 _ h => ?_)
  refine bfr_run 6 18 [some (.ref 59), some (.int x1), none, none, none] [] [(.int (sI q3 59 12)), (.int ci_1), (.int ci_0), (.ref 62)] (mkC ra rb 1 re rf rg q3) (fun _ _ => rfl) ?_
  refine bfr_call 2 (d1 := d + 4) (M1 := M_X5_spotOf) (vs := [(.int (sI q3 59 12)), (.int ci_0)]) (w1 := mkC ra rb 1 re rf rg q3) (pc2 := 22) (L2 := [some (.ref 59), some (.int x1), none, none, none]) (J2 := []) (rest := [(.int ci_1), (.int ci_0), (.ref 62)]) (fun a => some (.int a.1)) (fun a => mkC ra rb 1 re rf rg a.2) (fun _ _ => rfl) h (fun a ha => k_cRows_spotOf n (d + 4) _ _ _ _ _ _ _ _ _ _ ha) (fun q4 _ h => ?_)
  refine bfr_in (i := ci_0) (m := 1024) 2 (pc1 := 24) (L1 := [some (.ref 59), some (.int x1), none, none, none]) (J1 := []) (st1 := []) (w1 := ((mkC ra rb 1 re rf rg q4.2).set 62 (.inl (0, 1024, upd (q4.2.2.1 62) (ci_0).toNatClampNeg (ci_1 <<< (q4.1 &&& 31)))))) (fun _ _ => rfl) h (fun h => ?_)
  rw [mkC_A62]
  refine bfr_run 2 26 [some (.ref 59), some (.int x1), some (.int ci_0), none, none] [] [] (mkC ra rb 1 re rf rg (uA q4.2 62 ci_0 (ci_1 <<< (q4.1 &&& 31)))) (fun _ _ => rfl) ?_
  exact k_cRows_fewestWishers_b26 n d q _ _ _ _ _ _ _ _ _ _ _ h
set_option maxRecDepth 100000 in
theorem k_cRows_isHopeful_b142 (n d : Nat) (r29 : Int32 → Int32 → Int32 → Int32 → Int32 → bS → Option (Int32 × bS)) (q : (Int32 × bS)) (hr29 : ∀ (x1 : Int32) (x2 : Int32) (x3 : Int32) (x4 : Int32) (x5 : Int32) (o6 : Option Value) (o7 : Option Value) (o8 : Option Value) (ra : Nat) (rb : Nat) (re : Nat) (rf : Value) (rg : Value) (σ : bS), r29 x1 x2 x3 x4 x5 σ = some q → bfr MT (d + 4) M_X5_isHopeful 29 [some (.ref 59), some (.int x1), some (.int x2), some (.int x3), some (.int x4), some (.int x5), o6, o7, o8] [] [] (mkC ra rb 1 re rf rg σ) (some (.int q.1), mkC ra rb 1 re rf rg q.2)) (x1 : Int32) (x2 : Int32) (x3 : Int32) (x4 : Int32) (x5 : Int32) (o6 : Option Value) (o7 : Option Value) (o8 : Option Value) (ra : Nat) (rb : Nat) (re : Nat) (rf : Value) (rg : Value) (σ : bS) (h : cRows_isHopeful_b142 n r29 x1 x2 x3 x4 x5 σ = some q) : bfr MT (d + 4) M_X5_isHopeful 142 [some (.ref 59), some (.int x1), some (.int x2), some (.int x3), some (.int x4), some (.int x5), o6, o7, o8] [] [] (mkC ra rb 1 re rf rg σ) (some (.int q.1), mkC ra rb 1 re rf rg q.2) := by
  unfold cRows_isHopeful_b142 at h
  refine bfr_run 1 145 [some (.ref 59), some (.int x1), some (.int x2), some (.int x3), some (.int x4), some (.int (x5 + ci_1)), o6, o7, o8] [] [] (mkC ra rb 1 re rf rg σ) (fun _ _ => rfl) ?_
  refine bfr_run 1 29 [some (.ref 59), some (.int x1), some (.int x2), some (.int x3), some (.int x4), some (.int (x5 + ci_1)), o6, o7, o8] [] [] (mkC ra rb 1 re rf rg σ) (fun _ _ => rfl) ?_
  exact hr29 _ _ _ _ _ _ _ _ _ _ _ _ _ _ h
set_option maxRecDepth 100000 in
theorem k_cRows_isHopeful_b115 (n d : Nat) (r29 : Int32 → Int32 → Int32 → Int32 → Int32 → bS → Option (Int32 × bS)) (q : (Int32 × bS)) (hr29 : ∀ (x1 : Int32) (x2 : Int32) (x3 : Int32) (x4 : Int32) (x5 : Int32) (o6 : Option Value) (o7 : Option Value) (o8 : Option Value) (ra : Nat) (rb : Nat) (re : Nat) (rf : Value) (rg : Value) (σ : bS), r29 x1 x2 x3 x4 x5 σ = some q → bfr MT (d + 4) M_X5_isHopeful 29 [some (.ref 59), some (.int x1), some (.int x2), some (.int x3), some (.int x4), some (.int x5), o6, o7, o8] [] [] (mkC ra rb 1 re rf rg σ) (some (.int q.1), mkC ra rb 1 re rf rg q.2)) (x1 : Int32) (x2 : Int32) (x3 : Int32) (x4 : Int32) (x5 : Int32) (x6 : Int32) (s0 : Int32) (o7 : Option Value) (o8 : Option Value) (ra : Nat) (rb : Nat) (re : Nat) (rf : Value) (rg : Value) (σ : bS) (h : cRows_isHopeful_b115 n r29 x1 x2 x3 x4 x5 x6 s0 σ = some q) : bfr MT (d + 4) M_X5_isHopeful 115 [some (.ref 59), some (.int x1), some (.int x2), some (.int x3), some (.int x4), some (.int x5), some (.int x6), o7, o8] [] [(.int s0)] (mkC ra rb 1 re rf rg σ) (some (.int q.1), mkC ra rb 1 re rf rg q.2) := by
  unfold cRows_isHopeful_b115 at h
  refine bfr_br 3 (pc1 := 142) (L1 := [some (.ref 59), some (.int x1), some (.int x2), some (.int x3), some (.int x4), some (.int x5), some (.int x6), o7, some (.int s0)]) (J1 := []) (st1 := []) (w1 := mkC ra rb 1 re rf rg σ) (pc2 := 122) (L2 := [some (.ref 59), some (.int x1), some (.int x2), some (.int x3), some (.int x4), some (.int x5), some (.int x6), o7, some (.int s0)]) (J2 := []) (st2 := []) (w2 := mkC ra rb 1 re rf rg σ) (fun _ _ => rfl) h (fun h => ?_) (fun h => ?_)
  · exact k_cRows_isHopeful_b142 n d _ q hr29 _ _ _ _ _ _ _ _ _ _ _ _ _ _ h
  · refine bfr_in (i := (x6 + ci_1)) (m := 1024) 6 (pc1 := 131) (L1 := [some (.ref 59), some (.int x1), some (.int x2), some (.int x3), some (.int x4), some (.int x5), some (.int x6), o7, some (.int s0)]) (J1 := []) (st1 := [(.int (sA σ 63 (x6 + ci_1)))]) (w1 := mkC ra rb 1 re rf rg σ) (fun _ _ => rfl) h (fun h => ?_)
    refine bfr_br 6 (pc1 := 140) (L1 := [some (.ref 59), some (.int x1), some (.int x2), some (.int x3), some (.int x4), some (.int x5), some (.int x6), o7, some (.int s0)]) (J1 := []) (st1 := []) (w1 := mkC ra rb 1 re rf rg σ) (pc2 := 142) (L2 := [some (.ref 59), some (.int x1), some (.int x2), some (.int x3), some (.int x4), some (.int x5), some (.int x6), o7, some (.int s0)]) (J2 := []) (st2 := []) (w2 := mkC ra rb 1 re rf rg σ) (fun _ _ => rfl) h (fun h => ?_) (fun h => ?_)
    · exact bfr_bz (mk := mkC ra rb 1 re rf rg) 2 (fun _ _ => rfl) h
    · exact k_cRows_isHopeful_b142 n d _ q hr29 _ _ _ _ _ _ _ _ _ _ _ _ _ _ h
set_option maxRecDepth 100000 in
theorem k_cRows_isHopeful_b96 (n d : Nat) (r29 : Int32 → Int32 → Int32 → Int32 → Int32 → bS → Option (Int32 × bS)) (q : (Int32 × bS)) (hr29 : ∀ (x1 : Int32) (x2 : Int32) (x3 : Int32) (x4 : Int32) (x5 : Int32) (o6 : Option Value) (o7 : Option Value) (o8 : Option Value) (ra : Nat) (rb : Nat) (re : Nat) (rf : Value) (rg : Value) (σ : bS), r29 x1 x2 x3 x4 x5 σ = some q → bfr MT (d + 4) M_X5_isHopeful 29 [some (.ref 59), some (.int x1), some (.int x2), some (.int x3), some (.int x4), some (.int x5), o6, o7, o8] [] [] (mkC ra rb 1 re rf rg σ) (some (.int q.1), mkC ra rb 1 re rf rg q.2)) (x1 : Int32) (x2 : Int32) (x3 : Int32) (x4 : Int32) (x5 : Int32) (x6 : Int32) (o7 : Option Value) (o8 : Option Value) (ra : Nat) (rb : Nat) (re : Nat) (rf : Value) (rg : Value) (σ : bS) (h : cRows_isHopeful_b96 n r29 x1 x2 x3 x4 x5 x6 σ = some q) : bfr MT (d + 4) M_X5_isHopeful 96 [some (.ref 59), some (.int x1), some (.int x2), some (.int x3), some (.int x4), some (.int x5), some (.int x6), o7, o8] [] [] (mkC ra rb 1 re rf rg σ) (some (.int q.1), mkC ra rb 1 re rf rg q.2) := by
  unfold cRows_isHopeful_b96 at h
  refine bfr_br 3 (pc1 := 114) (L1 := [some (.ref 59), some (.int x1), some (.int x2), some (.int x3), some (.int x4), some (.int x5), some (.int x6), o7, o8]) (J1 := []) (st1 := []) (w1 := mkC ra rb 1 re rf rg σ) (pc2 := 102) (L2 := [some (.ref 59), some (.int x1), some (.int x2), some (.int x3), some (.int x4), some (.int x5), some (.int x6), o7, o8]) (J2 := []) (st2 := []) (w2 := mkC ra rb 1 re rf rg σ) (fun _ _ => rfl) h (fun h => ?_) (fun h => ?_)
  · refine bfr_run 1 115 [some (.ref 59), some (.int x1), some (.int x2), some (.int x3), some (.int x4), some (.int x5), some (.int x6), o7, o8] [] [(.int ci_m1)] (mkC ra rb 1 re rf rg σ) (fun _ _ => rfl) ?_
    exact k_cRows_isHopeful_b115 n d _ q hr29 _ _ _ _ _ _ _ _ _ _ _ _ _ _ _ h
  · refine bfr_call 6 (d1 := d + 3) (M1 := M_X5_spotPaid) (vs := [(.ref 59), (.int x1), (.int x2), (.int x3), (.int x5)]) (w1 := mkC ra rb 1 re rf rg σ) (pc2 := 111) (L2 := [some (.ref 59), some (.int x1), some (.int x2), some (.int x3), some (.int x4), some (.int x5), some (.int x6), o7, o8]) (J2 := []) (rest := []) (fun a => some (.int a.1)) (fun a => mkC ra rb 1 re rf rg a.2) (fun _ _ => rfl) h (fun a ha => k_cRows_spotPaid n (d + 0) _ _ _ _ _ _ _ _ _ _ _ ha) (fun q1 _ h => ?_)
    refine bfr_run 1 115 [some (.ref 59), some (.int x1), some (.int x2), some (.int x3), some (.int x4), some (.int x5), some (.int x6), o7, o8] [] [(.int q1.1)] (mkC ra rb 1 re rf rg q1.2) (fun _ _ => rfl) ?_
    exact k_cRows_isHopeful_b115 n d _ q hr29 _ _ _ _ _ _ _ _ _ _ _ _ _ _ _ h
set_option maxRecDepth 100000 in
theorem k_cRows_isHopeful_b29 (n d : Nat) (q : (Int32 × bS)) : ∀ (k : Nat) (x1 : Int32) (x2 : Int32) (x3 : Int32) (x4 : Int32) (x5 : Int32) (o6 : Option Value) (o7 : Option Value) (o8 : Option Value) (ra : Nat) (rb : Nat) (re : Nat) (rf : Value) (rg : Value) (σ : bS), cRows_isHopeful_b29 n k x1 x2 x3 x4 x5 σ = some q → bfr MT (d + 4) M_X5_isHopeful 29 [some (.ref 59), some (.int x1), some (.int x2), some (.int x3), some (.int x4), some (.int x5), o6, o7, o8] [] [] (mkC ra rb 1 re rf rg σ) (some (.int q.1), mkC ra rb 1 re rf rg q.2) := by
  intro k
  induction k with
  | zero => intro x1 x2 x3 x4 x5 o6 o7 o8 ra rb re rf rg σ h; exact bno h
  | succ k ih =>
    intro x1 x2 x3 x4 x5 o6 o7 o8 ra rb re rf rg σ h
    unfold cRows_isHopeful_b29 at h
    refine bfr_br 3 (pc1 := 148) (L1 := [some (.ref 59), some (.int x1), some (.int x2), some (.int x3), some (.int x4), some (.int x5), o6, o7, o8]) (J1 := []) (st1 := []) (w1 := mkC ra rb 1 re rf rg σ) (pc2 := 36) (L2 := [some (.ref 59), some (.int x1), some (.int x2), some (.int x3), some (.int x4), some (.int x5), o6, o7, o8]) (J2 := []) (st2 := []) (w2 := mkC ra rb 1 re rf rg σ) (fun _ _ => rfl) h (fun h => ?_) (fun h => ?_)
    · exact bfr_bz (mk := mkC ra rb 1 re rf rg) 2 (fun _ _ => rfl) h
    · refine bfr_call 4 (d1 := d + 3) (M1 := M_X5_isLeft) (vs := [(.ref 59), (.int x5), (.int x1)]) (w1 := mkC ra rb 1 re rf rg σ) (pc2 := 43) (L2 := [some (.ref 59), some (.int x1), some (.int x2), some (.int x3), some (.int x4), some (.int x5), o6, o7, o8]) (J2 := []) (rest := []) (fun a => some (.int a.1)) (fun a => mkC ra rb 1 re rf rg a.2) (fun _ _ => rfl) h (fun a ha => k_cRows_isLeft n (d + 3) _ _ _ _ _ _ _ _ _ _ ha) (fun q2 _ h => ?_)
      refine bfr_br 1 (pc1 := 46) (L1 := [some (.ref 59), some (.int x1), some (.int x2), some (.int x3), some (.int x4), some (.int x5), o6, o7, o8]) (J1 := []) (st1 := []) (w1 := mkC ra rb 1 re rf rg q2.2) (pc2 := 49) (L2 := [some (.ref 59), some (.int x1), some (.int x2), some (.int x3), some (.int x4), some (.int x5), o6, o7, o8]) (J2 := []) (st2 := []) (w2 := mkC ra rb 1 re rf rg q2.2) (fun _ _ => rfl) h (fun h => ?_) (fun h => ?_)
      · refine bfr_run 1 142 [some (.ref 59), some (.int x1), some (.int x2), some (.int x3), some (.int x4), some (.int x5), o6, o7, o8] [] [] (mkC ra rb 1 re rf rg q2.2) (fun _ _ => rfl) ?_
        exact k_cRows_isHopeful_b142 n d _ q (ih) _ _ _ _ _ _ _ _ _ _ _ _ _ _ h
      · refine bfr_run 6 57 [some (.ref 59), some (.int x1), some (.int x2), some (.int x3), some (.int x4), some (.int x5), o6, o7, o8] [] [(.int cb_8), (.int (x1 ||| (ci_1 <<< (x5 &&& 31))))] (mkC ra rb 1 re rf rg q2.2) (fun _ _ => rfl) ?_
        refine bfr_run 6 64 [some (.ref 59), some (.int x1), some (.int x2), some (.int x3), some (.int x4), some (.int x5), some (.int (((x1 ||| (ci_1 <<< (x5 &&& 31))) * cb_8) + x3)), o7, o8] [] [(.int x1), (.ref 59)] (mkC ra rb 1 re rf rg q2.2) (fun _ _ => rfl) ?_
        refine bfr_call 4 (d1 := d + 3) (M1 := M_X5_spotFree) (vs := [(.ref 59), (.int x1), (.int x2), (.int x3), (.int x5)]) (w1 := mkC ra rb 1 re rf rg q2.2) (pc2 := 71) (L2 := [some (.ref 59), some (.int x1), some (.int x2), some (.int x3), some (.int x4), some (.int x5), some (.int (((x1 ||| (ci_1 <<< (x5 &&& 31))) * cb_8) + x3)), o7, o8]) (J2 := []) (rest := []) (fun a => some (.int a.1)) (fun a => mkC ra rb 1 re rf rg a.2) (fun _ _ => rfl) h (fun a ha => k_cRows_spotFree n (d + 0) _ _ _ _ _ _ _ _ _ _ _ ha) (fun q3 _ h => ?_)
        refine bfr_br 3 (pc1 := 96) (L1 := [some (.ref 59), some (.int x1), some (.int x2), some (.int x3), some (.int x4), some (.int x5), some (.int (((x1 ||| (ci_1 <<< (x5 &&& 31))) * cb_8) + x3)), some (.int q3.1), o8]) (J1 := []) (st1 := []) (w1 := mkC ra rb 1 re rf rg q3.2) (pc2 := 78) (L2 := [some (.ref 59), some (.int x1), some (.int x2), some (.int x3), some (.int x4), some (.int x5), some (.int (((x1 ||| (ci_1 <<< (x5 &&& 31))) * cb_8) + x3)), some (.int q3.1), o8]) (J2 := []) (st2 := []) (w2 := mkC ra rb 1 re rf rg q3.2) (fun _ _ => rfl) h (fun h => ?_) (fun h => ?_)
        · exact k_cRows_isHopeful_b96 n d _ q (ih) _ _ _ _ _ _ _ _ _ _ _ _ _ _ h
        · refine bfr_in (i := (((x1 ||| (ci_1 <<< (x5 &&& 31))) * cb_8) + x3)) (m := 1024) 4 (pc1 := 85) (L1 := [some (.ref 59), some (.int x1), some (.int x2), some (.int x3), some (.int x4), some (.int x5), some (.int (((x1 ||| (ci_1 <<< (x5 &&& 31))) * cb_8) + x3)), some (.int q3.1), o8]) (J1 := []) (st1 := [(.int (sA q3.2 63 (((x1 ||| (ci_1 <<< (x5 &&& 31))) * cb_8) + x3)))]) (w1 := mkC ra rb 1 re rf rg q3.2) (fun _ _ => rfl) h (fun h => ?_)
          refine bfr_br 6 (pc1 := 94) (L1 := [some (.ref 59), some (.int x1), some (.int x2), some (.int x3), some (.int x4), some (.int x5), some (.int (((x1 ||| (ci_1 <<< (x5 &&& 31))) * cb_8) + x3)), some (.int q3.1), o8]) (J1 := []) (st1 := []) (w1 := mkC ra rb 1 re rf rg q3.2) (pc2 := 96) (L2 := [some (.ref 59), some (.int x1), some (.int x2), some (.int x3), some (.int x4), some (.int x5), some (.int (((x1 ||| (ci_1 <<< (x5 &&& 31))) * cb_8) + x3)), some (.int q3.1), o8]) (J2 := []) (st2 := []) (w2 := mkC ra rb 1 re rf rg q3.2) (fun _ _ => rfl) h (fun h => ?_) (fun h => ?_)
          · exact bfr_bz (mk := mkC ra rb 1 re rf rg) 2 (fun _ _ => rfl) h
          · exact k_cRows_isHopeful_b96 n d _ q (ih) _ _ _ _ _ _ _ _ _ _ _ _ _ _ h
set_option maxRecDepth 100000 in
theorem k_cRows_isHopeful_b25 (n d : Nat) (q : (Int32 × bS)) (s0 : Int32) (o0 : Option Value) (o1 : Option Value) (o2 : Option Value) (o3 : Option Value) (o4 : Option Value) (o5 : Option Value) (o6 : Option Value) (o7 : Option Value) (o8 : Option Value) (ra : Nat) (rb : Nat) (re : Nat) (rf : Value) (rg : Value) (σ : bS) (h : cRows_isHopeful_b25 n s0 σ = some q) : bfr MT (d + 4) M_X5_isHopeful 25 [o0, o1, o2, o3, o4, o5, o6, o7, o8] [] [(.int s0)] (mkC ra rb 1 re rf rg σ) (some (.int q.1), mkC ra rb 1 re rf rg q.2) := by
  unfold cRows_isHopeful_b25 at h
  exact bfr_bz (mk := mkC ra rb 1 re rf rg) 1 (fun _ _ => rfl) h
set_option maxRecDepth 100000 in
theorem k_cRows_isHopeful_b24 (n d : Nat) (q : (Int32 × bS)) (o0 : Option Value) (o1 : Option Value) (o2 : Option Value) (o3 : Option Value) (o4 : Option Value) (o5 : Option Value) (o6 : Option Value) (o7 : Option Value) (o8 : Option Value) (ra : Nat) (rb : Nat) (re : Nat) (rf : Value) (rg : Value) (σ : bS) (h : cRows_isHopeful_b24 n σ = some q) : bfr MT (d + 4) M_X5_isHopeful 24 [o0, o1, o2, o3, o4, o5, o6, o7, o8] [] [] (mkC ra rb 1 re rf rg σ) (some (.int q.1), mkC ra rb 1 re rf rg q.2) := by
  unfold cRows_isHopeful_b24 at h
  refine bfr_run 1 25 [o0, o1, o2, o3, o4, o5, o6, o7, o8] [] [(.int ci_0)] (mkC ra rb 1 re rf rg σ) (fun _ _ => rfl) ?_
  exact k_cRows_isHopeful_b25 n d q _ _ _ _ _ _ _ _ _ _ _ _ _ _ _ _ h
set_option maxRecDepth 100000 in
theorem k_cRows_isHopeful (n d : Nat) (q : (Int32 × bS)) (x1 : Int32) (x2 : Int32) (x3 : Int32) (x4 : Int32) (ra : Nat) (rb : Nat) (re : Nat) (rf : Value) (rg : Value) (σ : bS) (h : cRows_isHopeful n x1 x2 x3 x4 σ = some q) : bfr MT (d + 4) M_X5_isHopeful 0 [some (.ref 59), some (.int x1), some (.int x2), some (.int x3), some (.int x4), none, none, none, none] [] [] (mkC ra rb 1 re rf rg σ) (some (.int q.1), mkC ra rb 1 re rf rg q.2) := by
  unfold cRows_isHopeful at h
  refine bfr_br 4 (pc1 := 8) (L1 := [some (.ref 59), some (.int x1), some (.int x2), some (.int x3), some (.int x4), none, none, none, none]) (J1 := []) (st1 := []) (w1 := mkC ra rb 1 re rf rg σ) (pc2 := 26) (L2 := [some (.ref 59), some (.int x1), some (.int x2), some (.int x3), some (.int x4), none, none, none, none]) (J2 := []) (st2 := []) (w2 := mkC ra rb 1 re rf rg σ) (fun _ _ => rfl) h (fun h => ?_) (fun h => ?_)
  · refine bfr_br 3 (pc1 := 14) (L1 := [some (.ref 59), some (.int x1), some (.int x2), some (.int x3), some (.int x4), none, none, none, none]) (J1 := []) (st1 := []) (w1 := mkC ra rb 1 re rf rg σ) (pc2 := 24) (L2 := [some (.ref 59), some (.int x1), some (.int x2), some (.int x3), some (.int x4), none, none, none, none]) (J2 := []) (st2 := []) (w2 := mkC ra rb 1 re rf rg σ) (fun _ _ => rfl) h (fun h => ?_) (fun h => ?_)
    · refine bfr_chk 3 (pc1 := 17) (L1 := [some (.ref 59), some (.int x1), some (.int x2), some (.int x3), some (.int x4), none, none, none, none]) (J1 := []) (st1 := [(.int (brem x2 ci_2))]) (w1 := mkC ra rb 1 re rf rg σ) (fun _ _ => rfl) h (fun h => ?_)
      refine bfr_br 1 (pc1 := 20) (L1 := [some (.ref 59), some (.int x1), some (.int x2), some (.int x3), some (.int x4), none, none, none, none]) (J1 := []) (st1 := []) (w1 := mkC ra rb 1 re rf rg σ) (pc2 := 24) (L2 := [some (.ref 59), some (.int x1), some (.int x2), some (.int x3), some (.int x4), none, none, none, none]) (J2 := []) (st2 := []) (w2 := mkC ra rb 1 re rf rg σ) (fun _ _ => rfl) h (fun h => ?_) (fun h => ?_)
      · refine bfr_run 2 25 [some (.ref 59), some (.int x1), some (.int x2), some (.int x3), some (.int x4), none, none, none, none] [] [(.int ci_1)] (mkC ra rb 1 re rf rg σ) (fun _ _ => rfl) ?_
        exact k_cRows_isHopeful_b25 n d q _ _ _ _ _ _ _ _ _ _ _ _ _ _ _ _ h
      · exact k_cRows_isHopeful_b24 n d q _ _ _ _ _ _ _ _ _ _ _ _ _ _ _ h
    · exact k_cRows_isHopeful_b24 n d q _ _ _ _ _ _ _ _ _ _ _ _ _ _ _ h
  · refine bfr_run 2 29 [some (.ref 59), some (.int x1), some (.int x2), some (.int x3), some (.int x4), some (.int ci_0), none, none, none] [] [] (mkC ra rb 1 re rf rg σ) (fun _ _ => rfl) ?_
    exact k_cRows_isHopeful_b29 n d q _ _ _ _ _ _ _ _ _ _ _ _ _ _ _ h
set_option maxRecDepth 100000 in
theorem k_cRows_findHopeful_b121 (n d : Nat) (r5 : Int32 → Int32 → bS → Option bS) (q : bS) (hr5 : ∀ (x1 : Int32) (x2 : Int32) (o3 : Option Value) (o4 : Option Value) (o5 : Option Value) (o6 : Option Value) (ra : Nat) (rb : Nat) (re : Nat) (rf : Value) (rg : Value) (σ : bS), r5 x1 x2 σ = some q → bfr MT (d + 5) M_X5_findHopeful 5 [some (.ref 59), some (.int x1), some (.int x2), o3, o4, o5, o6] [] [] (mkC ra rb 1 re rf rg σ) (none, mkC ra rb 1 re rf rg q)) (x1 : Int32) (x2 : Int32) (o3 : Option Value) (o4 : Option Value) (o5 : Option Value) (o6 : Option Value) (ra : Nat) (rb : Nat) (re : Nat) (rf : Value) (rg : Value) (σ : bS) (h : cRows_findHopeful_b121 n r5 x1 x2 σ = some q) : bfr MT (d + 5) M_X5_findHopeful 121 [some (.ref 59), some (.int x1), some (.int x2), o3, o4, o5, o6] [] [] (mkC ra rb 1 re rf rg σ) (none, mkC ra rb 1 re rf rg q) := by
  unfold cRows_findHopeful_b121 at h
  refine bfr_run 1 5 [some (.ref 59), some (.int x1), some (.int x2), o3, o4, o5, o6] [] [] (mkC ra rb 1 re rf rg σ) (fun _ _ => rfl) ?_
  exact hr5 _ _ _ _ _ _ _ _ _ _ _ _ h
set_option maxRecDepth 100000 in
theorem k_cRows_findHopeful_b118 (n d : Nat) (r5 : Int32 → Int32 → bS → Option bS) (q : bS) (hr5 : ∀ (x1 : Int32) (x2 : Int32) (o3 : Option Value) (o4 : Option Value) (o5 : Option Value) (o6 : Option Value) (ra : Nat) (rb : Nat) (re : Nat) (rf : Value) (rg : Value) (σ : bS), r5 x1 x2 σ = some q → bfr MT (d + 5) M_X5_findHopeful 5 [some (.ref 59), some (.int x1), some (.int x2), o3, o4, o5, o6] [] [] (mkC ra rb 1 re rf rg σ) (none, mkC ra rb 1 re rf rg q)) (x1 : Int32) (x2 : Int32) (o3 : Option Value) (o4 : Option Value) (o5 : Option Value) (o6 : Option Value) (ra : Nat) (rb : Nat) (re : Nat) (rf : Value) (rg : Value) (σ : bS) (h : cRows_findHopeful_b118 n r5 x1 x2 σ = some q) : bfr MT (d + 5) M_X5_findHopeful 118 [some (.ref 59), some (.int x1), some (.int x2), o3, o4, o5, o6] [] [] (mkC ra rb 1 re rf rg σ) (none, mkC ra rb 1 re rf rg q) := by
  unfold cRows_findHopeful_b118 at h
  refine bfr_run 1 121 [some (.ref 59), some (.int x1), some (.int (x2 + ci_m1)), o3, o4, o5, o6] [] [] (mkC ra rb 1 re rf rg σ) (fun _ _ => rfl) ?_
  exact k_cRows_findHopeful_b121 n d _ q hr5 _ _ _ _ _ _ _ _ _ _ _ _ h
set_option maxRecDepth 100000 in
theorem k_cRows_findHopeful_b115 (n d : Nat) (r5 : Int32 → Int32 → bS → Option bS) (r11 : Int32 → Int32 → Int32 → bS → Option bS) (q : bS) (hr5 : ∀ (x1 : Int32) (x2 : Int32) (o3 : Option Value) (o4 : Option Value) (o5 : Option Value) (o6 : Option Value) (ra : Nat) (rb : Nat) (re : Nat) (rf : Value) (rg : Value) (σ : bS), r5 x1 x2 σ = some q → bfr MT (d + 5) M_X5_findHopeful 5 [some (.ref 59), some (.int x1), some (.int x2), o3, o4, o5, o6] [] [] (mkC ra rb 1 re rf rg σ) (none, mkC ra rb 1 re rf rg q)) (hr11 : ∀ (x1 : Int32) (x2 : Int32) (x3 : Int32) (o4 : Option Value) (o5 : Option Value) (o6 : Option Value) (ra : Nat) (rb : Nat) (re : Nat) (rf : Value) (rg : Value) (σ : bS), r11 x1 x2 x3 σ = some q → bfr MT (d + 5) M_X5_findHopeful 11 [some (.ref 59), some (.int x1), some (.int x2), some (.int x3), o4, o5, o6] [] [] (mkC ra rb 1 re rf rg σ) (none, mkC ra rb 1 re rf rg q)) (x1 : Int32) (x2 : Int32) (x3 : Int32) (o4 : Option Value) (o5 : Option Value) (o6 : Option Value) (ra : Nat) (rb : Nat) (re : Nat) (rf : Value) (rg : Value) (σ : bS) (h : cRows_findHopeful_b115 n r5 r11 x1 x2 x3 σ = some q) : bfr MT (d + 5) M_X5_findHopeful 115 [some (.ref 59), some (.int x1), some (.int x2), some (.int x3), o4, o5, o6] [] [] (mkC ra rb 1 re rf rg σ) (none, mkC ra rb 1 re rf rg q) := by
  unfold cRows_findHopeful_b115 at h
  refine bfr_run 1 11 [some (.ref 59), some (.int x1), some (.int x2), some (.int x3), o4, o5, o6] [] [] (mkC ra rb 1 re rf rg σ) (fun _ _ => rfl) ?_
  exact hr11 _ _ _ _ _ _ _ _ _ _ _ _ h
set_option maxRecDepth 100000 in
theorem k_cRows_findHopeful_b90 (n d : Nat) (r5 : Int32 → Int32 → bS → Option bS) (r11 : Int32 → Int32 → Int32 → bS → Option bS) (r29 : Int32 → Int32 → Int32 → Int32 → Int32 → bS → Option bS) (q : bS) (hr5 : ∀ (x1 : Int32) (x2 : Int32) (o3 : Option Value) (o4 : Option Value) (o5 : Option Value) (o6 : Option Value) (ra : Nat) (rb : Nat) (re : Nat) (rf : Value) (rg : Value) (σ : bS), r5 x1 x2 σ = some q → bfr MT (d + 5) M_X5_findHopeful 5 [some (.ref 59), some (.int x1), some (.int x2), o3, o4, o5, o6] [] [] (mkC ra rb 1 re rf rg σ) (none, mkC ra rb 1 re rf rg q)) (hr11 : ∀ (x1 : Int32) (x2 : Int32) (x3 : Int32) (o4 : Option Value) (o5 : Option Value) (o6 : Option Value) (ra : Nat) (rb : Nat) (re : Nat) (rf : Value) (rg : Value) (σ : bS), r11 x1 x2 x3 σ = some q → bfr MT (d + 5) M_X5_findHopeful 11 [some (.ref 59), some (.int x1), some (.int x2), some (.int x3), o4, o5, o6] [] [] (mkC ra rb 1 re rf rg σ) (none, mkC ra rb 1 re rf rg q)) (hr29 : ∀ (x1 : Int32) (x2 : Int32) (x3 : Int32) (x4 : Int32) (x5 : Int32) (o6 : Option Value) (ra : Nat) (rb : Nat) (re : Nat) (rf : Value) (rg : Value) (σ : bS), r29 x1 x2 x3 x4 x5 σ = some q → bfr MT (d + 5) M_X5_findHopeful 29 [some (.ref 59), some (.int x1), some (.int x2), some (.int x3), some (.int x4), some (.int x5), o6] [] [] (mkC ra rb 1 re rf rg σ) (none, mkC ra rb 1 re rf rg q)) (x1 : Int32) (x2 : Int32) (x3 : Int32) (x5 : Int32) (s0 : Int32) (s1 : Int32) (o4 : Option Value) (o6 : Option Value) (ra : Nat) (rb : Nat) (re : Nat) (rf : Value) (rg : Value) (σ : bS) (h : cRows_findHopeful_b90 n r5 r11 r29 x1 x2 x3 x5 s0 s1 σ = some q) : bfr MT (d + 5) M_X5_findHopeful 90 [some (.ref 59), some (.int x1), some (.int x2), some (.int x3), o4, some (.int x5), o6] [] [(.int s1), (.int s0)] (mkC ra rb 1 re rf rg σ) (none, mkC ra rb 1 re rf rg q) := by
  unfold cRows_findHopeful_b90 at h
  refine bfr_run 3 96 [some (.ref 59), some (.int x1), some (.int x2), some (.int x3), some (.int (s0 ||| s1)), some (.int (x5 + ci_1)), o6] [] [] (mkC ra rb 1 re rf rg σ) (fun _ _ => rfl) ?_
  refine bfr_run 1 29 [some (.ref 59), some (.int x1), some (.int x2), some (.int x3), some (.int (s0 ||| s1)), some (.int (x5 + ci_1)), o6] [] [] (mkC ra rb 1 re rf rg σ) (fun _ _ => rfl) ?_
  exact hr29 _ _ _ _ _ _ _ _ _ _ _ _ h
set_option maxRecDepth 100000 in
theorem k_cRows_findHopeful_b89 (n d : Nat) (r5 : Int32 → Int32 → bS → Option bS) (r11 : Int32 → Int32 → Int32 → bS → Option bS) (r29 : Int32 → Int32 → Int32 → Int32 → Int32 → bS → Option bS) (q : bS) (hr5 : ∀ (x1 : Int32) (x2 : Int32) (o3 : Option Value) (o4 : Option Value) (o5 : Option Value) (o6 : Option Value) (ra : Nat) (rb : Nat) (re : Nat) (rf : Value) (rg : Value) (σ : bS), r5 x1 x2 σ = some q → bfr MT (d + 5) M_X5_findHopeful 5 [some (.ref 59), some (.int x1), some (.int x2), o3, o4, o5, o6] [] [] (mkC ra rb 1 re rf rg σ) (none, mkC ra rb 1 re rf rg q)) (hr11 : ∀ (x1 : Int32) (x2 : Int32) (x3 : Int32) (o4 : Option Value) (o5 : Option Value) (o6 : Option Value) (ra : Nat) (rb : Nat) (re : Nat) (rf : Value) (rg : Value) (σ : bS), r11 x1 x2 x3 σ = some q → bfr MT (d + 5) M_X5_findHopeful 11 [some (.ref 59), some (.int x1), some (.int x2), some (.int x3), o4, o5, o6] [] [] (mkC ra rb 1 re rf rg σ) (none, mkC ra rb 1 re rf rg q)) (hr29 : ∀ (x1 : Int32) (x2 : Int32) (x3 : Int32) (x4 : Int32) (x5 : Int32) (o6 : Option Value) (ra : Nat) (rb : Nat) (re : Nat) (rf : Value) (rg : Value) (σ : bS), r29 x1 x2 x3 x4 x5 σ = some q → bfr MT (d + 5) M_X5_findHopeful 29 [some (.ref 59), some (.int x1), some (.int x2), some (.int x3), some (.int x4), some (.int x5), o6] [] [] (mkC ra rb 1 re rf rg σ) (none, mkC ra rb 1 re rf rg q)) (x1 : Int32) (x2 : Int32) (x3 : Int32) (x5 : Int32) (s0 : Int32) (o4 : Option Value) (o6 : Option Value) (ra : Nat) (rb : Nat) (re : Nat) (rf : Value) (rg : Value) (σ : bS) (h : cRows_findHopeful_b89 n r5 r11 r29 x1 x2 x3 x5 s0 σ = some q) : bfr MT (d + 5) M_X5_findHopeful 89 [some (.ref 59), some (.int x1), some (.int x2), some (.int x3), o4, some (.int x5), o6] [] [(.int s0)] (mkC ra rb 1 re rf rg σ) (none, mkC ra rb 1 re rf rg q) := by
  unfold cRows_findHopeful_b89 at h
  refine bfr_run 1 90 [some (.ref 59), some (.int x1), some (.int x2), some (.int x3), o4, some (.int x5), o6] [] [(.int ci_0), (.int s0)] (mkC ra rb 1 re rf rg σ) (fun _ _ => rfl) ?_
  exact k_cRows_findHopeful_b90 n d _ _ _ q hr5 hr11 hr29 _ _ _ _ _ _ _ _ _ _ _ _ _ _ h
set_option maxRecDepth 100000 in
theorem k_cRows_findHopeful_b61 (n d : Nat) (r5 : Int32 → Int32 → bS → Option bS) (r11 : Int32 → Int32 → Int32 → bS → Option bS) (r29 : Int32 → Int32 → Int32 → Int32 → Int32 → bS → Option bS) (q : bS) (hr5 : ∀ (x1 : Int32) (x2 : Int32) (o3 : Option Value) (o4 : Option Value) (o5 : Option Value) (o6 : Option Value) (ra : Nat) (rb : Nat) (re : Nat) (rf : Value) (rg : Value) (σ : bS), r5 x1 x2 σ = some q → bfr MT (d + 5) M_X5_findHopeful 5 [some (.ref 59), some (.int x1), some (.int x2), o3, o4, o5, o6] [] [] (mkC ra rb 1 re rf rg σ) (none, mkC ra rb 1 re rf rg q)) (hr11 : ∀ (x1 : Int32) (x2 : Int32) (x3 : Int32) (o4 : Option Value) (o5 : Option Value) (o6 : Option Value) (ra : Nat) (rb : Nat) (re : Nat) (rf : Value) (rg : Value) (σ : bS), r11 x1 x2 x3 σ = some q → bfr MT (d + 5) M_X5_findHopeful 11 [some (.ref 59), some (.int x1), some (.int x2), some (.int x3), o4, o5, o6] [] [] (mkC ra rb 1 re rf rg σ) (none, mkC ra rb 1 re rf rg q)) (hr29 : ∀ (x1 : Int32) (x2 : Int32) (x3 : Int32) (x4 : Int32) (x5 : Int32) (o6 : Option Value) (ra : Nat) (rb : Nat) (re : Nat) (rf : Value) (rg : Value) (σ : bS), r29 x1 x2 x3 x4 x5 σ = some q → bfr MT (d + 5) M_X5_findHopeful 29 [some (.ref 59), some (.int x1), some (.int x2), some (.int x3), some (.int x4), some (.int x5), o6] [] [] (mkC ra rb 1 re rf rg σ) (none, mkC ra rb 1 re rf rg q)) (x1 : Int32) (x2 : Int32) (x3 : Int32) (x4 : Int32) (x5 : Int32) (s0 : Int32) (o6 : Option Value) (ra : Nat) (rb : Nat) (re : Nat) (rf : Value) (rg : Value) (σ : bS) (h : cRows_findHopeful_b61 n r5 r11 r29 x1 x2 x3 x4 x5 s0 σ = some q) : bfr MT (d + 5) M_X5_findHopeful 61 [some (.ref 59), some (.int x1), some (.int x2), some (.int x3), some (.int x4), some (.int x5), o6] [] [(.int s0)] (mkC ra rb 1 re rf rg σ) (none, mkC ra rb 1 re rf rg q) := by
  unfold cRows_findHopeful_b61 at h
  refine bfr_br 4 (pc1 := 89) (L1 := [some (.ref 59), some (.int x1), some (.int x2), some (.int x3), some (.int x4), some (.int x5), some (.int s0)]) (J1 := []) (st1 := [(.int x4)]) (w1 := mkC ra rb 1 re rf rg σ) (pc2 := 70) (L2 := [some (.ref 59), some (.int x1), some (.int x2), some (.int x3), some (.int x4), some (.int x5), some (.int s0)]) (J2 := []) (st2 := [(.int x4)]) (w2 := mkC ra rb 1 re rf rg σ) (fun _ _ => rfl) h (fun h => ?_) (fun h => ?_)
  · exact k_cRows_findHopeful_b89 n d _ _ _ q hr5 hr11 hr29 _ _ _ _ _ _ _ _ _ _ _ _ _ h
  · refine bfr_call 6 (d1 := d + 4) (M1 := M_X5_isHopeful) (vs := [(.ref 59), (.int x2), (.int x5), (.int x3), (.int x1)]) (w1 := mkC ra rb 1 re rf rg σ) (pc2 := 79) (L2 := [some (.ref 59), some (.int x1), some (.int x2), some (.int x3), some (.int x4), some (.int x5), some (.int s0)]) (J2 := []) (rest := [(.int x4)]) (fun a => some (.int a.1)) (fun a => mkC ra rb 1 re rf rg a.2) (fun _ _ => rfl) h (fun a ha => k_cRows_isHopeful n (d + 0) _ _ _ _ _ _ _ _ _ _ _ ha) (fun q1 _ h => ?_)
    refine bfr_br 1 (pc1 := 89) (L1 := [some (.ref 59), some (.int x1), some (.int x2), some (.int x3), some (.int x4), some (.int x5), some (.int s0)]) (J1 := []) (st1 := [(.int x4)]) (w1 := mkC ra rb 1 re rf rg q1.2) (pc2 := 82) (L2 := [some (.ref 59), some (.int x1), some (.int x2), some (.int x3), some (.int x4), some (.int x5), some (.int s0)]) (J2 := []) (st2 := [(.int x4)]) (w2 := mkC ra rb 1 re rf rg q1.2) (fun _ _ => rfl) h (fun h => ?_) (fun h => ?_)
    · exact k_cRows_findHopeful_b89 n d _ _ _ q hr5 hr11 hr29 _ _ _ _ _ _ _ _ _ _ _ _ _ h
    · refine bfr_run 4 90 [some (.ref 59), some (.int x1), some (.int x2), some (.int x3), some (.int x4), some (.int x5), some (.int s0)] [] [(.int (ci_1 <<< (x5 &&& 31))), (.int x4)] (mkC ra rb 1 re rf rg q1.2) (fun _ _ => rfl) ?_
      exact k_cRows_findHopeful_b90 n d _ _ _ q hr5 hr11 hr29 _ _ _ _ _ _ _ _ _ _ _ _ _ _ h
set_option maxRecDepth 100000 in
theorem k_cRows_findHopeful_b29 (n d : Nat) (r5 : Int32 → Int32 → bS → Option bS) (r11 : Int32 → Int32 → Int32 → bS → Option bS) (q : bS) (hr5 : ∀ (x1 : Int32) (x2 : Int32) (o3 : Option Value) (o4 : Option Value) (o5 : Option Value) (o6 : Option Value) (ra : Nat) (rb : Nat) (re : Nat) (rf : Value) (rg : Value) (σ : bS), r5 x1 x2 σ = some q → bfr MT (d + 5) M_X5_findHopeful 5 [some (.ref 59), some (.int x1), some (.int x2), o3, o4, o5, o6] [] [] (mkC ra rb 1 re rf rg σ) (none, mkC ra rb 1 re rf rg q)) (hr11 : ∀ (x1 : Int32) (x2 : Int32) (x3 : Int32) (o4 : Option Value) (o5 : Option Value) (o6 : Option Value) (ra : Nat) (rb : Nat) (re : Nat) (rf : Value) (rg : Value) (σ : bS), r11 x1 x2 x3 σ = some q → bfr MT (d + 5) M_X5_findHopeful 11 [some (.ref 59), some (.int x1), some (.int x2), some (.int x3), o4, o5, o6] [] [] (mkC ra rb 1 re rf rg σ) (none, mkC ra rb 1 re rf rg q)) : ∀ (k : Nat) (x1 : Int32) (x2 : Int32) (x3 : Int32) (x4 : Int32) (x5 : Int32) (o6 : Option Value) (ra : Nat) (rb : Nat) (re : Nat) (rf : Value) (rg : Value) (σ : bS), cRows_findHopeful_b29 n r5 r11 k x1 x2 x3 x4 x5 σ = some q → bfr MT (d + 5) M_X5_findHopeful 29 [some (.ref 59), some (.int x1), some (.int x2), some (.int x3), some (.int x4), some (.int x5), o6] [] [] (mkC ra rb 1 re rf rg σ) (none, mkC ra rb 1 re rf rg q) := by
  intro k
  induction k with
  | zero => intro x1 x2 x3 x4 x5 o6 ra rb re rf rg σ h; exact bno h
  | succ k ih =>
    intro x1 x2 x3 x4 x5 o6 ra rb re rf rg σ h
    unfold cRows_findHopeful_b29 at h
    refine bfr_br 3 (pc1 := 99) (L1 := [some (.ref 59), some (.int x1), some (.int x2), some (.int x3), some (.int x4), some (.int x5), o6]) (J1 := []) (st1 := []) (w1 := mkC ra rb 1 re rf rg σ) (pc2 := 36) (L2 := [some (.ref 59), some (.int x1), some (.int x2), some (.int x3), some (.int x4), some (.int x5), o6]) (J2 := []) (st2 := []) (w2 := mkC ra rb 1 re rf rg σ) (fun _ _ => rfl) h (fun h => ?_) (fun h => ?_)
    · refine bfr_run 6 108 [some (.ref 59), some (.int x1), some (.int x2), some (.int x3), some (.int x4), some (.int x5), o6] [] [(.int x3), (.int (x2 * cb_8)), (.ref 63)] (mkC ra rb 1 re rf rg σ) (fun _ _ => rfl) ?_
      refine bfr_in (i := ((x2 * cb_8) + x3)) (m := 1024) 3 (pc1 := 112) (L1 := [some (.ref 59), some (.int x1), some (.int x2), some (.int x3), some (.int x4), some (.int x5), o6]) (J1 := []) (st1 := []) (w1 := ((mkC ra rb 1 re rf rg σ).set 63 (.inl (0, 1024, upd (σ.2.1 63) (((x2 * cb_8) + x3)).toNatClampNeg x4)))) (fun _ _ => rfl) h (fun h => ?_)
      rw [mkC_A63]
      refine bfr_run 1 115 [some (.ref 59), some (.int x1), some (.int x2), some (.int (x3 + ci_m1)), some (.int x4), some (.int x5), o6] [] [] (mkC ra rb 1 re rf rg (uA σ 63 ((x2 * cb_8) + x3) x4)) (fun _ _ => rfl) ?_
      exact k_cRows_findHopeful_b115 n d _ _ q hr5 hr11 _ _ _ _ _ _ _ _ _ _ _ _ h
    · refine bfr_run 6 45 [some (.ref 59), some (.int x1), some (.int x2), some (.int x3), some (.int x4), some (.int x5), o6] [] [(.int x3), (.int (x2 * cb_8)), (.ref 62)] (mkC ra rb 1 re rf rg σ) (fun _ _ => rfl) ?_
      refine bfr_in (i := ((x2 * cb_8) + x3)) (m := 1024) 2 (pc1 := 47) (L1 := [some (.ref 59), some (.int x1), some (.int x2), some (.int x3), some (.int x4), some (.int x5), o6]) (J1 := []) (st1 := [(.int (sA σ 62 ((x2 * cb_8) + x3)))]) (w1 := mkC ra rb 1 re rf rg σ) (fun _ _ => rfl) h (fun h => ?_)
      refine bfr_br 6 (pc1 := 56) (L1 := [some (.ref 59), some (.int x1), some (.int x2), some (.int x3), some (.int x4), some (.int x5), o6]) (J1 := []) (st1 := []) (w1 := mkC ra rb 1 re rf rg σ) (pc2 := 60) (L2 := [some (.ref 59), some (.int x1), some (.int x2), some (.int x3), some (.int x4), some (.int x5), o6]) (J2 := []) (st2 := []) (w2 := mkC ra rb 1 re rf rg σ) (fun _ _ => rfl) h (fun h => ?_) (fun h => ?_)
      · refine bfr_run 2 61 [some (.ref 59), some (.int x1), some (.int x2), some (.int x3), some (.int x4), some (.int x5), o6] [] [(.int ci_1)] (mkC ra rb 1 re rf rg σ) (fun _ _ => rfl) ?_
        exact k_cRows_findHopeful_b61 n d _ _ _ q hr5 hr11 (ih) _ _ _ _ _ _ _ _ _ _ _ _ _ h
      · refine bfr_run 1 61 [some (.ref 59), some (.int x1), some (.int x2), some (.int x3), some (.int x4), some (.int x5), o6] [] [(.int ci_0)] (mkC ra rb 1 re rf rg σ) (fun _ _ => rfl) ?_
        exact k_cRows_findHopeful_b61 n d _ _ _ q hr5 hr11 (ih) _ _ _ _ _ _ _ _ _ _ _ _ _ h
set_option maxRecDepth 100000 in
theorem k_cRows_findHopeful_b11 (n d : Nat) (r5 : Int32 → Int32 → bS → Option bS) (q : bS) (hr5 : ∀ (x1 : Int32) (x2 : Int32) (o3 : Option Value) (o4 : Option Value) (o5 : Option Value) (o6 : Option Value) (ra : Nat) (rb : Nat) (re : Nat) (rf : Value) (rg : Value) (σ : bS), r5 x1 x2 σ = some q → bfr MT (d + 5) M_X5_findHopeful 5 [some (.ref 59), some (.int x1), some (.int x2), o3, o4, o5, o6] [] [] (mkC ra rb 1 re rf rg σ) (none, mkC ra rb 1 re rf rg q)) : ∀ (k : Nat) (x1 : Int32) (x2 : Int32) (x3 : Int32) (o4 : Option Value) (o5 : Option Value) (o6 : Option Value) (ra : Nat) (rb : Nat) (re : Nat) (rf : Value) (rg : Value) (σ : bS), cRows_findHopeful_b11 n r5 k x1 x2 x3 σ = some q → bfr MT (d + 5) M_X5_findHopeful 11 [some (.ref 59), some (.int x1), some (.int x2), some (.int x3), o4, o5, o6] [] [] (mkC ra rb 1 re rf rg σ) (none, mkC ra rb 1 re rf rg q) := by
  intro k
  induction k with
  | zero => intro x1 x2 x3 o4 o5 o6 ra rb re rf rg σ h; exact bno h
  | succ k ih =>
    intro x1 x2 x3 o4 o5 o6 ra rb re rf rg σ h
    unfold cRows_findHopeful_b11 at h
    refine bfr_br 2 (pc1 := 118) (L1 := [some (.ref 59), some (.int x1), some (.int x2), some (.int x3), o4, o5, o6]) (J1 := []) (st1 := []) (w1 := mkC ra rb 1 re rf rg σ) (pc2 := 15) (L2 := [some (.ref 59), some (.int x1), some (.int x2), some (.int x3), o4, o5, o6]) (J2 := []) (st2 := []) (w2 := mkC ra rb 1 re rf rg σ) (fun _ _ => rfl) h (fun h => ?_) (fun h => ?_)
    · exact k_cRows_findHopeful_b118 n d _ q hr5 _ _ _ _ _ _ _ _ _ _ _ _ h
    · refine bfr_call 3 (d1 := d + 4) (M1 := M_X5_isSubset) (vs := [(.ref 59), (.int x2)]) (w1 := mkC ra rb 1 re rf rg σ) (pc2 := 20) (L2 := [some (.ref 59), some (.int x1), some (.int x2), some (.int x3), o4, o5, o6]) (J2 := []) (rest := []) (fun a => some (.int a.1)) (fun a => mkC ra rb 1 re rf rg a.2) (fun _ _ => rfl) h (fun a ha => k_cRows_isSubset n (d + 4) _ _ _ _ _ _ _ _ _ ha) (fun q2 _ h => ?_)
      refine bfr_br 1 (pc1 := 118) (L1 := [some (.ref 59), some (.int x1), some (.int x2), some (.int x3), o4, o5, o6]) (J1 := []) (st1 := []) (w1 := mkC ra rb 1 re rf rg q2.2) (pc2 := 23) (L2 := [some (.ref 59), some (.int x1), some (.int x2), some (.int x3), o4, o5, o6]) (J2 := []) (st2 := []) (w2 := mkC ra rb 1 re rf rg q2.2) (fun _ _ => rfl) h (fun h => ?_) (fun h => ?_)
      · exact k_cRows_findHopeful_b118 n d _ q hr5 _ _ _ _ _ _ _ _ _ _ _ _ h
      · refine bfr_run 4 29 [some (.ref 59), some (.int x1), some (.int x2), some (.int x3), some (.int ci_0), some (.int ci_0), o6] [] [] (mkC ra rb 1 re rf rg q2.2) (fun _ _ => rfl) ?_
        exact k_cRows_findHopeful_b29 n d _ _ q hr5 (ih) _ _ _ _ _ _ _ _ _ _ _ _ _ h
set_option maxRecDepth 100000 in
theorem k_cRows_findHopeful_b5 (n d : Nat) (q : bS) : ∀ (k : Nat) (x1 : Int32) (x2 : Int32) (o3 : Option Value) (o4 : Option Value) (o5 : Option Value) (o6 : Option Value) (ra : Nat) (rb : Nat) (re : Nat) (rf : Value) (rg : Value) (σ : bS), cRows_findHopeful_b5 n k x1 x2 σ = some q → bfr MT (d + 5) M_X5_findHopeful 5 [some (.ref 59), some (.int x1), some (.int x2), o3, o4, o5, o6] [] [] (mkC ra rb 1 re rf rg σ) (none, mkC ra rb 1 re rf rg q) := by
  intro k
  induction k with
  | zero => intro x1 x2 o3 o4 o5 o6 ra rb re rf rg σ h; exact bno h
  | succ k ih =>
    intro x1 x2 o3 o4 o5 o6 ra rb re rf rg σ h
    unfold cRows_findHopeful_b5 at h
    refine bfr_br 2 (pc1 := 124) (L1 := [some (.ref 59), some (.int x1), some (.int x2), o3, o4, o5, o6]) (J1 := []) (st1 := []) (w1 := mkC ra rb 1 re rf rg σ) (pc2 := 9) (L2 := [some (.ref 59), some (.int x1), some (.int x2), o3, o4, o5, o6]) (J2 := []) (st2 := []) (w2 := mkC ra rb 1 re rf rg σ) (fun _ _ => rfl) h (fun h => ?_) (fun h => ?_)
    · cases h
      exact bfr_ret 1 (fun _ _ => rfl)
    · refine bfr_run 2 11 [some (.ref 59), some (.int x1), some (.int x2), some (.int x1), o4, o5, o6] [] [] (mkC ra rb 1 re rf rg σ) (fun _ _ => rfl) ?_
      exact k_cRows_findHopeful_b11 n d _ q (ih) _ _ _ _ _ _ _ _ _ _ _ _ _ h
set_option maxRecDepth 100000 in
theorem k_cRows_findHopeful (n d : Nat) (q : bS) (x1 : Int32) (ra : Nat) (rb : Nat) (re : Nat) (rf : Value) (rg : Value) (σ : bS) (h : cRows_findHopeful n x1 σ = some q) : bfr MT (d + 5) M_X5_findHopeful 0 [some (.ref 59), some (.int x1), none, none, none, none, none] [] [] (mkC ra rb 1 re rf rg σ) (none, mkC ra rb 1 re rf rg q) := by
  unfold cRows_findHopeful at h
  refine bfr_run 3 5 [some (.ref 59), some (.int x1), some (.int (sI σ 59 10)), none, none, none, none] [] [] (mkC ra rb 1 re rf rg σ) (fun _ _ => rfl) ?_
  exact k_cRows_findHopeful_b5 n d q _ _ _ _ _ _ _ _ _ _ _ _ _ h
set_option maxRecDepth 100000 in
theorem k_cRows_leadsOn_b143 (n d : Nat) (q : (Int32 × bS)) (s0 : Int32) (o0 : Option Value) (o1 : Option Value) (o2 : Option Value) (o3 : Option Value) (o4 : Option Value) (o5 : Option Value) (o6 : Option Value) (o7 : Option Value) (ra : Nat) (rb : Nat) (re : Nat) (rf : Value) (rg : Value) (σ : bS) (h : cRows_leadsOn_b143 n s0 σ = some q) : bfr MT (d + 4) M_X5_leadsOn 143 [o0, o1, o2, o3, o4, o5, o6, o7] [] [(.int s0)] (mkC ra rb 1 re rf rg σ) (some (.int q.1), mkC ra rb 1 re rf rg q.2) := by
  unfold cRows_leadsOn_b143 at h
  exact bfr_bz (mk := mkC ra rb 1 re rf rg) 1 (fun _ _ => rfl) h
set_option maxRecDepth 100000 in
theorem k_cRows_leadsOn_b97 (n d : Nat) (r23 : Int32 → Int32 → Int32 → Int32 → Int32 → Int32 → bS → Option (Int32 × bS)) (q : (Int32 × bS)) (hr23 : ∀ (x1 : Int32) (x2 : Int32) (x3 : Int32) (x4 : Int32) (x5 : Int32) (x6 : Int32) (o7 : Option Value) (ra : Nat) (rb : Nat) (re : Nat) (rf : Value) (rg : Value) (σ : bS), r23 x1 x2 x3 x4 x5 x6 σ = some q → bfr MT (d + 4) M_X5_leadsOn 23 [some (.ref 59), some (.int x1), some (.int x2), some (.int x3), some (.int x4), some (.int x5), some (.int x6), o7] [] [] (mkC ra rb 1 re rf rg σ) (some (.int q.1), mkC ra rb 1 re rf rg q.2)) (x1 : Int32) (x2 : Int32) (x3 : Int32) (x4 : Int32) (x5 : Int32) (x6 : Int32) (x7 : Int32) (ra : Nat) (rb : Nat) (re : Nat) (rf : Value) (rg : Value) (σ : bS) (h : cRows_leadsOn_b97 n r23 x1 x2 x3 x4 x5 x6 x7 σ = some q) : bfr MT (d + 4) M_X5_leadsOn 97 [some (.ref 59), some (.int x1), some (.int x2), some (.int x3), some (.int x4), some (.int x5), some (.int x6), some (.int x7)] [] [] (mkC ra rb 1 re rf rg σ) (some (.int q.1), mkC ra rb 1 re rf rg q.2) := by
  unfold cRows_leadsOn_b97 at h
  refine bfr_br 2 (pc1 := 104) (L1 := [some (.ref 59), some (.int x1), some (.int x2), some (.int x3), some (.int x4), some (.int x5), some (.int x6), some (.int x7)]) (J1 := []) (st1 := []) (w1 := mkC ra rb 1 re rf rg σ) (pc2 := 102) (L2 := [some (.ref 59), some (.int x1), some (.int x2), some (.int x3), some (.int x4), some (.int x5), some (.int x6), some (.int x7)]) (J2 := []) (st2 := []) (w2 := mkC ra rb 1 re rf rg σ) (fun _ _ => rfl) h (fun h => ?_) (fun h => ?_)
  · refine bfr_run 6 111 [some (.ref 59), some (.int x1), some (.int x2), some (.int (x3 ||| (ci_1 <<< (x7 &&& 31)))), some (.int x4), some (.int x5), some (.int x6), some (.int x7)] [] [] (mkC ra rb 1 re rf rg σ) (fun _ _ => rfl) ?_
    refine bfr_run 1 114 [some (.ref 59), some (.int x1), some (.int x2), some (.int (x3 ||| (ci_1 <<< (x7 &&& 31)))), some (.int x4), some (.int x5), some (.int (x6 + ci_1)), some (.int x7)] [] [] (mkC ra rb 1 re rf rg σ) (fun _ _ => rfl) ?_
    refine bfr_run 1 23 [some (.ref 59), some (.int x1), some (.int x2), some (.int (x3 ||| (ci_1 <<< (x7 &&& 31)))), some (.int x4), some (.int x5), some (.int (x6 + ci_1)), some (.int x7)] [] [] (mkC ra rb 1 re rf rg σ) (fun _ _ => rfl) ?_
    exact hr23 _ _ _ _ _ _ _ _ _ _ _ _ _ h
  · exact bfr_bz (mk := mkC ra rb 1 re rf rg) 2 (fun _ _ => rfl) h
set_option maxRecDepth 100000 in
theorem k_cRows_leadsOn_b45 (n d : Nat) (r23 : Int32 → Int32 → Int32 → Int32 → Int32 → Int32 → bS → Option (Int32 × bS)) (q : (Int32 × bS)) (hr23 : ∀ (x1 : Int32) (x2 : Int32) (x3 : Int32) (x4 : Int32) (x5 : Int32) (x6 : Int32) (o7 : Option Value) (ra : Nat) (rb : Nat) (re : Nat) (rf : Value) (rg : Value) (σ : bS), r23 x1 x2 x3 x4 x5 x6 σ = some q → bfr MT (d + 4) M_X5_leadsOn 23 [some (.ref 59), some (.int x1), some (.int x2), some (.int x3), some (.int x4), some (.int x5), some (.int x6), o7] [] [] (mkC ra rb 1 re rf rg σ) (some (.int q.1), mkC ra rb 1 re rf rg q.2)) (x1 : Int32) (x2 : Int32) (x3 : Int32) (x4 : Int32) (x5 : Int32) (x6 : Int32) (x7 : Int32) (s0 : Int32) (s1 : Int32) (ra : Nat) (rb : Nat) (re : Nat) (rf : Value) (rg : Value) (σ : bS) (h : cRows_leadsOn_b45 n r23 x1 x2 x3 x4 x5 x6 x7 s0 s1 σ = some q) : bfr MT (d + 4) M_X5_leadsOn 45 [some (.ref 59), some (.int x1), some (.int x2), some (.int x3), some (.int x4), some (.int x5), some (.int x6), some (.int x7)] [] [(.int s1), (.int s0)] (mkC ra rb 1 re rf rg σ) (some (.int q.1), mkC ra rb 1 re rf rg q.2) := by
  unfold cRows_leadsOn_b45 at h
  refine bfr_br 5 (pc1 := 52) (L1 := [some (.ref 59), some (.int x1), some (.int x2), some (.int x3), some (.int x4), some (.int x5), some (.int x6), some (.int x7)]) (J1 := []) (st1 := []) (w1 := mkC ra rb 1 re rf rg σ) (pc2 := 84) (L2 := [some (.ref 59), some (.int x1), some (.int x2), some (.int x3), some (.int x4), some (.int x5), some (.int x6), some (.int x7)]) (J2 := []) (st2 := []) (w2 := mkC ra rb 1 re rf rg σ) (fun _ _ => rfl) h (fun h => ?_) (fun h => ?_)
  · refine bfr_call 6 (d1 := d + 3) (M1 := M_X5_spotPaid) (vs := [(.ref 59), (.int x3), (.int x5), (.int x4), (.int x7)]) (w1 := mkC ra rb 1 re rf rg σ) (pc2 := 63) (L2 := [some (.ref 59), some (.int x1), some (.int x2), some (.int x3), some (.int x4), some (.int x5), some (.int x6), some (.int x7)]) (J2 := []) (rest := []) (fun a => some (.int a.1)) (fun a => mkC ra rb 1 re rf rg a.2) (fun _ _ => rfl) h (fun a ha => k_cRows_spotPaid n (d + 0) _ _ _ _ _ _ _ _ _ _ _ ha) (fun q1 _ h => ?_)
    refine bfr_run 6 73 [some (.ref 59), some (.int x1), some (.int x2), some (.int x3), some (.int x4), some (.int q1.1), some (.int x6), some (.int x7)] [] [(.int x6), (.int ci_1), (.int (sI q1.2 59 9)), (.ref 59)] (mkC ra rb 1 re rf rg q1.2) (fun _ _ => rfl) ?_
    refine bfr_run 3 78 [some (.ref 59), some (.int x1), some (.int x2), some (.int x3), some (.int x4), some (.int q1.1), some (.int x6), some (.int x7)] [] [] ((mkC ra rb 1 re rf rg q1.2).set 59 (.inr (.inr (5, (mkC_59  ra rb 1 re rf rg q1.2).set 9 (.int ((sI q1.2 59 9) ||| (ci_1 <<< (x6 &&& 31)))))))) (fun _ _ => rfl) ?_
    rw [mkC_I59_9]
    refine bfr_run 1 81 [some (.ref 59), some (.int x1), some (.int x2), some (.int x3), some (.int (x4 + ci_1)), some (.int q1.1), some (.int x6), some (.int x7)] [] [] (mkC ra rb 1 re rf rg (uI q1.2 59 9 ((sI q1.2 59 9) ||| (ci_1 <<< (x6 &&& 31))))) (fun _ _ => rfl) ?_
    refine bfr_run 1 97 [some (.ref 59), some (.int x1), some (.int x2), some (.int x3), some (.int (x4 + ci_1)), some (.int q1.1), some (.int x6), some (.int x7)] [] [] (mkC ra rb 1 re rf rg (uI q1.2 59 9 ((sI q1.2 59 9) ||| (ci_1 <<< (x6 &&& 31))))) (fun _ _ => rfl) ?_
    exact k_cRows_leadsOn_b97 n d _ q hr23 _ _ _ _ _ _ _ _ _ _ _ _ _ h
  · refine bfr_call 6 (d1 := d + 3) (M1 := M_X5_spotFree) (vs := [(.ref 59), (.int x3), (.int x5), (.int x4), (.int x7)]) (w1 := mkC ra rb 1 re rf rg σ) (pc2 := 95) (L2 := [some (.ref 59), some (.int x1), some (.int x2), some (.int x3), some (.int x4), some (.int x5), some (.int x6), some (.int x7)]) (J2 := []) (rest := []) (fun a => some (.int a.1)) (fun a => mkC ra rb 1 re rf rg a.2) (fun _ _ => rfl) h (fun a ha => k_cRows_spotFree n (d + 0) _ _ _ _ _ _ _ _ _ _ _ ha) (fun q2 _ h => ?_)
    refine bfr_run 1 97 [some (.ref 59), some (.int x1), some (.int x2), some (.int x3), some (.int x4), some (.int q2.1), some (.int x6), some (.int x7)] [] [] (mkC ra rb 1 re rf rg q2.2) (fun _ _ => rfl) ?_
    exact k_cRows_leadsOn_b97 n d _ q hr23 _ _ _ _ _ _ _ _ _ _ _ _ _ h
set_option maxRecDepth 100000 in
theorem k_cRows_leadsOn_b42 (n d : Nat) (r23 : Int32 → Int32 → Int32 → Int32 → Int32 → Int32 → bS → Option (Int32 × bS)) (q : (Int32 × bS)) (hr23 : ∀ (x1 : Int32) (x2 : Int32) (x3 : Int32) (x4 : Int32) (x5 : Int32) (x6 : Int32) (o7 : Option Value) (ra : Nat) (rb : Nat) (re : Nat) (rf : Value) (rg : Value) (σ : bS), r23 x1 x2 x3 x4 x5 x6 σ = some q → bfr MT (d + 4) M_X5_leadsOn 23 [some (.ref 59), some (.int x1), some (.int x2), some (.int x3), some (.int x4), some (.int x5), some (.int x6), o7] [] [] (mkC ra rb 1 re rf rg σ) (some (.int q.1), mkC ra rb 1 re rf rg q.2)) (x1 : Int32) (x2 : Int32) (x3 : Int32) (x4 : Int32) (x5 : Int32) (x6 : Int32) (x7 : Int32) (s0 : Int32) (s1 : Int32) (ra : Nat) (rb : Nat) (re : Nat) (rf : Value) (rg : Value) (σ : bS) (h : cRows_leadsOn_b42 n r23 x1 x2 x3 x4 x5 x6 x7 s0 s1 σ = some q) : bfr MT (d + 4) M_X5_leadsOn 42 [some (.ref 59), some (.int x1), some (.int x2), some (.int x3), some (.int x4), some (.int x5), some (.int x6), some (.int x7)] [] [(.int s1), (.int s0)] (mkC ra rb 1 re rf rg σ) (some (.int q.1), mkC ra rb 1 re rf rg q.2) := by
  unfold cRows_leadsOn_b42 at h
  refine bfr_run 2 45 [some (.ref 59), some (.int x1), some (.int x2), some (.int x3), some (.int x4), some (.int x5), some (.int x6), some (.int x7)] [] [(.int (s1 - x6)), (.int s0)] (mkC ra rb 1 re rf rg σ) (fun _ _ => rfl) ?_
  exact k_cRows_leadsOn_b45 n d _ q hr23 _ _ _ _ _ _ _ _ _ _ _ _ _ _ _ h
set_option maxRecDepth 100000 in
theorem k_cRows_leadsOn_b23 (n d : Nat) (q : (Int32 × bS)) : ∀ (k : Nat) (x1 : Int32) (x2 : Int32) (x3 : Int32) (x4 : Int32) (x5 : Int32) (x6 : Int32) (o7 : Option Value) (ra : Nat) (rb : Nat) (re : Nat) (rf : Value) (rg : Value) (σ : bS), cRows_leadsOn_b23 n k x1 x2 x3 x4 x5 x6 σ = some q → bfr MT (d + 4) M_X5_leadsOn 23 [some (.ref 59), some (.int x1), some (.int x2), some (.int x3), some (.int x4), some (.int x5), some (.int x6), o7] [] [] (mkC ra rb 1 re rf rg σ) (some (.int q.1), mkC ra rb 1 re rf rg q.2) := by
  intro k
  induction k with
  | zero => intro x1 x2 x3 x4 x5 x6 o7 ra rb re rf rg σ h; exact bno h
  | succ k ih =>
    intro x1 x2 x3 x4 x5 x6 o7 ra rb re rf rg σ h
    unfold cRows_leadsOn_b23 at h
    refine bfr_br 3 (pc1 := 117) (L1 := [some (.ref 59), some (.int x1), some (.int x2), some (.int x3), some (.int x4), some (.int x5), some (.int x6), o7]) (J1 := []) (st1 := []) (w1 := mkC ra rb 1 re rf rg σ) (pc2 := 29) (L2 := [some (.ref 59), some (.int x1), some (.int x2), some (.int x3), some (.int x4), some (.int x5), some (.int x6), o7]) (J2 := []) (st2 := []) (w2 := mkC ra rb 1 re rf rg σ) (fun _ _ => rfl) h (fun h => ?_) (fun h => ?_)
    · refine bfr_run 6 127 [some (.ref 59), some (.int x1), some (.int x2), some (.int x3), some (.int x4), some (.int x5), some (.int x6), o7] [] [(.int x4), (.int (x3 * cb_8)), (.ref 63)] (mkC ra rb 1 re rf rg σ) (fun _ _ => rfl) ?_
      refine bfr_in (i := ((x3 * cb_8) + x4)) (m := 1024) 2 (pc1 := 129) (L1 := [some (.ref 59), some (.int x1), some (.int x2), some (.int x3), some (.int x4), some (.int x5), some (.int x6), o7]) (J1 := []) (st1 := [(.int (sA σ 63 ((x3 * cb_8) + x4)))]) (w1 := mkC ra rb 1 re rf rg σ) (fun _ _ => rfl) h (fun h => ?_)
      refine bfr_br 6 (pc1 := 138) (L1 := [some (.ref 59), some (.int x1), some (.int x2), some (.int x3), some (.int x4), some (.int x5), some (.int x6), o7]) (J1 := []) (st1 := []) (w1 := mkC ra rb 1 re rf rg σ) (pc2 := 142) (L2 := [some (.ref 59), some (.int x1), some (.int x2), some (.int x3), some (.int x4), some (.int x5), some (.int x6), o7]) (J2 := []) (st2 := []) (w2 := mkC ra rb 1 re rf rg σ) (fun _ _ => rfl) h (fun h => ?_) (fun h => ?_)
      · refine bfr_run 2 143 [some (.ref 59), some (.int x1), some (.int x2), some (.int x3), some (.int x4), some (.int x5), some (.int x6), o7] [] [(.int ci_1)] (mkC ra rb 1 re rf rg σ) (fun _ _ => rfl) ?_
        exact k_cRows_leadsOn_b143 n d q _ _ _ _ _ _ _ _ _ _ _ _ _ _ _ h
      · refine bfr_run 1 143 [some (.ref 59), some (.int x1), some (.int x2), some (.int x3), some (.int x4), some (.int x5), some (.int x6), o7] [] [(.int ci_0)] (mkC ra rb 1 re rf rg σ) (fun _ _ => rfl) ?_
        exact k_cRows_leadsOn_b143 n d q _ _ _ _ _ _ _ _ _ _ _ _ _ _ _ h
    · refine bfr_in (i := x6) (m := 7) 4 (pc1 := 36) (L1 := [some (.ref 59), some (.int x1), some (.int x2), some (.int x3), some (.int x4), some (.int x5), some (.int x6), o7]) (J1 := []) (st1 := [(.int (sA σ 67 x6))]) (w1 := mkC ra rb 1 re rf rg σ) (fun _ _ => rfl) h (fun h => ?_)
      refine bfr_run 5 42 [some (.ref 59), some (.int x1), some (.int x2), some (.int x3), some (.int x4), some (.int x5), some (.int x6), some (.int (sA σ 67 x6))] [] [(.int (x1 - ci_1)), (.int x2)] (mkC ra rb 1 re rf rg σ) (fun _ _ => rfl) ?_
      exact k_cRows_leadsOn_b42 n d _ q (ih) _ _ _ _ _ _ _ _ _ _ _ _ _ _ _ h
set_option maxRecDepth 100000 in
theorem k_cRows_leadsOn (n d : Nat) (q : (Int32 × bS)) (x1 : Int32) (x2 : Int32) (ra : Nat) (rb : Nat) (re : Nat) (rf : Value) (rg : Value) (σ : bS) (h : cRows_leadsOn n x1 x2 σ = some q) : bfr MT (d + 4) M_X5_leadsOn 0 [some (.ref 59), some (.int x1), some (.int x2), none, none, none, none, none] [] [] (mkC ra rb 1 re rf rg σ) (some (.int q.1), mkC ra rb 1 re rf rg q.2) := by
  unfold cRows_leadsOn at h
  refine bfr_run 6 9 [some (.ref 59), some (.int x1), some (.int x2), some (.int ci_0), some (.int ci_0), none, none, none] [] [(.int (sI σ 59 12))] (mkC ra rb 1 re rf rg σ) (fun _ _ => rfl) ?_
  refine bfr_call 2 (d1 := d + 3) (M1 := M_X5_spotOf) (vs := [(.int (sI σ 59 12)), (.int ci_0)]) (w1 := mkC ra rb 1 re rf rg σ) (pc2 := 13) (L2 := [some (.ref 59), some (.int x1), some (.int x2), some (.int ci_0), some (.int ci_0), none, none, none]) (J2 := []) (rest := []) (fun a => some (.int a.1)) (fun a => mkC ra rb 1 re rf rg a.2) (fun _ _ => rfl) h (fun a ha => k_cRows_spotOf n (d + 3) _ _ _ _ _ _ _ _ _ _ ha) (fun q3 _ h => ?_)
  refine bfr_run 4 20 [some (.ref 59), some (.int x1), some (.int x2), some (.int ci_0), some (.int ci_0), some (.int q3.1), none, none] [] [] ((mkC ra rb 1 re rf rg q3.2).set 59 (.inr (.inr (5, (mkC_59  ra rb 1 re rf rg q3.2).set 9 (.int ci_0))))) (fun _ _ => rfl) ?_
  rw [mkC_I59_9]
  refine bfr_run 2 23 [some (.ref 59), some (.int x1), some (.int x2), some (.int ci_0), some (.int ci_0), some (.int q3.1), some (.int ci_0), none] [] [] (mkC ra rb 1 re rf rg (uI q3.2 59 9 ci_0)) (fun _ _ => rfl) ?_
  exact k_cRows_leadsOn_b23 n d q _ _ _ _ _ _ _ _ _ _ _ _ _ _ h
set_option maxRecDepth 100000 in
theorem k_cRows_findHires_b28 (n d : Nat) (r2 : Int32 → Int32 → Int32 → bS → Option (Int32 × bS)) (q : (Int32 × bS)) (hr2 : ∀ (x1 : Int32) (x2 : Int32) (x3 : Int32) (ra : Nat) (rb : Nat) (re : Nat) (rf : Value) (rg : Value) (σ : bS), r2 x1 x2 x3 σ = some q → bfr MT (d + 5) M_X5_findHires 2 [some (.ref 59), some (.int x1), some (.int x2), some (.int x3)] [] [] (mkC ra rb 1 re rf rg σ) (some (.int q.1), mkC ra rb 1 re rf rg q.2)) (x1 : Int32) (x2 : Int32) (x3 : Int32) (ra : Nat) (rb : Nat) (re : Nat) (rf : Value) (rg : Value) (σ : bS) (h : cRows_findHires_b28 n r2 x1 x2 x3 σ = some q) : bfr MT (d + 5) M_X5_findHires 28 [some (.ref 59), some (.int x1), some (.int x2), some (.int x3)] [] [] (mkC ra rb 1 re rf rg σ) (some (.int q.1), mkC ra rb 1 re rf rg q.2) := by
  unfold cRows_findHires_b28 at h
  refine bfr_run 1 31 [some (.ref 59), some (.int x1), some (.int x2), some (.int (x3 + ci_1))] [] [] (mkC ra rb 1 re rf rg σ) (fun _ _ => rfl) ?_
  refine bfr_run 1 2 [some (.ref 59), some (.int x1), some (.int x2), some (.int (x3 + ci_1))] [] [] (mkC ra rb 1 re rf rg σ) (fun _ _ => rfl) ?_
  exact hr2 _ _ _ _ _ _ _ _ _ h
set_option maxRecDepth 100000 in
theorem k_cRows_findHires_b2 (n d : Nat) (q : (Int32 × bS)) : ∀ (k : Nat) (x1 : Int32) (x2 : Int32) (x3 : Int32) (ra : Nat) (rb : Nat) (re : Nat) (rf : Value) (rg : Value) (σ : bS), cRows_findHires_b2 n k x1 x2 x3 σ = some q → bfr MT (d + 5) M_X5_findHires 2 [some (.ref 59), some (.int x1), some (.int x2), some (.int x3)] [] [] (mkC ra rb 1 re rf rg σ) (some (.int q.1), mkC ra rb 1 re rf rg q.2) := by
  intro k
  induction k with
  | zero => intro x1 x2 x3 ra rb re rf rg σ h; exact bno h
  | succ k ih =>
    intro x1 x2 x3 ra rb re rf rg σ h
    unfold cRows_findHires_b2 at h
    refine bfr_br 5 (pc1 := 34) (L1 := [some (.ref 59), some (.int x1), some (.int x2), some (.int x3)]) (J1 := []) (st1 := []) (w1 := mkC ra rb 1 re rf rg σ) (pc2 := 9) (L2 := [some (.ref 59), some (.int x1), some (.int x2), some (.int x3)]) (J2 := []) (st2 := []) (w2 := mkC ra rb 1 re rf rg σ) (fun _ _ => rfl) h (fun h => ?_) (fun h => ?_)
    · exact bfr_bz (mk := mkC ra rb 1 re rf rg) 2 (fun _ _ => rfl) h
    · refine bfr_call 2 (d1 := d + 4) (M1 := M_J6_bitCount_0f7a4) (vs := [(.int x3)]) (w1 := mkC ra rb 1 re rf rg σ) (pc2 := 13) (L2 := [some (.ref 59), some (.int x1), some (.int x2), some (.int x3)]) (J2 := []) (rest := []) (fun a => some (.int a.1)) (fun a => mkC ra rb 1 re rf rg a.2) (fun _ _ => rfl) h (fun a ha => k_cj_bitCount n (d + 4) _ _ _ _ _ _ _ _ _ ha) (fun q1 _ h => ?_)
      refine bfr_br 2 (pc1 := 28) (L1 := [some (.ref 59), some (.int x1), some (.int x2), some (.int x3)]) (J1 := []) (st1 := []) (w1 := mkC ra rb 1 re rf rg q1.2) (pc2 := 17) (L2 := [some (.ref 59), some (.int x1), some (.int x2), some (.int x3)]) (J2 := []) (st2 := []) (w2 := mkC ra rb 1 re rf rg q1.2) (fun _ _ => rfl) h (fun h => ?_) (fun h => ?_)
      · exact k_cRows_findHires_b28 n d _ q (ih) _ _ _ _ _ _ _ _ _ h
      · refine bfr_call 4 (d1 := d + 4) (M1 := M_X5_leadsOn) (vs := [(.ref 59), (.int x1), (.int x3)]) (w1 := mkC ra rb 1 re rf rg q1.2) (pc2 := 23) (L2 := [some (.ref 59), some (.int x1), some (.int x2), some (.int x3)]) (J2 := []) (rest := []) (fun a => some (.int a.1)) (fun a => mkC ra rb 1 re rf rg a.2) (fun _ _ => rfl) h (fun a ha => k_cRows_leadsOn n (d + 0) _ _ _ _ _ _ _ _ _ ha) (fun q2 _ h => ?_)
        refine bfr_br 1 (pc1 := 28) (L1 := [some (.ref 59), some (.int x1), some (.int x2), some (.int x3)]) (J1 := []) (st1 := []) (w1 := mkC ra rb 1 re rf rg q2.2) (pc2 := 26) (L2 := [some (.ref 59), some (.int x1), some (.int x2), some (.int x3)]) (J2 := []) (st2 := []) (w2 := mkC ra rb 1 re rf rg q2.2) (fun _ _ => rfl) h (fun h => ?_) (fun h => ?_)
        · exact k_cRows_findHires_b28 n d _ q (ih) _ _ _ _ _ _ _ _ _ h
        · exact bfr_bz (mk := mkC ra rb 1 re rf rg) 2 (fun _ _ => rfl) h
set_option maxRecDepth 100000 in
theorem k_cRows_findHires (n d : Nat) (q : (Int32 × bS)) (x1 : Int32) (x2 : Int32) (ra : Nat) (rb : Nat) (re : Nat) (rf : Value) (rg : Value) (σ : bS) (h : cRows_findHires n x1 x2 σ = some q) : bfr MT (d + 5) M_X5_findHires 0 [some (.ref 59), some (.int x1), some (.int x2), none] [] [] (mkC ra rb 1 re rf rg σ) (some (.int q.1), mkC ra rb 1 re rf rg q.2) := by
  unfold cRows_findHires at h
  refine bfr_run 2 2 [some (.ref 59), some (.int x1), some (.int x2), some (.int ci_0)] [] [] (mkC ra rb 1 re rf rg σ) (fun _ _ => rfl) ?_
  exact k_cRows_findHires_b2 n d q _ _ _ _ _ _ _ _ _ _ h
set_option maxRecDepth 100000 in
theorem k_cRows_findRow_b72 (n d : Nat) (r9 : Int32 → Int32 → Int32 → bS → Option bS) (q : bS) (hr9 : ∀ (x1 : Int32) (x2 : Int32) (x3 : Int32) (o4 : Option Value) (ra : Nat) (rb : Nat) (re : Nat) (rf : Value) (rg : Value) (σ : bS), r9 x1 x2 x3 σ = some q → bfr MT (d + 6) M_X5_findRow 9 [some (.ref 59), some (.int x1), some (.int x2), some (.int x3), o4] [] [] (mkC ra rb 1 re rf rg σ) (none, mkC ra rb 1 re rf rg q)) (x1 : Int32) (x2 : Int32) (x3 : Int32) (o4 : Option Value) (ra : Nat) (rb : Nat) (re : Nat) (rf : Value) (rg : Value) (σ : bS) (h : cRows_findRow_b72 n r9 x1 x2 x3 σ = some q) : bfr MT (d + 6) M_X5_findRow 72 [some (.ref 59), some (.int x1), some (.int x2), some (.int x3), o4] [] [] (mkC ra rb 1 re rf rg σ) (none, mkC ra rb 1 re rf rg q) := by
  unfold cRows_findRow_b72 at h
  refine bfr_run 1 75 [some (.ref 59), some (.int x1), some (.int x2), some (.int (x3 + ci_1)), o4] [] [] (mkC ra rb 1 re rf rg σ) (fun _ _ => rfl) ?_
  refine bfr_run 1 9 [some (.ref 59), some (.int x1), some (.int x2), some (.int (x3 + ci_1)), o4] [] [] (mkC ra rb 1 re rf rg σ) (fun _ _ => rfl) ?_
  exact hr9 _ _ _ _ _ _ _ _ _ _ h
set_option maxRecDepth 100000 in
theorem k_cRows_findRow_b66 (n d : Nat) (r9 : Int32 → Int32 → Int32 → bS → Option bS) (r20 : Int32 → Int32 → Int32 → Int32 → bS → Option bS) (q : bS) (hr9 : ∀ (x1 : Int32) (x2 : Int32) (x3 : Int32) (o4 : Option Value) (ra : Nat) (rb : Nat) (re : Nat) (rf : Value) (rg : Value) (σ : bS), r9 x1 x2 x3 σ = some q → bfr MT (d + 6) M_X5_findRow 9 [some (.ref 59), some (.int x1), some (.int x2), some (.int x3), o4] [] [] (mkC ra rb 1 re rf rg σ) (none, mkC ra rb 1 re rf rg q)) (hr20 : ∀ (x1 : Int32) (x2 : Int32) (x3 : Int32) (x4 : Int32) (ra : Nat) (rb : Nat) (re : Nat) (rf : Value) (rg : Value) (σ : bS), r20 x1 x2 x3 x4 σ = some q → bfr MT (d + 6) M_X5_findRow 20 [some (.ref 59), some (.int x1), some (.int x2), some (.int x3), some (.int x4)] [] [] (mkC ra rb 1 re rf rg σ) (none, mkC ra rb 1 re rf rg q)) (x1 : Int32) (x2 : Int32) (x3 : Int32) (x4 : Int32) (ra : Nat) (rb : Nat) (re : Nat) (rf : Value) (rg : Value) (σ : bS) (h : cRows_findRow_b66 n r9 r20 x1 x2 x3 x4 σ = some q) : bfr MT (d + 6) M_X5_findRow 66 [some (.ref 59), some (.int x1), some (.int x2), some (.int x3), some (.int x4)] [] [] (mkC ra rb 1 re rf rg σ) (none, mkC ra rb 1 re rf rg q) := by
  unfold cRows_findRow_b66 at h
  refine bfr_run 1 69 [some (.ref 59), some (.int x1), some (.int x2), some (.int x3), some (.int (x4 + ci_1))] [] [] (mkC ra rb 1 re rf rg σ) (fun _ _ => rfl) ?_
  refine bfr_run 1 20 [some (.ref 59), some (.int x1), some (.int x2), some (.int x3), some (.int (x4 + ci_1))] [] [] (mkC ra rb 1 re rf rg σ) (fun _ _ => rfl) ?_
  exact hr20 _ _ _ _ _ _ _ _ _ _ h
set_option maxRecDepth 100000 in
theorem k_cRows_findRow_b20 (n d : Nat) (r9 : Int32 → Int32 → Int32 → bS → Option bS) (q : bS) (hr9 : ∀ (x1 : Int32) (x2 : Int32) (x3 : Int32) (o4 : Option Value) (ra : Nat) (rb : Nat) (re : Nat) (rf : Value) (rg : Value) (σ : bS), r9 x1 x2 x3 σ = some q → bfr MT (d + 6) M_X5_findRow 9 [some (.ref 59), some (.int x1), some (.int x2), some (.int x3), o4] [] [] (mkC ra rb 1 re rf rg σ) (none, mkC ra rb 1 re rf rg q)) : ∀ (k : Nat) (x1 : Int32) (x2 : Int32) (x3 : Int32) (x4 : Int32) (ra : Nat) (rb : Nat) (re : Nat) (rf : Value) (rg : Value) (σ : bS), cRows_findRow_b20 n r9 k x1 x2 x3 x4 σ = some q → bfr MT (d + 6) M_X5_findRow 20 [some (.ref 59), some (.int x1), some (.int x2), some (.int x3), some (.int x4)] [] [] (mkC ra rb 1 re rf rg σ) (none, mkC ra rb 1 re rf rg q) := by
  intro k
  induction k with
  | zero => intro x1 x2 x3 x4 ra rb re rf rg σ h; exact bno h
  | succ k ih =>
    intro x1 x2 x3 x4 ra rb re rf rg σ h
    unfold cRows_findRow_b20 at h
    refine bfr_br 3 (pc1 := 72) (L1 := [some (.ref 59), some (.int x1), some (.int x2), some (.int x3), some (.int x4)]) (J1 := []) (st1 := []) (w1 := mkC ra rb 1 re rf rg σ) (pc2 := 27) (L2 := [some (.ref 59), some (.int x1), some (.int x2), some (.int x3), some (.int x4)]) (J2 := []) (st2 := []) (w2 := mkC ra rb 1 re rf rg σ) (fun _ _ => rfl) h (fun h => ?_) (fun h => ?_)
    · exact k_cRows_findRow_b72 n d _ q hr9 _ _ _ _ _ _ _ _ _ _ h
    · refine bfr_in (i := x3) (m := 7) 5 (pc1 := 35) (L1 := [some (.ref 59), some (.int x1), some (.int x2), some (.int x3), some (.int x4)]) (J1 := []) (st1 := []) (w1 := ((mkC ra rb 1 re rf rg σ).set 67 (.inl (0, 7, upd (σ.2.1 67) (x3).toNatClampNeg x4)))) (fun _ _ => rfl) h (fun h => ?_)
      rw [mkC_A67]
      refine bfr_call 4 (d1 := d + 5) (M1 := M_X5_isLeft) (vs := [(.ref 59), (.int x4), (.int x2)]) (w1 := mkC ra rb 1 re rf rg (uA σ 67 x3 x4)) (pc2 := 42) (L2 := [some (.ref 59), some (.int x1), some (.int x2), some (.int x3), some (.int x4)]) (J2 := []) (rest := []) (fun a => some (.int a.1)) (fun a => mkC ra rb 1 re rf rg a.2) (fun _ _ => rfl) h (fun a ha => k_cRows_isLeft n (d + 5) _ _ _ _ _ _ _ _ _ _ ha) (fun q1 _ h => ?_)
      refine bfr_br 1 (pc1 := 66) (L1 := [some (.ref 59), some (.int x1), some (.int x2), some (.int x3), some (.int x4)]) (J1 := []) (st1 := []) (w1 := mkC ra rb 1 re rf rg q1.2) (pc2 := 45) (L2 := [some (.ref 59), some (.int x1), some (.int x2), some (.int x3), some (.int x4)]) (J2 := []) (st2 := []) (w2 := mkC ra rb 1 re rf rg q1.2) (fun _ _ => rfl) h (fun h => ?_) (fun h => ?_)
      · exact k_cRows_findRow_b66 n d _ _ q hr9 (ih) _ _ _ _ _ _ _ _ _ _ h
      · refine bfr_call 6 (d1 := d + 5) (M1 := M_X5_findHires) (vs := [(.ref 59), (.int (x3 + ci_1)), (.int x1)]) (w1 := mkC ra rb 1 re rf rg q1.2) (pc2 := 53) (L2 := [some (.ref 59), some (.int x1), some (.int x2), some (.int x3), some (.int x4)]) (J2 := []) (rest := []) (fun a => some (.int a.1)) (fun a => mkC ra rb 1 re rf rg a.2) (fun _ _ => rfl) h (fun a ha => k_cRows_findHires n (d + 0) _ _ _ _ _ _ _ _ _ ha) (fun q2 _ h => ?_)
        refine bfr_br 1 (pc1 := 66) (L1 := [some (.ref 59), some (.int x1), some (.int x2), some (.int x3), some (.int x4)]) (J1 := []) (st1 := []) (w1 := mkC ra rb 1 re rf rg q2.2) (pc2 := 56) (L2 := [some (.ref 59), some (.int x1), some (.int x2), some (.int x3), some (.int x4)]) (J2 := []) (st2 := []) (w2 := mkC ra rb 1 re rf rg q2.2) (fun _ _ => rfl) h (fun h => ?_) (fun h => ?_)
        · exact k_cRows_findRow_b66 n d _ _ q hr9 (ih) _ _ _ _ _ _ _ _ _ _ h
        · refine bfr_run 6 63 [some (.ref 59), some (.int x1), some (.int (x2 ||| (ci_1 <<< (x4 &&& 31)))), some (.int x3), some (.int x4)] [] [] (mkC ra rb 1 re rf rg q2.2) (fun _ _ => rfl) ?_
          refine bfr_run 1 72 [some (.ref 59), some (.int x1), some (.int (x2 ||| (ci_1 <<< (x4 &&& 31)))), some (.int x3), some (.int x4)] [] [] (mkC ra rb 1 re rf rg q2.2) (fun _ _ => rfl) ?_
          exact k_cRows_findRow_b72 n d _ q hr9 _ _ _ _ _ _ _ _ _ _ h
set_option maxRecDepth 100000 in
theorem k_cRows_findRow_b9 (n d : Nat) (q : bS) : ∀ (k : Nat) (x1 : Int32) (x2 : Int32) (x3 : Int32) (o4 : Option Value) (ra : Nat) (rb : Nat) (re : Nat) (rf : Value) (rg : Value) (σ : bS), cRows_findRow_b9 n k x1 x2 x3 σ = some q → bfr MT (d + 6) M_X5_findRow 9 [some (.ref 59), some (.int x1), some (.int x2), some (.int x3), o4] [] [] (mkC ra rb 1 re rf rg σ) (none, mkC ra rb 1 re rf rg q) := by
  intro k
  induction k with
  | zero => intro x1 x2 x3 o4 ra rb re rf rg σ h; exact bno h
  | succ k ih =>
    intro x1 x2 x3 o4 ra rb re rf rg σ h
    unfold cRows_findRow_b9 at h
    refine bfr_br 4 (pc1 := 78) (L1 := [some (.ref 59), some (.int x1), some (.int x2), some (.int x3), o4]) (J1 := []) (st1 := []) (w1 := mkC ra rb 1 re rf rg σ) (pc2 := 17) (L2 := [some (.ref 59), some (.int x1), some (.int x2), some (.int x3), o4]) (J2 := []) (st2 := []) (w2 := mkC ra rb 1 re rf rg σ) (fun _ _ => rfl) h (fun h => ?_) (fun h => ?_)
    · cases h
      exact bfr_ret 1 (fun _ _ => rfl)
    · refine bfr_run 2 20 [some (.ref 59), some (.int x1), some (.int x2), some (.int x3), some (.int ci_0)] [] [] (mkC ra rb 1 re rf rg σ) (fun _ _ => rfl) ?_
      exact k_cRows_findRow_b20 n d _ q (ih) _ _ _ _ _ _ _ _ _ _ _ h
set_option maxRecDepth 100000 in
theorem k_cRows_findRow (n d : Nat) (q : bS) (x1 : Int32) (ra : Nat) (rb : Nat) (re : Nat) (rf : Value) (rg : Value) (σ : bS) (h : cRows_findRow n x1 σ = some q) : bfr MT (d + 6) M_X5_findRow 0 [some (.ref 59), some (.int x1), none, none, none] [] [] (mkC ra rb 1 re rf rg σ) (none, mkC ra rb 1 re rf rg q) := by
  unfold cRows_findRow at h
  refine bfr_call 3 (d1 := d + 5) (M1 := M_X5_findHopeful) (vs := [(.ref 59), (.int x1)]) (w1 := mkC ra rb 1 re rf rg σ) (pc2 := 5) (L2 := [some (.ref 59), some (.int x1), none, none, none]) (J2 := []) (rest := []) (fun _ => none) (fun a => mkC ra rb 1 re rf rg a) (fun _ _ => rfl) h (fun a ha => k_cRows_findHopeful n (d + 0) _ _ _ _ _ _ _ _ ha) (fun q3 _ h => ?_)
  refine bfr_run 4 9 [some (.ref 59), some (.int x1), some (.int ci_0), some (.int ci_0), none] [] [] (mkC ra rb 1 re rf rg q3) (fun _ _ => rfl) ?_
  exact k_cRows_findRow_b9 n d q _ _ _ _ _ _ _ _ _ _ _ h
set_option maxRecDepth 100000 in
theorem k_cTop_orderAt_b14 (n d : Nat) (q : (Int32 × bS)) (x1 : Int32) (x2 : Int32) (x3 : Int32) (s0 : Int32) (o4 : Option Value) (rb : Nat) (re : Nat) (rf : Value) (rg : Value) (σ : bS) (h : cTop_orderAt_b14 n x1 x2 x3 s0 σ = some q) : bfr MT (d + 7) M_X11_orderAt 14 [some (.ref 0), some (.int x1), some (.int x2), some (.int x3), o4] [] [(.int s0)] (mkC 1 rb 1 re rf rg σ) (some (.int q.1), mkC 1 rb 1 re rf rg q.2) := by
  unfold cTop_orderAt_b14 at h
  refine bfr_br 3 (pc1 := 24) (L1 := [some (.ref 0), some (.int x1), some (.int x2), some (.int x3), some (.int s0)]) (J1 := []) (st1 := []) (w1 := mkC 1 rb 1 re rf rg σ) (pc2 := 21) (L2 := [some (.ref 0), some (.int x1), some (.int x2), some (.int x3), some (.int s0)]) (J2 := []) (st2 := []) (w2 := mkC 1 rb 1 re rf rg σ) (fun _ _ => rfl) h (fun h => ?_) (fun h => ?_)
  · refine bfr_call 6 (d1 := d + 6) (M1 := M_X5_prepare) (vs := [(.ref 59), (.int x1), (.int x2), (.int ci_1)]) (w1 := mkC 1 rb 1 re rf rg σ) (pc2 := 34) (L2 := [some (.ref 0), some (.int x1), some (.int x2), some (.int x3), some (.int s0)]) (J2 := []) (rest := []) (fun _ => none) (fun a => mkC 1 rb 1 re rf rg a) (fun _ _ => rfl) h (fun a ha => k_cRows_prepare n (d + 3) _ _ _ _ _ _ _ _ _ _ ha) (fun q1 _ h => ?_)
    refine bfr_call 4 (d1 := d + 6) (M1 := M_X5_fewestWishers) (vs := [(.ref 59), (.int ci_0)]) (w1 := mkC 1 rb 1 re rf rg q1) (pc2 := 42) (L2 := [some (.ref 0), some (.int x1), some (.int x2), some (.int x3), some (.int s0)]) (J2 := []) (rest := []) (fun a => some (.int a.1)) (fun a => mkC 1 rb 1 re rf rg a.2) (fun _ _ => rfl) h (fun a ha => k_cRows_fewestWishers n (d + 1) _ _ _ _ _ _ _ _ ha) (fun q2 _ h => ?_)
    refine bfr_br 1 (pc1 := 48) (L1 := [some (.ref 0), some (.int x1), some (.int x2), some (.int x3), some (.int s0)]) (J1 := []) (st1 := []) (w1 := mkC 1 rb 1 re rf rg q2.2) (pc2 := 45) (L2 := [some (.ref 0), some (.int x1), some (.int x2), some (.int x3), some (.int s0)]) (J2 := []) (st2 := []) (w2 := mkC 1 rb 1 re rf rg q2.2) (fun _ _ => rfl) h (fun h => ?_) (fun h => ?_)
    · refine bfr_br 5 (pc1 := 61) (L1 := [some (.ref 0), some (.int x1), some (.int x2), some (.int x3), some (.int s0)]) (J1 := []) (st1 := []) (w1 := mkC 1 rb 1 re rf rg q2.2) (pc2 := 59) (L2 := [some (.ref 0), some (.int x1), some (.int x2), some (.int x3), some (.int s0)]) (J2 := []) (st2 := []) (w2 := mkC 1 rb 1 re rf rg q2.2) (fun _ _ => rfl) h (fun h => ?_) (fun h => ?_)
      · refine bfr_call 4 (d1 := d + 6) (M1 := M_X5_findRow) (vs := [(.ref 59), (.int ci_0)]) (w1 := mkC 1 rb 1 re rf rg q2.2) (pc2 := 69) (L2 := [some (.ref 0), some (.int x1), some (.int x2), some (.int x3), some (.int s0)]) (J2 := []) (rest := []) (fun _ => none) (fun a => mkC 1 rb 1 re rf rg a) (fun _ _ => rfl) h (fun a ha => k_cRows_findRow n (d + 0) _ _ _ _ _ _ _ _ ha) (fun q3 _ h => ?_)
        refine bfr_in (i := x3) (m := 7) 5 (pc1 := 78) (L1 := [some (.ref 0), some (.int x1), some (.int x2), some (.int x3), some (.int s0)]) (J1 := []) (st1 := [(.int (sA q3 67 x3))]) (w1 := mkC 1 rb 1 re rf rg q3) (fun _ _ => rfl) h (fun h => ?_)
        cases h
        exact bfr_ret 1 (fun _ _ => rfl)
      · cases h
        exact bfr_ret 2 (fun _ _ => rfl)
    · cases h
      exact bfr_ret 2 (fun _ _ => rfl)
  · cases h
    exact bfr_ret 2 (fun _ _ => rfl)
set_option maxRecDepth 100000 in
theorem k_cTop_orderAt (n d : Nat) (q : (Int32 × bS)) (x1 : Int32) (x2 : Int32) (x3 : Int32) (rb : Nat) (re : Nat) (rf : Value) (rg : Value) (σ : bS) (h : cTop_orderAt n x1 x2 x3 σ = some q) : bfr MT (d + 7) M_X11_orderAt 0 [some (.ref 0), some (.int x1), some (.int x2), some (.int x3), none] [] [] (mkC 1 rb 1 re rf rg σ) (some (.int q.1), mkC 1 rb 1 re rf rg q.2) := by
  unfold cTop_orderAt at h
  refine bfr_br 2 (pc1 := 8) (L1 := [some (.ref 0), some (.int x1), some (.int x2), some (.int x3), none]) (J1 := []) (st1 := []) (w1 := mkC 1 rb 1 re rf rg σ) (pc2 := 4) (L2 := [some (.ref 0), some (.int x1), some (.int x2), some (.int x3), none]) (J2 := []) (st2 := []) (w2 := mkC 1 rb 1 re rf rg σ) (fun _ _ => rfl) h (fun h => ?_) (fun h => ?_)
  · refine bfr_call 4 (d1 := d + 6) (M1 := M_X11_rowFault) (vs := [(.ref 0), (.int x1), (.int x2)]) (w1 := mkC 1 rb 1 re rf rg σ) (pc2 := 14) (L2 := [some (.ref 0), some (.int x1), some (.int x2), some (.int x3), none]) (J2 := []) (rest := []) (fun a => some (.int a.1)) (fun a => mkC 1 rb 1 re rf rg a.2) (fun _ _ => rfl) h (fun a ha => k_cTop_rowFault n (d + 5) _ _ _ _ _ _ _ _ ha) (fun q4 _ h => ?_)
    exact k_cTop_orderAt_b14 n d q _ _ _ _ _ _ _ _ _ _ h
  · refine bfr_run 2 14 [some (.ref 0), some (.int x1), some (.int x2), some (.int x3), none] [] [(.int ci_m1)] (mkC 1 rb 1 re rf rg σ) (fun _ _ => rfl) ?_
    exact k_cTop_orderAt_b14 n d q _ _ _ _ _ _ _ _ _ _ h
