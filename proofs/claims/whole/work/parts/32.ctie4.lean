set_option maxRecDepth 100000 in
theorem k_cGoing_allCoins_d_b4 (n d : Nat) (q : (Int32 × bS)) : ∀ (k : Nat) (x1 : Int32) (x2 : Int32) (ra : Nat) (rb : Nat) (rc : Nat) (rf : Value) (rg : Value) (σ : bS), cGoing_allCoins_d_b4 n k x1 x2 σ = some q → bfr MT (d + 0) M_X1_allCoins 4 [some (.ref 35), some (.int x1), some (.int x2)] [] [] (mkC ra rb rc 1 rf rg σ) (some (.int q.1), mkC ra rb rc 1 rf rg q.2) := by
  intro k
  induction k with
  | zero => intro x1 x2 ra rb rc rf rg σ h; exact bno h
  | succ k ih =>
    intro x1 x2 ra rb rc rf rg σ h
    unfold cGoing_allCoins_d_b4 at h
    refine bfr_br 5 (pc1 := 30) (L1 := [some (.ref 35), some (.int x1), some (.int x2)]) (J1 := []) (st1 := []) (w1 := mkC ra rb rc 1 rf rg σ) (pc2 := 15) (L2 := [some (.ref 35), some (.int x1), some (.int x2)]) (J2 := []) (st2 := []) (w2 := mkC ra rb rc 1 rf rg σ) (fun _ _ => rfl) h (fun h => ?_) (fun h => ?_)
    · cases h
      exact bfr_ret 2 (fun _ _ => rfl)
    · refine bfr_in (i := x2) (m := 7) 5 (pc1 := 22) (L1 := [some (.ref 35), some (.int x1), some (.int x2)]) (J1 := []) (st1 := [(.int (sA σ 40 x2)), (.int x1)]) (w1 := mkC ra rb rc 1 rf rg σ) (fun _ _ => rfl) h (fun h => ?_)
      refine bfr_run 3 27 [some (.ref 35), some (.int (x1 + (sA σ 40 x2))), some (.int (x2 + ci_1))] [] [] (mkC ra rb rc 1 rf rg σ) (fun _ _ => rfl) ?_
      refine bfr_run 1 4 [some (.ref 35), some (.int (x1 + (sA σ 40 x2))), some (.int (x2 + ci_1))] [] [] (mkC ra rb rc 1 rf rg σ) (fun _ _ => rfl) ?_
      exact ih _ _ _ _ _ _ _ _ h
set_option maxRecDepth 100000 in
theorem k_cGoing_allCoins_d (n d : Nat) (q : (Int32 × bS)) (ra : Nat) (rb : Nat) (rc : Nat) (rf : Value) (rg : Value) (σ : bS) (h : cGoing_allCoins_d n σ = some q) : bfr MT (d + 0) M_X1_allCoins 0 [some (.ref 35), none, none] [] [] (mkC ra rb rc 1 rf rg σ) (some (.int q.1), mkC ra rb rc 1 rf rg q.2) := by
  unfold cGoing_allCoins_d at h
  refine bfr_run 4 4 [some (.ref 35), some (.int ci_0), some (.int ci_0)] [] [] (mkC ra rb rc 1 rf rg σ) (fun _ _ => rfl) ?_
  exact k_cGoing_allCoins_d_b4 n d q _ _ _ _ _ _ _ _ _ h
set_option maxRecDepth 100000 in
theorem k_cTop_coins (n d : Nat) (q : (Int32 × bS)) (x1 : Int32) (ra : Nat) (rb : Nat) (re : Nat) (rf : Value) (rg : Value) (σ : bS) (h : cTop_coins n x1 σ = some q) : bfx MT (d + 7) M_X11_coins 0 [some (.ref 0), some (.int x1)] [] [] (mkC ra rb 1 re rf rg σ) (fun ze => (some (.int q.1), mkC ra rb 1 ze rf rg q.2)) := by
  unfold cTop_coins at h
  refine bfx_call 2 (d1 := d + 6) (M1 := M_X11_isFar) (vs := [(.int x1)]) (w1 := mkC ra rb 1 re rf rg σ) (pc2 := 4) (L2 := [some (.ref 0), some (.int x1)]) (J2 := []) (rest := []) (fun a => some (.int a.1)) (fun a => mkC ra rb 1 re rf rg a.2) (fun _ _ => rfl) h (fun a ha => k_cTop_isFar n (d + 6) _ _ _ _ _ _ _ _ _ ha) (fun q1 _ h => ?_)
  refine bfx_br 1 (pc1 := 7) (L1 := [some (.ref 0), some (.int x1)]) (J1 := []) (st1 := []) (w1 := mkC ra rb 1 re rf rg q1.2) (pc2 := 9) (L2 := [some (.ref 0), some (.int x1)]) (J2 := []) (st2 := []) (w2 := mkC ra rb 1 re rf rg q1.2) (fun _ _ => rfl) h (fun h => ?_) (fun h => ?_)
  · cases h
    exact ⟨re, bfr_ret 2 (fun _ _ => rfl)⟩
  · refine bfx_call 3 (d1 := d + 6) (M1 := M_X11_dreamHours) (vs := [(.ref 0), (.int x1)]) (w1 := mkC ra rb 1 re rf rg q1.2) (pc2 := 14) (L2 := [some (.ref 0), some (.int x1)]) (J2 := []) (rest := []) (fun _ => none) (fun a => mkC ra rb 1 1 rf rg a) (fun _ _ => rfl) h (fun a ha => k_cTop_dreamHours n (d + 0) _ _ _ _ _ _ _ _ ha) (fun q2 _ h => ?_)
    refine bfx_call 3 (d1 := d + 6) (M1 := M_X1_allCoins) (vs := [(.ref 35)]) (w1 := mkC ra rb 1 1 rf rg q2) (pc2 := 21) (L2 := [some (.ref 0), some (.int x1)]) (J2 := []) (rest := []) (fun a => some (.int a.1)) (fun a => mkC ra rb 1 1 rf rg a.2) (fun _ _ => rfl) h (fun a ha => k_cGoing_allCoins_d n (d + 6) _ _ _ _ _ _ _ ha) (fun q3 _ h => ?_)
    cases h
    exact ⟨1, bfr_ret 1 (fun _ _ => rfl)⟩
set_option maxRecDepth 100000 in
theorem k_cGoing_homeBits_d_b29 (n d : Nat) (r4 : Int32 → Int32 → bS → Option (Int32 × bS)) (q : (Int32 × bS)) (hr4 : ∀ (x1 : Int32) (x2 : Int32) (ra : Nat) (rb : Nat) (rc : Nat) (rf : Value) (rg : Value) (σ : bS), r4 x1 x2 σ = some q → bfr MT (d + 1) M_X1_homeBits 4 [some (.ref 35), some (.int x1), some (.int x2)] [] [] (mkC ra rb rc 1 rf rg σ) (some (.int q.1), mkC ra rb rc 1 rf rg q.2)) (x1 : Int32) (x2 : Int32) (ra : Nat) (rb : Nat) (rc : Nat) (rf : Value) (rg : Value) (σ : bS) (h : cGoing_homeBits_d_b29 n r4 x1 x2 σ = some q) : bfr MT (d + 1) M_X1_homeBits 29 [some (.ref 35), some (.int x1), some (.int x2)] [] [] (mkC ra rb rc 1 rf rg σ) (some (.int q.1), mkC ra rb rc 1 rf rg q.2) := by
  unfold cGoing_homeBits_d_b29 at h
  refine bfr_run 1 32 [some (.ref 35), some (.int x1), some (.int (x2 + ci_1))] [] [] (mkC ra rb rc 1 rf rg σ) (fun _ _ => rfl) ?_
  refine bfr_run 1 4 [some (.ref 35), some (.int x1), some (.int (x2 + ci_1))] [] [] (mkC ra rb rc 1 rf rg σ) (fun _ _ => rfl) ?_
  exact hr4 _ _ _ _ _ _ _ _ h
set_option maxRecDepth 100000 in
theorem k_cGoing_homeBits_d_b4 (n d : Nat) (q : (Int32 × bS)) : ∀ (k : Nat) (x1 : Int32) (x2 : Int32) (ra : Nat) (rb : Nat) (rc : Nat) (rf : Value) (rg : Value) (σ : bS), cGoing_homeBits_d_b4 n k x1 x2 σ = some q → bfr MT (d + 1) M_X1_homeBits 4 [some (.ref 35), some (.int x1), some (.int x2)] [] [] (mkC ra rb rc 1 rf rg σ) (some (.int q.1), mkC ra rb rc 1 rf rg q.2) := by
  intro k
  induction k with
  | zero => intro x1 x2 ra rb rc rf rg σ h; exact bno h
  | succ k ih =>
    intro x1 x2 ra rb rc rf rg σ h
    unfold cGoing_homeBits_d_b4 at h
    refine bfr_br 5 (pc1 := 35) (L1 := [some (.ref 35), some (.int x1), some (.int x2)]) (J1 := []) (st1 := []) (w1 := mkC ra rb rc 1 rf rg σ) (pc2 := 15) (L2 := [some (.ref 35), some (.int x1), some (.int x2)]) (J2 := []) (st2 := []) (w2 := mkC ra rb rc 1 rf rg σ) (fun _ _ => rfl) h (fun h => ?_) (fun h => ?_)
    · cases h
      exact bfr_ret 2 (fun _ _ => rfl)
    · refine bfr_call 3 (d1 := d + 0) (M1 := M_X1_isHome) (vs := [(.ref 35), (.int x2)]) (w1 := mkC ra rb rc 1 rf rg σ) (pc2 := 20) (L2 := [some (.ref 35), some (.int x1), some (.int x2)]) (J2 := []) (rest := []) (fun a => some (.int a.1)) (fun a => mkC ra rb rc 1 rf rg a.2) (fun _ _ => rfl) h (fun a ha => k_cGoing_isHome_d n (d + 0) _ _ _ _ _ _ _ _ ha) (fun q1 _ h => ?_)
      refine bfr_br 1 (pc1 := 29) (L1 := [some (.ref 35), some (.int x1), some (.int x2)]) (J1 := []) (st1 := []) (w1 := mkC ra rb rc 1 rf rg q1.2) (pc2 := 23) (L2 := [some (.ref 35), some (.int x1), some (.int x2)]) (J2 := []) (st2 := []) (w2 := mkC ra rb rc 1 rf rg q1.2) (fun _ _ => rfl) h (fun h => ?_) (fun h => ?_)
      · exact k_cGoing_homeBits_d_b29 n d _ q (ih) _ _ _ _ _ _ _ _ h
      · refine bfr_run 6 29 [some (.ref 35), some (.int (x1 ||| (ci_1 <<< (x2 &&& 31)))), some (.int x2)] [] [] (mkC ra rb rc 1 rf rg q1.2) (fun _ _ => rfl) ?_
        exact k_cGoing_homeBits_d_b29 n d _ q (ih) _ _ _ _ _ _ _ _ h
set_option maxRecDepth 100000 in
theorem k_cGoing_homeBits_d (n d : Nat) (q : (Int32 × bS)) (ra : Nat) (rb : Nat) (rc : Nat) (rf : Value) (rg : Value) (σ : bS) (h : cGoing_homeBits_d n σ = some q) : bfr MT (d + 1) M_X1_homeBits 0 [some (.ref 35), none, none] [] [] (mkC ra rb rc 1 rf rg σ) (some (.int q.1), mkC ra rb rc 1 rf rg q.2) := by
  unfold cGoing_homeBits_d at h
  refine bfr_run 4 4 [some (.ref 35), some (.int ci_0), some (.int ci_0)] [] [] (mkC ra rb rc 1 rf rg σ) (fun _ _ => rfl) ?_
  exact k_cGoing_homeBits_d_b4 n d q _ _ _ _ _ _ _ _ _ h
set_option maxRecDepth 100000 in
theorem k_cTop_hoursTillHome_b70 (n d : Nat) (q : (Int32 × bS)) (s0 : Int32) (o0 : Option Value) (o1 : Option Value) (o2 : Option Value) (ra : Nat) (rb : Nat) (rf : Value) (rg : Value) (σ : bS) (h : cTop_hoursTillHome_b70 n s0 σ = some q) : bfr MT (d + 6) M_X11_hoursTillHome 70 [o0, o1, o2] [] [(.int s0)] (mkC ra rb 1 1 rf rg σ) (some (.int q.1), mkC ra rb 1 1 rf rg q.2) := by
  unfold cTop_hoursTillHome_b70 at h
  cases h
  exact bfr_ret 1 (fun _ _ => rfl)
set_option maxRecDepth 100000 in
theorem k_cTop_hoursTillHome_b13 (n d : Nat) (q : (Int32 × bS)) : ∀ (k : Nat) (x1 : Int32) (x2 : Int32) (ra : Nat) (rb : Nat) (rf : Value) (rg : Value) (σ : bS), cTop_hoursTillHome_b13 n k x1 x2 σ = some q → bfr MT (d + 6) M_X11_hoursTillHome 13 [some (.ref 0), some (.int x1), some (.int x2)] [] [] (mkC ra rb 1 1 rf rg σ) (some (.int q.1), mkC ra rb 1 1 rf rg q.2) := by
  intro k
  induction k with
  | zero => intro x1 x2 ra rb rf rg σ h; exact bno h
  | succ k ih =>
    intro x1 x2 ra rb rf rg σ h
    unfold cTop_hoursTillHome_b13 at h
    refine bfr_br 3 (pc1 := 49) (L1 := [some (.ref 0), some (.int x1), some (.int x2)]) (J1 := []) (st1 := []) (w1 := mkC ra rb 1 1 rf rg σ) (pc2 := 20) (L2 := [some (.ref 0), some (.int x1), some (.int x2)]) (J2 := []) (st2 := []) (w2 := mkC ra rb 1 1 rf rg σ) (fun _ _ => rfl) h (fun h => ?_) (fun h => ?_)
    · refine bfr_call 3 (d1 := d + 5) (M1 := M_X1_homeBits) (vs := [(.ref 35)]) (w1 := mkC ra rb 1 1 rf rg σ) (pc2 := 56) (L2 := [some (.ref 0), some (.int x1), some (.int x2)]) (J2 := []) (rest := []) (fun a => some (.int a.1)) (fun a => mkC ra rb 1 1 rf rg a.2) (fun _ _ => rfl) h (fun a ha => k_cGoing_homeBits_d n (d + 4) _ _ _ _ _ _ _ ha) (fun q1 _ h => ?_)
      refine bfr_br 4 (pc1 := 62) (L1 := [some (.ref 0), some (.int x1), some (.int x2)]) (J1 := []) (st1 := []) (w1 := mkC ra rb 1 1 rf rg q1.2) (pc2 := 68) (L2 := [some (.ref 0), some (.int x1), some (.int x2)]) (J2 := []) (st2 := []) (w2 := mkC ra rb 1 1 rf rg q1.2) (fun _ _ => rfl) h (fun h => ?_) (fun h => ?_)
      · refine bfr_run 2 70 [some (.ref 0), some (.int x1), some (.int x2)] [] [(.int cs_300)] (mkC ra rb 1 1 rf rg q1.2) (fun _ _ => rfl) ?_
        exact k_cTop_hoursTillHome_b70 n d q _ _ _ _ _ _ _ _ _ h
      · refine bfr_run 1 70 [some (.ref 0), some (.int x1), some (.int x2)] [] [(.int cb_m2)] (mkC ra rb 1 1 rf rg q1.2) (fun _ _ => rfl) ?_
        exact k_cTop_hoursTillHome_b70 n d q _ _ _ _ _ _ _ _ _ h
    · refine bfr_call 3 (d1 := d + 5) (M1 := M_X1_homeBits) (vs := [(.ref 35)]) (w1 := mkC ra rb 1 1 rf rg σ) (pc2 := 27) (L2 := [some (.ref 0), some (.int x1), some (.int x2)]) (J2 := []) (rest := []) (fun a => some (.int a.1)) (fun a => mkC ra rb 1 1 rf rg a.2) (fun _ _ => rfl) h (fun a ha => k_cGoing_homeBits_d n (d + 4) _ _ _ _ _ _ _ ha) (fun q2 _ h => ?_)
      refine bfr_br 4 (pc1 := 33) (L1 := [some (.ref 0), some (.int x1), some (.int x2)]) (J1 := []) (st1 := []) (w1 := mkC ra rb 1 1 rf rg q2.2) (pc2 := 35) (L2 := [some (.ref 0), some (.int x1), some (.int x2)]) (J2 := []) (st2 := []) (w2 := mkC ra rb 1 1 rf rg q2.2) (fun _ _ => rfl) h (fun h => ?_) (fun h => ?_)
      · cases h
        exact bfr_ret 2 (fun _ _ => rfl)
      · refine bfr_call 4 (d1 := d + 5) (M1 := M_X1_ruleHour) (vs := [(.ref 35), (.int ci_m1)]) (w1 := mkC ra rb 1 1 rf rg q2.2) (pc2 := 43) (L2 := [some (.ref 0), some (.int x1), some (.int x2)]) (J2 := []) (rest := []) (fun _ => none) (fun a => mkC ra rb 1 1 rf rg a) (fun _ _ => rfl) h (fun a ha => k_cGoing_ruleHour_d n (d + 0) _ _ _ _ _ _ _ _ ha) (fun q3 _ h => ?_)
        refine bfr_run 1 46 [some (.ref 0), some (.int x1), some (.int (x2 + ci_1))] [] [] (mkC ra rb 1 1 rf rg q3) (fun _ _ => rfl) ?_
        refine bfr_run 1 13 [some (.ref 0), some (.int x1), some (.int (x2 + ci_1))] [] [] (mkC ra rb 1 1 rf rg q3) (fun _ _ => rfl) ?_
        exact ih _ _ _ _ _ _ _ h
set_option maxRecDepth 100000 in
theorem k_cTop_hoursTillHome (n d : Nat) (q : (Int32 × bS)) (x1 : Int32) (ra : Nat) (rb : Nat) (re : Nat) (rf : Value) (rg : Value) (σ : bS) (h : cTop_hoursTillHome n x1 σ = some q) : bfr MT (d + 6) M_X11_hoursTillHome 0 [some (.ref 0), some (.int x1), none] [] [] (mkC ra rb 1 re rf rg σ) (some (.int q.1), mkC ra rb 1 1 rf rg q.2) := by
  unfold cTop_hoursTillHome at h
  refine bfr_call 5 (d1 := d + 5) (M1 := M_X1_copyFrom) (vs := [(.ref 35), (.ref 27)]) (w1 := mkC ra rb 1 re rf rg σ) (pc2 := 11) (L2 := [some (.ref 0), some (.int x1), none]) (J2 := []) (rest := []) (fun _ => none) (fun a => mkC ra rb 1 1 rf rg a) (fun _ _ => rfl) h (fun a ha => k_cGoing_copyFrom_d_27 n (d + 4) _ _ _ _ _ _ _ _ ha) (fun q4 _ h => ?_)
  refine bfr_run 2 13 [some (.ref 0), some (.int x1), some (.int ci_0)] [] [] (mkC ra rb 1 1 rf rg q4) (fun _ _ => rfl) ?_
  exact k_cTop_hoursTillHome_b13 n d q _ _ _ _ _ _ _ _ h
set_option maxRecDepth 100000 in
theorem k_cTop_homeBy_b19 (n d : Nat) (q : (Int32 × bS)) (s0 : Int32) (o0 : Option Value) (o1 : Option Value) (rb : Nat) (rf : Value) (rg : Value) (zz : Nat) (σ : bS) (h : cTop_homeBy_b19 n s0 σ = some q) : bfx MT (d + 7) M_X11_homeBy 19 [o0, o1] [] [(.int s0)] (mkC 1 rb 1 zz rf rg σ) (fun ze => (some (.int q.1), mkC 1 rb 1 ze rf rg q.2)) := by
  unfold cTop_homeBy_b19 at h
  cases h
  exact ⟨zz, bfr_ret 1 (fun _ _ => rfl)⟩
set_option maxRecDepth 100000 in
theorem k_cTop_homeBy (n d : Nat) (q : (Int32 × bS)) (x1 : Int32) (rb : Nat) (re : Nat) (rf : Value) (rg : Value) (σ : bS) (h : cTop_homeBy n x1 σ = some q) : bfx MT (d + 7) M_X11_homeBy 0 [some (.ref 0), some (.int x1)] [] [] (mkC 1 rb 1 re rf rg σ) (fun ze => (some (.int q.1), mkC 1 rb 1 ze rf rg q.2)) := by
  unfold cTop_homeBy at h
  refine bfx_call 3 (d1 := d + 6) (M1 := M_X11_isMan) (vs := [(.ref 0), (.int x1)]) (w1 := mkC 1 rb 1 re rf rg σ) (pc2 := 5) (L2 := [some (.ref 0), some (.int x1)]) (J2 := []) (rest := []) (fun a => some (.int a.1)) (fun a => mkC 1 rb 1 re rf rg a.2) (fun _ _ => rfl) h (fun a ha => k_cTop_isMan n (d + 6) _ _ _ _ _ _ _ _ ha) (fun q1 _ h => ?_)
  refine bfx_br 1 (pc1 := 18) (L1 := [some (.ref 0), some (.int x1)]) (J1 := []) (st1 := []) (w1 := mkC 1 rb 1 re rf rg q1.2) (pc2 := 8) (L2 := [some (.ref 0), some (.int x1)]) (J2 := []) (st2 := []) (w2 := mkC 1 rb 1 re rf rg q1.2) (fun _ _ => rfl) h (fun h => ?_) (fun h => ?_)
  · refine bfx_run 1 19 [some (.ref 0), some (.int x1)] [] [(.int ci_m1)] (mkC 1 rb 1 re rf rg q1.2) (fun _ _ => rfl) ?_
    exact k_cTop_homeBy_b19 n d q _ _ _ _ _ _ _ _ h
  · refine bfx_call 5 (d1 := d + 6) (M1 := M_X11_hoursTillHome) (vs := [(.ref 0), (.int (ci_1 <<< (x1 &&& 31)))]) (w1 := mkC 1 rb 1 re rf rg q1.2) (pc2 := 15) (L2 := [some (.ref 0), some (.int x1)]) (J2 := []) (rest := []) (fun a => some (.int a.1)) (fun a => mkC 1 rb 1 1 rf rg a.2) (fun _ _ => rfl) h (fun a ha => k_cTop_hoursTillHome n (d + 0) _ _ _ _ _ _ _ _ ha) (fun q2 _ h => ?_)
    refine bfx_run 1 19 [some (.ref 0), some (.int x1)] [] [(.int q2.1)] (mkC 1 rb 1 1 rf rg q2.2) (fun _ _ => rfl) ?_
    exact k_cTop_homeBy_b19 n d q _ _ _ _ _ _ _ _ h
set_option maxRecDepth 100000 in
theorem k_cTop_allHome_b12 (n d : Nat) (q : (Int32 × bS)) (s1 : Int32) (o0 : Option Value) (rb : Nat) (re : Nat) (rf : Value) (rg : Value) (σ : bS) (h : cTop_allHome_b12 n s1 σ = some q) : bfr MT (d + 7) M_X11_allHome 12 [o0] [] [(.int s1), (.ref 0)] (mkC 1 rb 1 re rf rg σ) (some (.int q.1), mkC 1 rb 1 1 rf rg q.2) := by
  unfold cTop_allHome_b12 at h
  refine bfr_call 1 (d1 := d + 6) (M1 := M_X11_hoursTillHome) (vs := [(.ref 0), (.int s1)]) (w1 := mkC 1 rb 1 re rf rg σ) (pc2 := 15) (L2 := [o0]) (J2 := []) (rest := []) (fun a => some (.int a.1)) (fun a => mkC 1 rb 1 1 rf rg a.2) (fun _ _ => rfl) h (fun a ha => k_cTop_hoursTillHome n (d + 0) _ _ _ _ _ _ _ _ ha) (fun q1 _ h => ?_)
  cases h
  exact bfr_ret 1 (fun _ _ => rfl)
set_option maxRecDepth 100000 in
theorem k_cTop_allHome (n d : Nat) (q : (Int32 × bS)) (rb : Nat) (re : Nat) (rf : Value) (rg : Value) (σ : bS) (h : cTop_allHome n σ = some q) : bfr MT (d + 7) M_X11_allHome 0 [some (.ref 0)] [] [] (mkC 1 rb 1 re rf rg σ) (some (.int q.1), mkC 1 rb 1 1 rf rg q.2) := by
  unfold cTop_allHome at h
  refine bfr_run 6 10 [some (.ref 0)] [] [(.int (ci_1 <<< ((sI σ 1 3) &&& 31))), (.ref 0)] (mkC 1 rb 1 re rf rg σ) (fun _ _ => rfl) ?_
  refine bfr_run 2 12 [some (.ref 0)] [] [(.int ((ci_1 <<< ((sI σ 1 3) &&& 31)) - ci_1)), (.ref 0)] (mkC 1 rb 1 re rf rg σ) (fun _ _ => rfl) ?_
  exact k_cTop_allHome_b12 n d q _ _ _ _ _ _ _ h
set_option maxRecDepth 100000 in
theorem k_cTop_isHomeBySeed_b53 (n d : Nat) (q : (Int32 × bS)) (x1 : Int32) (o2 : Option Value) (o3 : Option Value) (o4 : Option Value) (ra : Nat) (rb : Nat) (rf : Value) (rg : Value) (σ : bS) (h : cTop_isHomeBySeed_b53 n x1 σ = some q) : bfr MT (d + 6) M_X11_isHomeBySeed 53 [some (.ref 0), some (.int x1), o2, o3, o4] [] [] (mkC ra rb 1 1 rf rg σ) (some (.int q.1), mkC ra rb 1 1 rf rg q.2) := by
  unfold cTop_isHomeBySeed_b53 at h
  refine bfr_call 4 (d1 := d + 5) (M1 := M_X1_isHome) (vs := [(.ref 35), (.int x1)]) (w1 := mkC ra rb 1 1 rf rg σ) (pc2 := 61) (L2 := [some (.ref 0), some (.int x1), o2, o3, o4]) (J2 := []) (rest := []) (fun a => some (.int a.1)) (fun a => mkC ra rb 1 1 rf rg a.2) (fun _ _ => rfl) h (fun a ha => k_cGoing_isHome_d n (d + 5) _ _ _ _ _ _ _ _ ha) (fun q1 _ h => ?_)
  exact bfr_bz (mk := mkC ra rb 1 1 rf rg) 1 (fun _ _ => rfl) h
set_option maxRecDepth 100000 in
theorem k_cTop_isHomeBySeed_b22 (n d : Nat) (q : (Int32 × bS)) : ∀ (k : Nat) (x1 : Int32) (x2 : Int32) (x4 : Int32) (o3 : Option Value) (ra : Nat) (rb : Nat) (rf : Value) (rg : Value) (σ : bS), cTop_isHomeBySeed_b22 n k x1 x2 x4 σ = some q → bfr MT (d + 6) M_X11_isHomeBySeed 22 [some (.ref 0), some (.int x1), some (.int x2), o3, some (.int x4)] [] [] (mkC ra rb 1 1 rf rg σ) (some (.int q.1), mkC ra rb 1 1 rf rg q.2) := by
  intro k
  induction k with
  | zero => intro x1 x2 x4 o3 ra rb rf rg σ h; exact bno h
  | succ k ih =>
    intro x1 x2 x4 o3 ra rb rf rg σ h
    unfold cTop_isHomeBySeed_b22 at h
    refine bfr_br 3 (pc1 := 53) (L1 := [some (.ref 0), some (.int x1), some (.int x2), o3, some (.int x4)]) (J1 := []) (st1 := []) (w1 := mkC ra rb 1 1 rf rg σ) (pc2 := 28) (L2 := [some (.ref 0), some (.int x1), some (.int x2), o3, some (.int x4)]) (J2 := []) (st2 := []) (w2 := mkC ra rb 1 1 rf rg σ) (fun _ _ => rfl) h (fun h => ?_) (fun h => ?_)
    · exact k_cTop_isHomeBySeed_b53 n d q _ _ _ _ _ _ _ _ _ h
    · refine bfr_call 4 (d1 := d + 5) (M1 := M_X1_isHome) (vs := [(.ref 35), (.int x1)]) (w1 := mkC ra rb 1 1 rf rg σ) (pc2 := 36) (L2 := [some (.ref 0), some (.int x1), some (.int x2), o3, some (.int x4)]) (J2 := []) (rest := []) (fun a => some (.int a.1)) (fun a => mkC ra rb 1 1 rf rg a.2) (fun _ _ => rfl) h (fun a ha => k_cGoing_isHome_d n (d + 5) _ _ _ _ _ _ _ _ ha) (fun q2 _ h => ?_)
      refine bfr_br 1 (pc1 := 39) (L1 := [some (.ref 0), some (.int x1), some (.int x2), o3, some (.int x4)]) (J1 := []) (st1 := []) (w1 := mkC ra rb 1 1 rf rg q2.2) (pc2 := 53) (L2 := [some (.ref 0), some (.int x1), some (.int x2), o3, some (.int x4)]) (J2 := []) (st2 := []) (w2 := mkC ra rb 1 1 rf rg q2.2) (fun _ _ => rfl) h (fun h => ?_) (fun h => ?_)
      · refine bfr_call 4 (d1 := d + 5) (M1 := M_X1_ruleHour) (vs := [(.ref 35), (.int ci_m1)]) (w1 := mkC ra rb 1 1 rf rg q2.2) (pc2 := 47) (L2 := [some (.ref 0), some (.int x1), some (.int x2), o3, some (.int x4)]) (J2 := []) (rest := []) (fun _ => none) (fun a => mkC ra rb 1 1 rf rg a) (fun _ _ => rfl) h (fun a ha => k_cGoing_ruleHour_d n (d + 0) _ _ _ _ _ _ _ _ ha) (fun q3 _ h => ?_)
        refine bfr_run 1 50 [some (.ref 0), some (.int x1), some (.int x2), o3, some (.int (x4 + ci_1))] [] [] (mkC ra rb 1 1 rf rg q3) (fun _ _ => rfl) ?_
        refine bfr_run 1 22 [some (.ref 0), some (.int x1), some (.int x2), o3, some (.int (x4 + ci_1))] [] [] (mkC ra rb 1 1 rf rg q3) (fun _ _ => rfl) ?_
        exact ih _ _ _ _ _ _ _ _ _ h
      · exact k_cTop_isHomeBySeed_b53 n d q _ _ _ _ _ _ _ _ _ h
set_option maxRecDepth 100000 in
theorem k_cTop_isHomeBySeed (n d : Nat) (q : (Int32 × bS)) (x1 : Int32) (x2 : Int32) (x3 : Int32) (ra : Nat) (rb : Nat) (re : Nat) (rf : Value) (rg : Value) (σ : bS) (h : cTop_isHomeBySeed n x1 x2 x3 σ = some q) : bfr MT (d + 6) M_X11_isHomeBySeed 0 [some (.ref 0), some (.int x1), some (.int x2), some (.int x3), none] [] [] (mkC ra rb 1 re rf rg σ) (some (.int q.1), mkC ra rb 1 1 rf rg q.2) := by
  unfold cTop_isHomeBySeed at h
  refine bfr_call 5 (d1 := d + 5) (M1 := M_X1_copyFrom) (vs := [(.ref 35), (.ref 27)]) (w1 := mkC ra rb 1 re rf rg σ) (pc2 := 11) (L2 := [some (.ref 0), some (.int x1), some (.int x2), some (.int x3), none]) (J2 := []) (rest := []) (fun _ => none) (fun a => mkC ra rb 1 1 rf rg a) (fun _ _ => rfl) h (fun a ha => k_cGoing_copyFrom_d_27 n (d + 4) _ _ _ _ _ _ _ _ ha) (fun q4 _ h => ?_)
  refine bfr_run 4 19 [some (.ref 0), some (.int x1), some (.int x2), some (.int x3), none] [] [] ((mkC ra rb 1 1 rf rg q4).set 35 (.inr (.inr (1, (mkC_35  ra rb 1 1 rf rg q4).set 1 (.int x3))))) (fun _ _ => rfl) ?_
  rw [mkC_I35_1]
  refine bfr_run 2 22 [some (.ref 0), some (.int x1), some (.int x2), some (.int x3), some (.int ci_0)] [] [] (mkC ra rb 1 1 rf rg (uI q4 35 1 x3)) (fun _ _ => rfl) ?_
  exact k_cTop_isHomeBySeed_b22 n d q _ _ _ _ _ _ _ _ _ _ h
set_option maxRecDepth 100000 in
theorem k_cTop_odds_b122 (n d : Nat) (q : (Int32 × bS)) (s0 : Int32) (o0 : Option Value) (o1 : Option Value) (o2 : Option Value) (o3 : Option Value) (o4 : Option Value) (o5 : Option Value) (o6 : Option Value) (o7 : Option Value) (rb : Nat) (rf : Value) (rg : Value) (zz : Nat) (σ : bS) (h : cTop_odds_b122 n s0 σ = some q) : bfx MT (d + 7) M_X11_odds 122 [o0, o1, o2, o3, o4, o5, o6, o7] [] [(.int s0)] (mkC 1 rb 1 zz rf rg σ) (fun ze => (some (.int q.1), mkC 1 rb 1 ze rf rg q.2)) := by
  unfold cTop_odds_b122 at h
  cases h
  exact ⟨zz, bfr_ret 1 (fun _ _ => rfl)⟩
set_option maxRecDepth 100000 in
theorem k_cTop_odds_b102 (n d : Nat) (r73 : Int32 → Int32 → Int32 → Int32 → Int32 → Int32 → Int32 → bS → Option (Int32 × bS)) (q : (Int32 × bS)) (hr73 : ∀ (x1 : Int32) (x2 : Int32) (x3 : Int32) (x4 : Int32) (x5 : Int32) (x6 : Int32) (x7 : Int32) (rb : Nat) (rf : Value) (rg : Value) (zz : Nat) (σ : bS), r73 x1 x2 x3 x4 x5 x6 x7 σ = some q → bfx MT (d + 7) M_X11_odds 73 [some (.ref 0), some (.int x1), some (.int x2), some (.int x3), some (.int x4), some (.int x5), some (.int x6), some (.int x7)] [] [] (mkC 1 rb 1 zz rf rg σ) (fun ze => (some (.int q.1), mkC 1 rb 1 ze rf rg q.2))) (x1 : Int32) (x2 : Int32) (x3 : Int32) (x4 : Int32) (x5 : Int32) (x6 : Int32) (x7 : Int32) (rb : Nat) (rf : Value) (rg : Value) (σ : bS) (h : cTop_odds_b102 n r73 x1 x2 x3 x4 x5 x6 x7 σ = some q) : bfx MT (d + 7) M_X11_odds 102 [some (.ref 0), some (.int x1), some (.int x2), some (.int x3), some (.int x4), some (.int x5), some (.int x6), some (.int x7)] [] [] (mkC 1 rb 1 1 rf rg σ) (fun ze => (some (.int q.1), mkC 1 rb 1 ze rf rg q.2)) := by
  unfold cTop_odds_b102 at h
  refine bfx_run 1 105 [some (.ref 0), some (.int x1), some (.int x2), some (.int x3), some (.int x4), some (.int x5), some (.int x6), some (.int (x7 + ci_1))] [] [] (mkC 1 rb 1 1 rf rg σ) (fun _ _ => rfl) ?_
  refine bfx_run 1 73 [some (.ref 0), some (.int x1), some (.int x2), some (.int x3), some (.int x4), some (.int x5), some (.int x6), some (.int (x7 + ci_1))] [] [] (mkC 1 rb 1 1 rf rg σ) (fun _ _ => rfl) ?_
  exact hr73 _ _ _ _ _ _ _ _ _ _ _ _ h
set_option maxRecDepth 100000 in
theorem k_cTop_odds_b73 (n d : Nat) (q : (Int32 × bS)) : ∀ (k : Nat) (x1 : Int32) (x2 : Int32) (x3 : Int32) (x4 : Int32) (x5 : Int32) (x6 : Int32) (x7 : Int32) (rb : Nat) (rf : Value) (rg : Value) (zz : Nat) (σ : bS), cTop_odds_b73 n k x1 x2 x3 x4 x5 x6 x7 σ = some q → bfx MT (d + 7) M_X11_odds 73 [some (.ref 0), some (.int x1), some (.int x2), some (.int x3), some (.int x4), some (.int x5), some (.int x6), some (.int x7)] [] [] (mkC 1 rb 1 zz rf rg σ) (fun ze => (some (.int q.1), mkC 1 rb 1 ze rf rg q.2)) := by
  intro k
  induction k with
  | zero => intro x1 x2 x3 x4 x5 x6 x7 rb rf rg zz σ h; exact bno h
  | succ k ih =>
    intro x1 x2 x3 x4 x5 x6 x7 rb rf rg zz σ h
    unfold cTop_odds_b73 at h
    refine bfx_br 3 (pc1 := 108) (L1 := [some (.ref 0), some (.int x1), some (.int x2), some (.int x3), some (.int x4), some (.int x5), some (.int x6), some (.int x7)]) (J1 := []) (st1 := []) (w1 := mkC 1 rb 1 zz rf rg σ) (pc2 := 80) (L2 := [some (.ref 0), some (.int x1), some (.int x2), some (.int x3), some (.int x4), some (.int x5), some (.int x6), some (.int x7)]) (J2 := []) (st2 := []) (w2 := mkC 1 rb 1 zz rf rg σ) (fun _ _ => rfl) h (fun h => ?_) (fun h => ?_)
    · refine bfx_br 2 (pc1 := 120) (L1 := [some (.ref 0), some (.int x1), some (.int x2), some (.int x3), some (.int x4), some (.int x5), some (.int x6), some (.int x7)]) (J1 := []) (st1 := []) (w1 := mkC 1 rb 1 zz rf rg σ) (pc2 := 113) (L2 := [some (.ref 0), some (.int x1), some (.int x2), some (.int x3), some (.int x4), some (.int x5), some (.int x6), some (.int x7)]) (J2 := []) (st2 := []) (w2 := mkC 1 rb 1 zz rf rg σ) (fun _ _ => rfl) h (fun h => ?_) (fun h => ?_)
      · refine bfx_run 1 122 [some (.ref 0), some (.int x1), some (.int x2), some (.int x3), some (.int x4), some (.int x5), some (.int x6), some (.int x7)] [] [(.int x6)] (mkC 1 rb 1 zz rf rg σ) (fun _ _ => rfl) ?_
        exact k_cTop_odds_b122 n d q _ _ _ _ _ _ _ _ _ _ _ _ _ _ h
      · refine bfx_run 4 122 [some (.ref 0), some (.int x1), some (.int x2), some (.int x3), some (.int x4), some (.int x5), some (.int x6), some (.int x7)] [] [(.int (x6 * x3))] (mkC 1 rb 1 zz rf rg σ) (fun _ _ => rfl) ?_
        exact k_cTop_odds_b122 n d q _ _ _ _ _ _ _ _ _ _ _ _ _ _ h
    · refine bfx_run 6 90 [some (.ref 0), some (.int x1), some (.int x2), some (.int x3), some (.int x4), some (.int x5), some (.int x6), some (.int x7)] [] [(.int (sI σ 1 18)), (.int x2), (.int x1), (.ref 0)] (mkC 1 rb 1 zz rf rg σ) (fun _ _ => rfl) ?_
      refine bfx_call 3 (d1 := d + 6) (M1 := M_X11_isHomeBySeed) (vs := [(.ref 0), (.int x1), (.int x2), (.int ((sI σ 1 18) + x7))]) (w1 := mkC 1 rb 1 zz rf rg σ) (pc2 := 96) (L2 := [some (.ref 0), some (.int x1), some (.int x2), some (.int x3), some (.int x4), some (.int x5), some (.int x6), some (.int x7)]) (J2 := []) (rest := []) (fun a => some (.int a.1)) (fun a => mkC 1 rb 1 1 rf rg a.2) (fun _ _ => rfl) h (fun a ha => k_cTop_isHomeBySeed n (d + 0) _ _ _ _ _ _ _ _ _ _ ha) (fun q1 _ h => ?_)
      refine bfx_br 1 (pc1 := 102) (L1 := [some (.ref 0), some (.int x1), some (.int x2), some (.int x3), some (.int x4), some (.int x5), some (.int x6), some (.int x7)]) (J1 := []) (st1 := []) (w1 := mkC 1 rb 1 1 rf rg q1.2) (pc2 := 99) (L2 := [some (.ref 0), some (.int x1), some (.int x2), some (.int x3), some (.int x4), some (.int x5), some (.int x6), some (.int x7)]) (J2 := []) (st2 := []) (w2 := mkC 1 rb 1 1 rf rg q1.2) (fun _ _ => rfl) h (fun h => ?_) (fun h => ?_)
      · exact k_cTop_odds_b102 n d _ q (ih) _ _ _ _ _ _ _ _ _ _ _ h
      · refine bfx_run 1 102 [some (.ref 0), some (.int x1), some (.int x2), some (.int x3), some (.int x4), some (.int x5), some (.int (x6 + ci_1)), some (.int x7)] [] [] (mkC 1 rb 1 1 rf rg q1.2) (fun _ _ => rfl) ?_
        exact k_cTop_odds_b102 n d _ q (ih) _ _ _ _ _ _ _ _ _ _ _ h
set_option maxRecDepth 100000 in
theorem k_cTop_odds_b65 (n d : Nat) (q : (Int32 × bS)) (x1 : Int32) (x2 : Int32) (x3 : Int32) (x4 : Int32) (s0 : Int32) (o5 : Option Value) (o6 : Option Value) (o7 : Option Value) (rb : Nat) (re : Nat) (rf : Value) (rg : Value) (σ : bS) (h : cTop_odds_b65 n x1 x2 x3 x4 s0 σ = some q) : bfx MT (d + 7) M_X11_odds 65 [some (.ref 0), some (.int x1), some (.int x2), some (.int x3), some (.int x4), o5, o6, o7] [] [(.int s0)] (mkC 1 rb 1 re rf rg σ) (fun ze => (some (.int q.1), mkC 1 rb 1 ze rf rg q.2)) := by
  unfold cTop_odds_b65 at h
  refine bfx_run 5 73 [some (.ref 0), some (.int x1), some (.int x2), some (.int x3), some (.int x4), some (.int s0), some (.int ci_0), some (.int ci_0)] [] [] (mkC 1 rb 1 re rf rg σ) (fun _ _ => rfl) ?_
  exact k_cTop_odds_b73 n d q _ _ _ _ _ _ _ _ _ _ _ _ _ h
set_option maxRecDepth 100000 in
theorem k_cTop_odds_b53 (n d : Nat) (q : (Int32 × bS)) (x1 : Int32) (x2 : Int32) (x3 : Int32) (s0 : Int32) (o4 : Option Value) (o5 : Option Value) (o6 : Option Value) (o7 : Option Value) (rb : Nat) (re : Nat) (rf : Value) (rg : Value) (σ : bS) (h : cTop_odds_b53 n x1 x2 x3 s0 σ = some q) : bfx MT (d + 7) M_X11_odds 53 [some (.ref 0), some (.int x1), some (.int x2), some (.int x3), o4, o5, o6, o7] [] [(.int s0)] (mkC 1 rb 1 re rf rg σ) (fun ze => (some (.int q.1), mkC 1 rb 1 ze rf rg q.2)) := by
  unfold cTop_odds_b53 at h
  refine bfx_br 3 (pc1 := 64) (L1 := [some (.ref 0), some (.int x1), some (.int x2), some (.int x3), some (.int s0), o5, o6, o7]) (J1 := []) (st1 := []) (w1 := mkC 1 rb 1 re rf rg σ) (pc2 := 60) (L2 := [some (.ref 0), some (.int x1), some (.int x2), some (.int x3), some (.int s0), o5, o6, o7]) (J2 := []) (st2 := []) (w2 := mkC 1 rb 1 re rf rg σ) (fun _ _ => rfl) h (fun h => ?_) (fun h => ?_)
  · refine bfx_run 1 65 [some (.ref 0), some (.int x1), some (.int x2), some (.int x3), some (.int s0), o5, o6, o7] [] [(.int x3)] (mkC 1 rb 1 re rf rg σ) (fun _ _ => rfl) ?_
    exact k_cTop_odds_b65 n d q _ _ _ _ _ _ _ _ _ _ _ _ _ h
  · refine bfx_run 2 65 [some (.ref 0), some (.int x1), some (.int x2), some (.int x3), some (.int s0), o5, o6, o7] [] [(.int ci_1)] (mkC 1 rb 1 re rf rg σ) (fun _ _ => rfl) ?_
    exact k_cTop_odds_b65 n d q _ _ _ _ _ _ _ _ _ _ _ _ _ h
set_option maxRecDepth 100000 in
theorem k_cTop_odds_b52 (n d : Nat) (q : (Int32 × bS)) (x1 : Int32) (x2 : Int32) (x3 : Int32) (o4 : Option Value) (o5 : Option Value) (o6 : Option Value) (o7 : Option Value) (rb : Nat) (re : Nat) (rf : Value) (rg : Value) (σ : bS) (h : cTop_odds_b52 n x1 x2 x3 σ = some q) : bfx MT (d + 7) M_X11_odds 52 [some (.ref 0), some (.int x1), some (.int x2), some (.int x3), o4, o5, o6, o7] [] [] (mkC 1 rb 1 re rf rg σ) (fun ze => (some (.int q.1), mkC 1 rb 1 ze rf rg q.2)) := by
  unfold cTop_odds_b52 at h
  refine bfx_run 1 53 [some (.ref 0), some (.int x1), some (.int x2), some (.int x3), o4, o5, o6, o7] [] [(.int ci_0)] (mkC 1 rb 1 re rf rg σ) (fun _ _ => rfl) ?_
  exact k_cTop_odds_b53 n d q _ _ _ _ _ _ _ _ _ _ _ _ _ h
set_option maxRecDepth 100000 in
theorem k_cTop_odds_b26 (n d : Nat) (q : (Int32 × bS)) (o0 : Option Value) (o1 : Option Value) (o2 : Option Value) (o3 : Option Value) (o4 : Option Value) (o5 : Option Value) (o6 : Option Value) (o7 : Option Value) (rb : Nat) (re : Nat) (rf : Value) (rg : Value) (σ : bS) (h : cTop_odds_b26 n σ = some q) : bfx MT (d + 7) M_X11_odds 26 [o0, o1, o2, o3, o4, o5, o6, o7] [] [] (mkC 1 rb 1 re rf rg σ) (fun ze => (some (.int q.1), mkC 1 rb 1 ze rf rg q.2)) := by
  unfold cTop_odds_b26 at h
  cases h
  exact ⟨re, bfr_ret 2 (fun _ _ => rfl)⟩
set_option maxRecDepth 100000 in
theorem k_cTop_odds (n d : Nat) (q : (Int32 × bS)) (x1 : Int32) (x2 : Int32) (x3 : Int32) (rb : Nat) (re : Nat) (rf : Value) (rg : Value) (σ : bS) (h : cTop_odds n x1 x2 x3 σ = some q) : bfx MT (d + 7) M_X11_odds 0 [some (.ref 0), some (.int x1), some (.int x2), some (.int x3), none, none, none, none] [] [] (mkC 1 rb 1 re rf rg σ) (fun ze => (some (.int q.1), mkC 1 rb 1 ze rf rg q.2)) := by
  unfold cTop_odds at h
  refine bfx_call 3 (d1 := d + 6) (M1 := M_X11_isMan) (vs := [(.ref 0), (.int x1)]) (w1 := mkC 1 rb 1 re rf rg σ) (pc2 := 5) (L2 := [some (.ref 0), some (.int x1), some (.int x2), some (.int x3), none, none, none, none]) (J2 := []) (rest := []) (fun a => some (.int a.1)) (fun a => mkC 1 rb 1 re rf rg a.2) (fun _ _ => rfl) h (fun a ha => k_cTop_isMan n (d + 6) _ _ _ _ _ _ _ _ ha) (fun q2 _ h => ?_)
  refine bfx_br 1 (pc1 := 26) (L1 := [some (.ref 0), some (.int x1), some (.int x2), some (.int x3), none, none, none, none]) (J1 := []) (st1 := []) (w1 := mkC 1 rb 1 re rf rg q2.2) (pc2 := 8) (L2 := [some (.ref 0), some (.int x1), some (.int x2), some (.int x3), none, none, none, none]) (J2 := []) (st2 := []) (w2 := mkC 1 rb 1 re rf rg q2.2) (fun _ _ => rfl) h (fun h => ?_) (fun h => ?_)
  · exact k_cTop_odds_b26 n d q _ _ _ _ _ _ _ _ _ _ _ _ _ h
  · refine bfx_call 2 (d1 := d + 6) (M1 := M_X11_isFar) (vs := [(.int x2)]) (w1 := mkC 1 rb 1 re rf rg q2.2) (pc2 := 12) (L2 := [some (.ref 0), some (.int x1), some (.int x2), some (.int x3), none, none, none, none]) (J2 := []) (rest := []) (fun a => some (.int a.1)) (fun a => mkC 1 rb 1 re rf rg a.2) (fun _ _ => rfl) h (fun a ha => k_cTop_isFar n (d + 6) _ _ _ _ _ _ _ _ _ ha) (fun q3 _ h => ?_)
    refine bfx_br 1 (pc1 := 26) (L1 := [some (.ref 0), some (.int x1), some (.int x2), some (.int x3), none, none, none, none]) (J1 := []) (st1 := []) (w1 := mkC 1 rb 1 re rf rg q3.2) (pc2 := 15) (L2 := [some (.ref 0), some (.int x1), some (.int x2), some (.int x3), none, none, none, none]) (J2 := []) (st2 := []) (w2 := mkC 1 rb 1 re rf rg q3.2) (fun _ _ => rfl) h (fun h => ?_) (fun h => ?_)
    · exact k_cTop_odds_b26 n d q _ _ _ _ _ _ _ _ _ _ _ _ _ h
    · refine bfx_br 3 (pc1 := 26) (L1 := [some (.ref 0), some (.int x1), some (.int x2), some (.int x3), none, none, none, none]) (J1 := []) (st1 := []) (w1 := mkC 1 rb 1 re rf rg q3.2) (pc2 := 20) (L2 := [some (.ref 0), some (.int x1), some (.int x2), some (.int x3), none, none, none, none]) (J2 := []) (st2 := []) (w2 := mkC 1 rb 1 re rf rg q3.2) (fun _ _ => rfl) h (fun h => ?_) (fun h => ?_)
      · exact k_cTop_odds_b26 n d q _ _ _ _ _ _ _ _ _ _ _ _ _ h
      · refine bfx_br 3 (pc1 := 28) (L1 := [some (.ref 0), some (.int x1), some (.int x2), some (.int x3), none, none, none, none]) (J1 := []) (st1 := []) (w1 := mkC 1 rb 1 re rf rg q3.2) (pc2 := 26) (L2 := [some (.ref 0), some (.int x1), some (.int x2), some (.int x3), none, none, none, none]) (J2 := []) (st2 := []) (w2 := mkC 1 rb 1 re rf rg q3.2) (fun _ _ => rfl) h (fun h => ?_) (fun h => ?_)
        · refine bfx_br 4 (pc1 := 52) (L1 := [some (.ref 0), some (.int x1), some (.int x2), some (.int x3), none, none, none, none]) (J1 := []) (st1 := []) (w1 := mkC 1 rb 1 re rf rg q3.2) (pc2 := 38) (L2 := [some (.ref 0), some (.int x1), some (.int x2), some (.int x3), none, none, none, none]) (J2 := []) (st2 := []) (w2 := mkC 1 rb 1 re rf rg q3.2) (fun _ _ => rfl) h (fun h => ?_) (fun h => ?_)
          · exact k_cTop_odds_b52 n d q _ _ _ _ _ _ _ _ _ _ _ _ h
          · refine bfx_br 4 (pc1 := 48) (L1 := [some (.ref 0), some (.int x1), some (.int x2), some (.int x3), none, none, none, none]) (J1 := []) (st1 := []) (w1 := mkC 1 rb 1 re rf rg q3.2) (pc2 := 52) (L2 := [some (.ref 0), some (.int x1), some (.int x2), some (.int x3), none, none, none, none]) (J2 := []) (st2 := []) (w2 := mkC 1 rb 1 re rf rg q3.2) (fun _ _ => rfl) h (fun h => ?_) (fun h => ?_)
            · refine bfx_run 2 53 [some (.ref 0), some (.int x1), some (.int x2), some (.int x3), none, none, none, none] [] [(.int ci_1)] (mkC 1 rb 1 re rf rg q3.2) (fun _ _ => rfl) ?_
              exact k_cTop_odds_b53 n d q _ _ _ _ _ _ _ _ _ _ _ _ _ h
            · exact k_cTop_odds_b52 n d q _ _ _ _ _ _ _ _ _ _ _ _ h
        · exact k_cTop_odds_b26 n d q _ _ _ _ _ _ _ _ _ _ _ _ _ h
set_option maxRecDepth 100000 in
theorem k_cTop_waiting_b96 (n d : Nat) (r55 : Int32 → Int32 → Int32 → bS → Option (Int32 × bS)) (q : (Int32 × bS)) (hr55 : ∀ (x1 : Int32) (x2 : Int32) (x3 : Int32) (rb : Nat) (rf : Value) (rg : Value) (σ : bS), r55 x1 x2 x3 σ = some q → bfx MT (d + 6) M_X11_waiting 55 [some (.ref 0), some (.int x1), some (.int x2), some (.int x3)] [] [] (mkC 1 rb 1 1 rf rg σ) (fun ze => (some (.int q.1), mkC 1 rb 1 ze rf rg q.2))) (x1 : Int32) (x2 : Int32) (x3 : Int32) (rb : Nat) (rf : Value) (rg : Value) (σ : bS) (h : cTop_waiting_b96 n r55 x1 x2 x3 σ = some q) : bfx MT (d + 6) M_X11_waiting 96 [some (.ref 0), some (.int x1), some (.int x2), some (.int x3)] [] [] (mkC 1 rb 1 1 rf rg σ) (fun ze => (some (.int q.1), mkC 1 rb 1 ze rf rg q.2)) := by
  unfold cTop_waiting_b96 at h
  refine bfx_call 4 (d1 := d + 5) (M1 := M_X1_ruleHour) (vs := [(.ref 35), (.int x1)]) (w1 := mkC 1 rb 1 1 rf rg σ) (pc2 := 104) (L2 := [some (.ref 0), some (.int x1), some (.int x2), some (.int x3)]) (J2 := []) (rest := []) (fun _ => none) (fun a => mkC 1 rb 1 1 rf rg a) (fun _ _ => rfl) h (fun a ha => k_cGoing_ruleHour_d n (d + 0) _ _ _ _ _ _ _ _ ha) (fun q1 _ h => ?_)
  refine bfx_run 1 107 [some (.ref 0), some (.int x1), some (.int x2), some (.int (x3 + ci_1))] [] [] (mkC 1 rb 1 1 rf rg q1) (fun _ _ => rfl) ?_
  refine bfx_run 1 55 [some (.ref 0), some (.int x1), some (.int x2), some (.int (x3 + ci_1))] [] [] (mkC 1 rb 1 1 rf rg q1) (fun _ _ => rfl) ?_
  exact hr55 _ _ _ _ _ _ _ h
set_option maxRecDepth 100000 in
theorem k_cTop_waiting_b55 (n d : Nat) (q : (Int32 × bS)) : ∀ (k : Nat) (x1 : Int32) (x2 : Int32) (x3 : Int32) (rb : Nat) (rf : Value) (rg : Value) (σ : bS), cTop_waiting_b55 n k x1 x2 x3 σ = some q → bfx MT (d + 6) M_X11_waiting 55 [some (.ref 0), some (.int x1), some (.int x2), some (.int x3)] [] [] (mkC 1 rb 1 1 rf rg σ) (fun ze => (some (.int q.1), mkC 1 rb 1 ze rf rg q.2)) := by
  intro k
  induction k with
  | zero => intro x1 x2 x3 rb rf rg σ h; exact bno h
  | succ k ih =>
    intro x1 x2 x3 rb rf rg σ h
    unfold cTop_waiting_b55 at h
    refine bfx_br 3 (pc1 := 110) (L1 := [some (.ref 0), some (.int x1), some (.int x2), some (.int x3)]) (J1 := []) (st1 := []) (w1 := mkC 1 rb 1 1 rf rg σ) (pc2 := 61) (L2 := [some (.ref 0), some (.int x1), some (.int x2), some (.int x3)]) (J2 := []) (st2 := []) (w2 := mkC 1 rb 1 1 rf rg σ) (fun _ _ => rfl) h (fun h => ?_) (fun h => ?_)
    · cases h
      exact ⟨1, bfr_ret 2 (fun _ _ => rfl)⟩
    · refine bfx_in (i := x2) (m := 4) 5 (pc1 := 70) (L1 := [some (.ref 0), some (.int x1), some (.int x2), some (.int x3)]) (J1 := []) (st1 := [(.int (sA σ 36 x2))]) (w1 := mkC 1 rb 1 1 rf rg σ) (fun _ _ => rfl) h (fun h => ?_)
      refine bfx_in (i := x1) (m := 7) 5 (pc1 := 79) (L1 := [some (.ref 0), some (.int x1), some (.int x2), some (.int x3)]) (J1 := []) (st1 := [(.int (sA σ 6 x1)), (.int (sA σ 36 x2))]) (w1 := mkC 1 rb 1 1 rf rg σ) (fun _ _ => rfl) h (fun h => ?_)
      refine bfx_br 1 (pc1 := 82) (L1 := [some (.ref 0), some (.int x1), some (.int x2), some (.int x3)]) (J1 := []) (st1 := []) (w1 := mkC 1 rb 1 1 rf rg σ) (pc2 := 96) (L2 := [some (.ref 0), some (.int x1), some (.int x2), some (.int x3)]) (J2 := []) (st2 := []) (w2 := mkC 1 rb 1 1 rf rg σ) (fun _ _ => rfl) h (fun h => ?_) (fun h => ?_)
      · refine bfx_call 5 (d1 := d + 5) (M1 := M_X1_couldCross) (vs := [(.ref 35), (.int x1), (.int x2)]) (w1 := mkC 1 rb 1 1 rf rg σ) (pc2 := 91) (L2 := [some (.ref 0), some (.int x1), some (.int x2), some (.int x3)]) (J2 := []) (rest := []) (fun a => some (.int a.1)) (fun a => mkC 1 rb 1 1 rf rg a.2) (fun _ _ => rfl) h (fun a ha => k_cGoing_couldCross_d n (d + 2) _ _ _ _ _ _ _ _ _ ha) (fun q2 _ h => ?_)
        refine bfx_br 1 (pc1 := 96) (L1 := [some (.ref 0), some (.int x1), some (.int x2), some (.int x3)]) (J1 := []) (st1 := []) (w1 := mkC 1 rb 1 1 rf rg q2.2) (pc2 := 94) (L2 := [some (.ref 0), some (.int x1), some (.int x2), some (.int x3)]) (J2 := []) (st2 := []) (w2 := mkC 1 rb 1 1 rf rg q2.2) (fun _ _ => rfl) h (fun h => ?_) (fun h => ?_)
        · exact k_cTop_waiting_b96 n d _ q (ih) _ _ _ _ _ _ _ h
        · cases h
          exact ⟨1, bfr_ret 2 (fun _ _ => rfl)⟩
      · exact k_cTop_waiting_b96 n d _ q (ih) _ _ _ _ _ _ _ h
set_option maxRecDepth 100000 in
theorem k_cTop_waiting_b16 (n d : Nat) (q : (Int32 × bS)) (o0 : Option Value) (o1 : Option Value) (o2 : Option Value) (o3 : Option Value) (rb : Nat) (re : Nat) (rf : Value) (rg : Value) (σ : bS) (h : cTop_waiting_b16 n σ = some q) : bfx MT (d + 6) M_X11_waiting 16 [o0, o1, o2, o3] [] [] (mkC 1 rb 1 re rf rg σ) (fun ze => (some (.int q.1), mkC 1 rb 1 ze rf rg q.2)) := by
  unfold cTop_waiting_b16 at h
  cases h
  exact ⟨re, bfr_ret 2 (fun _ _ => rfl)⟩
set_option maxRecDepth 100000 in
theorem k_cTop_waiting (n d : Nat) (q : (Int32 × bS)) (x1 : Int32) (x2 : Int32) (rb : Nat) (re : Nat) (rf : Value) (rg : Value) (σ : bS) (h : cTop_waiting n x1 x2 σ = some q) : bfx MT (d + 6) M_X11_waiting 0 [some (.ref 0), some (.int x1), some (.int x2), none] [] [] (mkC 1 rb 1 re rf rg σ) (fun ze => (some (.int q.1), mkC 1 rb 1 ze rf rg q.2)) := by
  unfold cTop_waiting at h
  refine bfx_call 3 (d1 := d + 5) (M1 := M_X11_isMan) (vs := [(.ref 0), (.int x1)]) (w1 := mkC 1 rb 1 re rf rg σ) (pc2 := 5) (L2 := [some (.ref 0), some (.int x1), some (.int x2), none]) (J2 := []) (rest := []) (fun a => some (.int a.1)) (fun a => mkC 1 rb 1 re rf rg a.2) (fun _ _ => rfl) h (fun a ha => k_cTop_isMan n (d + 5) _ _ _ _ _ _ _ _ ha) (fun q3 _ h => ?_)
  refine bfx_br 1 (pc1 := 16) (L1 := [some (.ref 0), some (.int x1), some (.int x2), none]) (J1 := []) (st1 := []) (w1 := mkC 1 rb 1 re rf rg q3.2) (pc2 := 8) (L2 := [some (.ref 0), some (.int x1), some (.int x2), none]) (J2 := []) (st2 := []) (w2 := mkC 1 rb 1 re rf rg q3.2) (fun _ _ => rfl) h (fun h => ?_) (fun h => ?_)
  · exact k_cTop_waiting_b16 n d q _ _ _ _ _ _ _ _ _ h
  · refine bfx_call 3 (d1 := d + 5) (M1 := M_X11_isBridge) (vs := [(.ref 0), (.int x2)]) (w1 := mkC 1 rb 1 re rf rg q3.2) (pc2 := 13) (L2 := [some (.ref 0), some (.int x1), some (.int x2), none]) (J2 := []) (rest := []) (fun a => some (.int a.1)) (fun a => mkC 1 rb 1 re rf rg a.2) (fun _ _ => rfl) h (fun a ha => k_cTop_isBridge n (d + 5) _ _ _ _ _ _ _ _ ha) (fun q4 _ h => ?_)
    refine bfx_br 1 (pc1 := 16) (L1 := [some (.ref 0), some (.int x1), some (.int x2), none]) (J1 := []) (st1 := []) (w1 := mkC 1 rb 1 re rf rg q4.2) (pc2 := 18) (L2 := [some (.ref 0), some (.int x1), some (.int x2), none]) (J2 := []) (st2 := []) (w2 := mkC 1 rb 1 re rf rg q4.2) (fun _ _ => rfl) h (fun h => ?_) (fun h => ?_)
    · exact k_cTop_waiting_b16 n d q _ _ _ _ _ _ _ _ _ h
    · refine bfx_in (i := x1) (m := 7) 5 (pc1 := 27) (L1 := [some (.ref 0), some (.int x1), some (.int x2), none]) (J1 := []) (st1 := [(.int (sA q4.2 30 x1))]) (w1 := mkC 1 rb 1 re rf rg q4.2) (fun _ _ => rfl) h (fun h => ?_)
      refine bfx_in (i := x2) (m := 4) 5 (pc1 := 36) (L1 := [some (.ref 0), some (.int x1), some (.int x2), none]) (J1 := []) (st1 := [(.int (sA q4.2 3 x2)), (.int (sA q4.2 30 x1))]) (w1 := mkC 1 rb 1 re rf rg q4.2) (fun _ _ => rfl) h (fun h => ?_)
      refine bfx_br 1 (pc1 := 42) (L1 := [some (.ref 0), some (.int x1), some (.int x2), none]) (J1 := []) (st1 := []) (w1 := mkC 1 rb 1 re rf rg q4.2) (pc2 := 39) (L2 := [some (.ref 0), some (.int x1), some (.int x2), none]) (J2 := []) (st2 := []) (w2 := mkC 1 rb 1 re rf rg q4.2) (fun _ _ => rfl) h (fun h => ?_) (fun h => ?_)
      · refine bfx_call 5 (d1 := d + 5) (M1 := M_X1_copyFrom) (vs := [(.ref 35), (.ref 27)]) (w1 := mkC 1 rb 1 re rf rg q4.2) (pc2 := 53) (L2 := [some (.ref 0), some (.int x1), some (.int x2), none]) (J2 := []) (rest := []) (fun _ => none) (fun a => mkC 1 rb 1 1 rf rg a) (fun _ _ => rfl) h (fun a ha => k_cGoing_copyFrom_d_27 n (d + 4) _ _ _ _ _ _ _ _ ha) (fun q5 _ h => ?_)
        refine bfx_run 2 55 [some (.ref 0), some (.int x1), some (.int x2), some (.int ci_0)] [] [] (mkC 1 rb 1 1 rf rg q5) (fun _ _ => rfl) ?_
        exact k_cTop_waiting_b55 n d q _ _ _ _ _ _ _ _ h
      · cases h
        exact ⟨re, bfr_ret 2 (fun _ _ => rfl)⟩
set_option maxRecDepth 100000 in
theorem k_cTop_follow_b95 (n d : Nat) (r44 : Int32 → Int32 → Int32 → bS → Option (Int32 × bS)) (q : (Int32 × bS)) (hr44 : ∀ (x1 : Int32) (x2 : Int32) (x3 : Int32) (rb : Nat) (re : Nat) (rf : Value) (rg : Value) (σ : bS), r44 x1 x2 x3 σ = some q → bfr MT (d + 4) M_X11_follow 44 [some (.ref 0), some (.int x1), some (.int x2), some (.int x3)] [] [] (mkC 1 rb 1 re rf rg σ) (some (.int q.1), mkC 1 rb 1 re rf rg q.2)) (x1 : Int32) (x2 : Int32) (x3 : Int32) (rb : Nat) (re : Nat) (rf : Value) (rg : Value) (σ : bS) (h : cTop_follow_b95 n r44 x1 x2 x3 σ = some q) : bfr MT (d + 4) M_X11_follow 95 [some (.ref 0), some (.int x1), some (.int x2), some (.int x3)] [] [] (mkC 1 rb 1 re rf rg σ) (some (.int q.1), mkC 1 rb 1 re rf rg q.2) := by
  unfold cTop_follow_b95 at h
  refine bfr_run 1 98 [some (.ref 0), some (.int x1), some (.int x2), some (.int (x3 + ci_1))] [] [] (mkC 1 rb 1 re rf rg σ) (fun _ _ => rfl) ?_
  refine bfr_run 1 44 [some (.ref 0), some (.int x1), some (.int x2), some (.int (x3 + ci_1))] [] [] (mkC 1 rb 1 re rf rg σ) (fun _ _ => rfl) ?_
  exact hr44 _ _ _ _ _ _ _ _ h
set_option maxRecDepth 100000 in
theorem k_cTop_follow_b44 (n d : Nat) (q : (Int32 × bS)) : ∀ (k : Nat) (x1 : Int32) (x2 : Int32) (x3 : Int32) (rb : Nat) (re : Nat) (rf : Value) (rg : Value) (σ : bS), cTop_follow_b44 n k x1 x2 x3 σ = some q → bfr MT (d + 4) M_X11_follow 44 [some (.ref 0), some (.int x1), some (.int x2), some (.int x3)] [] [] (mkC 1 rb 1 re rf rg σ) (some (.int q.1), mkC 1 rb 1 re rf rg q.2) := by
  intro k
  induction k with
  | zero => intro x1 x2 x3 rb re rf rg σ h; exact bno h
  | succ k ih =>
    intro x1 x2 x3 rb re rf rg σ h
    unfold cTop_follow_b44 at h
    refine bfr_br 5 (pc1 := 101) (L1 := [some (.ref 0), some (.int x1), some (.int x2), some (.int x3)]) (J1 := []) (st1 := []) (w1 := mkC 1 rb 1 re rf rg σ) (pc2 := 55) (L2 := [some (.ref 0), some (.int x1), some (.int x2), some (.int x3)]) (J2 := []) (st2 := []) (w2 := mkC 1 rb 1 re rf rg σ) (fun _ _ => rfl) h (fun h => ?_) (fun h => ?_)
    · cases h
      exact bfr_ret 2 (fun _ _ => rfl)
    · refine bfr_br 3 (pc1 := 95) (L1 := [some (.ref 0), some (.int x1), some (.int x2), some (.int x3)]) (J1 := []) (st1 := []) (w1 := mkC 1 rb 1 re rf rg σ) (pc2 := 60) (L2 := [some (.ref 0), some (.int x1), some (.int x2), some (.int x3)]) (J2 := []) (st2 := []) (w2 := mkC 1 rb 1 re rf rg σ) (fun _ _ => rfl) h (fun h => ?_) (fun h => ?_)
      · exact k_cTop_follow_b95 n d _ q (ih) _ _ _ _ _ _ _ _ h
      · refine bfr_call 5 (d1 := d + 3) (M1 := M_X1_couldCross) (vs := [(.ref 27), (.int x3), (.int x2)]) (w1 := mkC 1 rb 1 re rf rg σ) (pc2 := 69) (L2 := [some (.ref 0), some (.int x1), some (.int x2), some (.int x3)]) (J2 := []) (rest := []) (fun a => some (.int a.1)) (fun a => mkC 1 rb 1 re rf rg a.2) (fun _ _ => rfl) h (fun a ha => k_cGoing_couldCross n (d + 0) _ _ _ _ _ _ _ _ _ ha) (fun q1 _ h => ?_)
        refine bfr_br 1 (pc1 := 95) (L1 := [some (.ref 0), some (.int x1), some (.int x2), some (.int x3)]) (J1 := []) (st1 := []) (w1 := mkC 1 rb 1 re rf rg q1.2) (pc2 := 72) (L2 := [some (.ref 0), some (.int x1), some (.int x2), some (.int x3)]) (J2 := []) (st2 := []) (w2 := mkC 1 rb 1 re rf rg q1.2) (fun _ _ => rfl) h (fun h => ?_) (fun h => ?_)
        · exact k_cTop_follow_b95 n d _ q (ih) _ _ _ _ _ _ _ _ h
        · refine bfr_call 5 (d1 := d + 3) (M1 := M_X1_wishNow) (vs := [(.ref 27), (.int x3), (.int x2)]) (w1 := mkC 1 rb 1 re rf rg q1.2) (pc2 := 81) (L2 := [some (.ref 0), some (.int x1), some (.int x2), some (.int x3)]) (J2 := []) (rest := []) (fun a => some (.int a.1)) (fun a => mkC 1 rb 1 re rf rg a.2) (fun _ _ => rfl) h (fun a ha => k_cGoing_wishNow n (d + 0) _ _ _ _ _ _ _ _ _ ha) (fun q2 _ h => ?_)
          refine bfr_in (i := x1) (m := 7) 5 (pc1 := 90) (L1 := [some (.ref 0), some (.int x1), some (.int x2), some (.int x3)]) (J1 := []) (st1 := [(.int (sA q2.2 6 x1)), (.int q2.1)]) (w1 := mkC 1 rb 1 re rf rg q2.2) (fun _ _ => rfl) h (fun h => ?_)
          refine bfr_br 1 (pc1 := 93) (L1 := [some (.ref 0), some (.int x1), some (.int x2), some (.int x3)]) (J1 := []) (st1 := []) (w1 := mkC 1 rb 1 re rf rg q2.2) (pc2 := 95) (L2 := [some (.ref 0), some (.int x1), some (.int x2), some (.int x3)]) (J2 := []) (st2 := []) (w2 := mkC 1 rb 1 re rf rg q2.2) (fun _ _ => rfl) h (fun h => ?_) (fun h => ?_)
          · cases h
            exact bfr_ret 2 (fun _ _ => rfl)
          · exact k_cTop_follow_b95 n d _ q (ih) _ _ _ _ _ _ _ _ h
set_option maxRecDepth 100000 in
theorem k_cTop_follow_b16 (n d : Nat) (q : (Int32 × bS)) (o0 : Option Value) (o1 : Option Value) (o2 : Option Value) (o3 : Option Value) (rb : Nat) (re : Nat) (rf : Value) (rg : Value) (σ : bS) (h : cTop_follow_b16 n σ = some q) : bfr MT (d + 4) M_X11_follow 16 [o0, o1, o2, o3] [] [] (mkC 1 rb 1 re rf rg σ) (some (.int q.1), mkC 1 rb 1 re rf rg q.2) := by
  unfold cTop_follow_b16 at h
  cases h
  exact bfr_ret 2 (fun _ _ => rfl)
set_option maxRecDepth 100000 in
theorem k_cTop_follow (n d : Nat) (q : (Int32 × bS)) (x1 : Int32) (x2 : Int32) (rb : Nat) (re : Nat) (rf : Value) (rg : Value) (σ : bS) (h : cTop_follow n x1 x2 σ = some q) : bfr MT (d + 4) M_X11_follow 0 [some (.ref 0), some (.int x1), some (.int x2), none] [] [] (mkC 1 rb 1 re rf rg σ) (some (.int q.1), mkC 1 rb 1 re rf rg q.2) := by
  unfold cTop_follow at h
  refine bfr_call 3 (d1 := d + 3) (M1 := M_X11_isMan) (vs := [(.ref 0), (.int x1)]) (w1 := mkC 1 rb 1 re rf rg σ) (pc2 := 5) (L2 := [some (.ref 0), some (.int x1), some (.int x2), none]) (J2 := []) (rest := []) (fun a => some (.int a.1)) (fun a => mkC 1 rb 1 re rf rg a.2) (fun _ _ => rfl) h (fun a ha => k_cTop_isMan n (d + 3) _ _ _ _ _ _ _ _ ha) (fun q3 _ h => ?_)
  refine bfr_br 1 (pc1 := 16) (L1 := [some (.ref 0), some (.int x1), some (.int x2), none]) (J1 := []) (st1 := []) (w1 := mkC 1 rb 1 re rf rg q3.2) (pc2 := 8) (L2 := [some (.ref 0), some (.int x1), some (.int x2), none]) (J2 := []) (st2 := []) (w2 := mkC 1 rb 1 re rf rg q3.2) (fun _ _ => rfl) h (fun h => ?_) (fun h => ?_)
  · exact k_cTop_follow_b16 n d q _ _ _ _ _ _ _ _ _ h
  · refine bfr_call 3 (d1 := d + 3) (M1 := M_X11_isBridge) (vs := [(.ref 0), (.int x2)]) (w1 := mkC 1 rb 1 re rf rg q3.2) (pc2 := 13) (L2 := [some (.ref 0), some (.int x1), some (.int x2), none]) (J2 := []) (rest := []) (fun a => some (.int a.1)) (fun a => mkC 1 rb 1 re rf rg a.2) (fun _ _ => rfl) h (fun a ha => k_cTop_isBridge n (d + 3) _ _ _ _ _ _ _ _ ha) (fun q4 _ h => ?_)
    refine bfr_br 1 (pc1 := 16) (L1 := [some (.ref 0), some (.int x1), some (.int x2), none]) (J1 := []) (st1 := []) (w1 := mkC 1 rb 1 re rf rg q4.2) (pc2 := 18) (L2 := [some (.ref 0), some (.int x1), some (.int x2), none]) (J2 := []) (st2 := []) (w2 := mkC 1 rb 1 re rf rg q4.2) (fun _ _ => rfl) h (fun h => ?_) (fun h => ?_)
    · exact k_cTop_follow_b16 n d q _ _ _ _ _ _ _ _ _ h
    · refine bfr_in (i := x1) (m := 7) 5 (pc1 := 27) (L1 := [some (.ref 0), some (.int x1), some (.int x2), none]) (J1 := []) (st1 := [(.int (sA q4.2 30 x1))]) (w1 := mkC 1 rb 1 re rf rg q4.2) (fun _ _ => rfl) h (fun h => ?_)
      refine bfr_in (i := x2) (m := 4) 5 (pc1 := 36) (L1 := [some (.ref 0), some (.int x1), some (.int x2), none]) (J1 := []) (st1 := [(.int (sA q4.2 3 x2)), (.int (sA q4.2 30 x1))]) (w1 := mkC 1 rb 1 re rf rg q4.2) (fun _ _ => rfl) h (fun h => ?_)
      refine bfr_br 1 (pc1 := 42) (L1 := [some (.ref 0), some (.int x1), some (.int x2), none]) (J1 := []) (st1 := []) (w1 := mkC 1 rb 1 re rf rg q4.2) (pc2 := 39) (L2 := [some (.ref 0), some (.int x1), some (.int x2), none]) (J2 := []) (st2 := []) (w2 := mkC 1 rb 1 re rf rg q4.2) (fun _ _ => rfl) h (fun h => ?_) (fun h => ?_)
      · refine bfr_run 2 44 [some (.ref 0), some (.int x1), some (.int x2), some (.int ci_0)] [] [] (mkC 1 rb 1 re rf rg q4.2) (fun _ _ => rfl) ?_
        exact k_cTop_follow_b44 n d q _ _ _ _ _ _ _ _ _ h
      · cases h
        exact bfr_ret 2 (fun _ _ => rfl)
set_option maxRecDepth 100000 in
theorem k_cj_fill_57_b5 (n d : Nat) (q : bS) : ∀ (k : Nat) (x1 : Int32) (x2 : Int32) (x3 : Int32) (ra : Nat) (rb : Nat) (rc : Nat) (re : Nat) (rf : Value) (rg : Value) (σ : bS), cj_fill_57_b5 n k x1 x2 x3 σ = some q → bfr MT (d + 0) M_J7_fill_53178 5 [some (.ref 57), some (.int x1), some (.int x2), some (.int x3)] [] [] (mkC ra rb rc re rf rg σ) (none, mkC ra rb rc re rf rg q) := by
  intro k
  induction k with
  | zero => intro x1 x2 x3 ra rb rc re rf rg σ h; exact bno h
  | succ k ih =>
    intro x1 x2 x3 ra rb rc re rf rg σ h
    unfold cj_fill_57_b5 at h
    refine bfr_br 3 (pc1 := 20) (L1 := [some (.ref 57), some (.int x1), some (.int x2), some (.int x3)]) (J1 := []) (st1 := []) (w1 := mkC ra rb rc re rf rg σ) (pc2 := 10) (L2 := [some (.ref 57), some (.int x1), some (.int x2), some (.int x3)]) (J2 := []) (st2 := []) (w2 := mkC ra rb rc re rf rg σ) (fun _ _ => rfl) h (fun h => ?_) (fun h => ?_)
    · cases h
      exact bfr_ret 1 (fun _ _ => rfl)
    · refine bfr_in (i := x2) (m := 96) 4 (pc1 := 14) (L1 := [some (.ref 57), some (.int x1), some (.int x2), some (.int x3)]) (J1 := []) (st1 := []) (w1 := ((mkC ra rb rc re rf rg σ).set 57 (.inl (0, 96, upd (σ.2.1 57) (x2).toNatClampNeg x1)))) (fun _ _ => rfl) h (fun h => ?_)
      rw [mkC_A57]
      refine bfr_run 1 17 [some (.ref 57), some (.int x1), some (.int (x2 + ci_1)), some (.int x3)] [] [] (mkC ra rb rc re rf rg (uA σ 57 x2 x1)) (fun _ _ => rfl) ?_
      refine bfr_run 1 5 [some (.ref 57), some (.int x1), some (.int (x2 + ci_1)), some (.int x3)] [] [] (mkC ra rb rc re rf rg (uA σ 57 x2 x1)) (fun _ _ => rfl) ?_
      exact ih _ _ _ _ _ _ _ _ _ _ h
set_option maxRecDepth 100000 in
theorem k_cj_fill_57 (n d : Nat) (q : bS) (x1 : Int32) (ra : Nat) (rb : Nat) (rc : Nat) (re : Nat) (rf : Value) (rg : Value) (σ : bS) (h : cj_fill_57 n x1 σ = some q) : bfr MT (d + 0) M_J7_fill_53178 0 [some (.ref 57), some (.int x1), none, none] [] [] (mkC ra rb rc re rf rg σ) (none, mkC ra rb rc re rf rg q) := by
  unfold cj_fill_57 at h
  refine bfr_run 5 5 [some (.ref 57), some (.int x1), some (.int ci_0), some (.int cn_96)] [] [] (mkC ra rb rc re rf rg σ) (fun _ _ => rfl) ?_
  exact k_cj_fill_57_b5 n d q _ _ _ _ _ _ _ _ _ _ _ h
set_option maxRecDepth 100000 in
theorem k_cj_fill_58_b5 (n d : Nat) (q : bS) : ∀ (k : Nat) (x1 : Int32) (x2 : Int32) (x3 : Int32) (ra : Nat) (rb : Nat) (rc : Nat) (re : Nat) (rf : Value) (rg : Value) (σ : bS), cj_fill_58_b5 n k x1 x2 x3 σ = some q → bfr MT (d + 0) M_J7_fill_53178 5 [some (.ref 58), some (.int x1), some (.int x2), some (.int x3)] [] [] (mkC ra rb rc re rf rg σ) (none, mkC ra rb rc re rf rg q) := by
  intro k
  induction k with
  | zero => intro x1 x2 x3 ra rb rc re rf rg σ h; exact bno h
  | succ k ih =>
    intro x1 x2 x3 ra rb rc re rf rg σ h
    unfold cj_fill_58_b5 at h
    refine bfr_br 3 (pc1 := 20) (L1 := [some (.ref 58), some (.int x1), some (.int x2), some (.int x3)]) (J1 := []) (st1 := []) (w1 := mkC ra rb rc re rf rg σ) (pc2 := 10) (L2 := [some (.ref 58), some (.int x1), some (.int x2), some (.int x3)]) (J2 := []) (st2 := []) (w2 := mkC ra rb rc re rf rg σ) (fun _ _ => rfl) h (fun h => ?_) (fun h => ?_)
    · cases h
      exact bfr_ret 1 (fun _ _ => rfl)
    · refine bfr_in (i := x2) (m := 96) 4 (pc1 := 14) (L1 := [some (.ref 58), some (.int x1), some (.int x2), some (.int x3)]) (J1 := []) (st1 := []) (w1 := ((mkC ra rb rc re rf rg σ).set 58 (.inl (0, 96, upd (σ.2.1 58) (x2).toNatClampNeg x1)))) (fun _ _ => rfl) h (fun h => ?_)
      rw [mkC_A58]
      refine bfr_run 1 17 [some (.ref 58), some (.int x1), some (.int (x2 + ci_1)), some (.int x3)] [] [] (mkC ra rb rc re rf rg (uA σ 58 x2 x1)) (fun _ _ => rfl) ?_
      refine bfr_run 1 5 [some (.ref 58), some (.int x1), some (.int (x2 + ci_1)), some (.int x3)] [] [] (mkC ra rb rc re rf rg (uA σ 58 x2 x1)) (fun _ _ => rfl) ?_
      exact ih _ _ _ _ _ _ _ _ _ _ h
set_option maxRecDepth 100000 in
theorem k_cj_fill_58 (n d : Nat) (q : bS) (x1 : Int32) (ra : Nat) (rb : Nat) (rc : Nat) (re : Nat) (rf : Value) (rg : Value) (σ : bS) (h : cj_fill_58 n x1 σ = some q) : bfr MT (d + 0) M_J7_fill_53178 0 [some (.ref 58), some (.int x1), none, none] [] [] (mkC ra rb rc re rf rg σ) (none, mkC ra rb rc re rf rg q) := by
  unfold cj_fill_58 at h
  refine bfr_run 5 5 [some (.ref 58), some (.int x1), some (.int ci_0), some (.int cn_96)] [] [] (mkC ra rb rc re rf rg σ) (fun _ _ => rfl) ?_
  exact k_cj_fill_58_b5 n d q _ _ _ _ _ _ _ _ _ _ _ h
set_option maxRecDepth 100000 in
theorem k_cWays_nearest_b45 (n d : Nat) (r4 : Int32 → Int32 → bS → Option (Int32 × bS)) (q : (Int32 × bS)) (hr4 : ∀ (x1 : Int32) (x2 : Int32) (ra : Nat) (rb : Nat) (rc : Nat) (re : Nat) (rf : Value) (rg : Value) (σ : bS), r4 x1 x2 σ = some q → bfr MT (d + 0) M_X10_nearest 4 [some (.ref 56), some (.int x1), some (.int x2)] [] [] (mkC ra rb rc re rf rg σ) (some (.int q.1), mkC ra rb rc re rf rg q.2)) (x1 : Int32) (x2 : Int32) (ra : Nat) (rb : Nat) (rc : Nat) (re : Nat) (rf : Value) (rg : Value) (σ : bS) (h : cWays_nearest_b45 n r4 x1 x2 σ = some q) : bfr MT (d + 0) M_X10_nearest 45 [some (.ref 56), some (.int x1), some (.int x2)] [] [] (mkC ra rb rc re rf rg σ) (some (.int q.1), mkC ra rb rc re rf rg q.2) := by
  unfold cWays_nearest_b45 at h
  refine bfr_run 1 48 [some (.ref 56), some (.int x1), some (.int (x2 + ci_1))] [] [] (mkC ra rb rc re rf rg σ) (fun _ _ => rfl) ?_
  refine bfr_run 1 4 [some (.ref 56), some (.int x1), some (.int (x2 + ci_1))] [] [] (mkC ra rb rc re rf rg σ) (fun _ _ => rfl) ?_
  exact hr4 _ _ _ _ _ _ _ _ _ h
set_option maxRecDepth 100000 in
theorem k_cWays_nearest_b40 (n d : Nat) (r4 : Int32 → Int32 → bS → Option (Int32 × bS)) (q : (Int32 × bS)) (hr4 : ∀ (x1 : Int32) (x2 : Int32) (ra : Nat) (rb : Nat) (rc : Nat) (re : Nat) (rf : Value) (rg : Value) (σ : bS), r4 x1 x2 σ = some q → bfr MT (d + 0) M_X10_nearest 4 [some (.ref 56), some (.int x1), some (.int x2)] [] [] (mkC ra rb rc re rf rg σ) (some (.int q.1), mkC ra rb rc re rf rg q.2)) (x1 : Int32) (x2 : Int32) (s0 : Int32) (s1 : Int32) (ra : Nat) (rb : Nat) (rc : Nat) (re : Nat) (rf : Value) (rg : Value) (σ : bS) (h : cWays_nearest_b40 n r4 x1 x2 s0 s1 σ = some q) : bfr MT (d + 0) M_X10_nearest 40 [some (.ref 56), some (.int x1), some (.int x2)] [] [(.int s1), (.int s0)] (mkC ra rb rc re rf rg σ) (some (.int q.1), mkC ra rb rc re rf rg q.2) := by
  unfold cWays_nearest_b40 at h
  refine bfr_br 1 (pc1 := 45) (L1 := [some (.ref 56), some (.int x1), some (.int x2)]) (J1 := []) (st1 := []) (w1 := mkC ra rb rc re rf rg σ) (pc2 := 43) (L2 := [some (.ref 56), some (.int x1), some (.int x2)]) (J2 := []) (st2 := []) (w2 := mkC ra rb rc re rf rg σ) (fun _ _ => rfl) h (fun h => ?_) (fun h => ?_)
  · exact k_cWays_nearest_b45 n d _ q hr4 _ _ _ _ _ _ _ _ _ h
  · refine bfr_run 2 45 [some (.ref 56), some (.int x2), some (.int x2)] [] [] (mkC ra rb rc re rf rg σ) (fun _ _ => rfl) ?_
    exact k_cWays_nearest_b45 n d _ q hr4 _ _ _ _ _ _ _ _ _ h
set_option maxRecDepth 100000 in
theorem k_cWays_nearest_b4 (n d : Nat) (q : (Int32 × bS)) : ∀ (k : Nat) (x1 : Int32) (x2 : Int32) (ra : Nat) (rb : Nat) (rc : Nat) (re : Nat) (rf : Value) (rg : Value) (σ : bS), cWays_nearest_b4 n k x1 x2 σ = some q → bfr MT (d + 0) M_X10_nearest 4 [some (.ref 56), some (.int x1), some (.int x2)] [] [] (mkC ra rb rc re rf rg σ) (some (.int q.1), mkC ra rb rc re rf rg q.2) := by
  intro k
  induction k with
  | zero => intro x1 x2 ra rb rc re rf rg σ h; exact bno h
  | succ k ih =>
    intro x1 x2 ra rb rc re rf rg σ h
    unfold cWays_nearest_b4 at h
    refine bfr_br 3 (pc1 := 51) (L1 := [some (.ref 56), some (.int x1), some (.int x2)]) (J1 := []) (st1 := []) (w1 := mkC ra rb rc re rf rg σ) (pc2 := 10) (L2 := [some (.ref 56), some (.int x1), some (.int x2)]) (J2 := []) (st2 := []) (w2 := mkC ra rb rc re rf rg σ) (fun _ _ => rfl) h (fun h => ?_) (fun h => ?_)
    · cases h
      exact bfr_ret 2 (fun _ _ => rfl)
    · refine bfr_in (i := x2) (m := 96) 4 (pc1 := 16) (L1 := [some (.ref 56), some (.int x1), some (.int x2)]) (J1 := []) (st1 := [(.int (sA σ 58 x2))]) (w1 := mkC ra rb rc re rf rg σ) (fun _ _ => rfl) h (fun h => ?_)
      refine bfr_br 1 (pc1 := 19) (L1 := [some (.ref 56), some (.int x1), some (.int x2)]) (J1 := []) (st1 := []) (w1 := mkC ra rb rc re rf rg σ) (pc2 := 45) (L2 := [some (.ref 56), some (.int x1), some (.int x2)]) (J2 := []) (st2 := []) (w2 := mkC ra rb rc re rf rg σ) (fun _ _ => rfl) h (fun h => ?_) (fun h => ?_)
      · refine bfr_in (i := x2) (m := 96) 4 (pc1 := 25) (L1 := [some (.ref 56), some (.int x1), some (.int x2)]) (J1 := []) (st1 := [(.int (sA σ 57 x2))]) (w1 := mkC ra rb rc re rf rg σ) (fun _ _ => rfl) h (fun h => ?_)
        refine bfr_br 2 (pc1 := 34) (L1 := [some (.ref 56), some (.int x1), some (.int x2)]) (J1 := []) (st1 := [(.int (sA σ 57 x2))]) (w1 := mkC ra rb rc re rf rg σ) (pc2 := 29) (L2 := [some (.ref 56), some (.int x1), some (.int x2)]) (J2 := []) (st2 := [(.int (sA σ 57 x2))]) (w2 := mkC ra rb rc re rf rg σ) (fun _ _ => rfl) h (fun h => ?_) (fun h => ?_)
        · refine bfr_in (i := x1) (m := 96) 4 (pc1 := 40) (L1 := [some (.ref 56), some (.int x1), some (.int x2)]) (J1 := []) (st1 := [(.int (sA σ 57 x1)), (.int (sA σ 57 x2))]) (w1 := mkC ra rb rc re rf rg σ) (fun _ _ => rfl) h (fun h => ?_)
          exact k_cWays_nearest_b40 n d _ q (ih) _ _ _ _ _ _ _ _ _ _ _ h
        · refine bfr_run 2 40 [some (.ref 56), some (.int x1), some (.int x2)] [] [(.int (1073741824 : Int32)), (.int (sA σ 57 x2))] (mkC ra rb rc re rf rg σ) (fun _ _ => rfl) ?_
          exact k_cWays_nearest_b40 n d _ q (ih) _ _ _ _ _ _ _ _ _ _ _ h
      · exact k_cWays_nearest_b45 n d _ q (ih) _ _ _ _ _ _ _ _ _ h
set_option maxRecDepth 100000 in
theorem k_cWays_nearest (n d : Nat) (q : (Int32 × bS)) (ra : Nat) (rb : Nat) (rc : Nat) (re : Nat) (rf : Value) (rg : Value) (σ : bS) (h : cWays_nearest n σ = some q) : bfr MT (d + 0) M_X10_nearest 0 [some (.ref 56), none, none] [] [] (mkC ra rb rc re rf rg σ) (some (.int q.1), mkC ra rb rc re rf rg q.2) := by
  unfold cWays_nearest at h
  refine bfr_run 4 4 [some (.ref 56), some (.int ci_m1), some (.int ci_0)] [] [] (mkC ra rb rc re rf rg σ) (fun _ _ => rfl) ?_
  exact k_cWays_nearest_b4 n d q _ _ _ _ _ _ _ _ _ _ h
set_option maxRecDepth 100000 in
theorem k_cWays_come (n d : Nat) (q : bS) (x1 : Int32) (x2 : Int32) (x3 : Int32) (ra : Nat) (rb : Nat) (rc : Nat) (re : Nat) (rf : Value) (rg : Value) (σ : bS) (h : cWays_come n x1 x2 x3 σ = some q) : bfr MT (d + 1) M_X10_come 0 [some (.ref 56), some (.int x1), some (.int x2), some (.int x3), none] [] [] (mkC ra rb rc re rf rg σ) (none, mkC ra rb rc re rf rg q) := by
  unfold cWays_come at h
  refine bfr_run 6 8 [some (.ref 56), some (.int x1), some (.int x2), some (.int x3), some (.int ((x1 * cb_16) + x2))] [] [] (mkC ra rb rc re rf rg σ) (fun _ _ => rfl) ?_
  refine bfr_run 6 20 [some (.ref 56), some (.int x1), some (.int x2), some (.int x3), some (.int ((x1 * cb_16) + x2))] [] [(.int ((x1 * cb_16) + x2)), (.ref 57), (.int ((x1 * cb_16) + x2)), (.ref 57)] (mkC ra rb rc re rf rg σ) (fun _ _ => rfl) ?_
  refine bfr_in (i := ((x1 * cb_16) + x2)) (m := 96) 1 (pc1 := 21) (L1 := [some (.ref 56), some (.int x1), some (.int x2), some (.int x3), some (.int ((x1 * cb_16) + x2))]) (J1 := []) (st1 := [(.int (sA σ 57 ((x1 * cb_16) + x2))), (.int ((x1 * cb_16) + x2)), (.ref 57)]) (w1 := mkC ra rb rc re rf rg σ) (fun _ _ => rfl) h (fun h => ?_)
  refine bfr_call 2 (d1 := d + 0) (M1 := M_J9_min_7cf53) (vs := [(.int (sA σ 57 ((x1 * cb_16) + x2))), (.int x3)]) (w1 := mkC ra rb rc re rf rg σ) (pc2 := 25) (L2 := [some (.ref 56), some (.int x1), some (.int x2), some (.int x3), some (.int ((x1 * cb_16) + x2))]) (J2 := []) (rest := [(.int ((x1 * cb_16) + x2)), (.ref 57)]) (fun a => some (.int a.1)) (fun a => mkC ra rb rc re rf rg a.2) (fun _ _ => rfl) h (fun a ha => k_cj_min n (d + 0) _ _ _ _ _ _ _ _ _ _ ha) (fun q1 _ h => ?_)
  refine bfr_in (i := ((x1 * cb_16) + x2)) (m := 96) 1 (pc1 := 26) (L1 := [some (.ref 56), some (.int x1), some (.int x2), some (.int x3), some (.int ((x1 * cb_16) + x2))]) (J1 := []) (st1 := []) (w1 := ((mkC ra rb rc re rf rg q1.2).set 57 (.inl (0, 96, upd (q1.2.2.1 57) (((x1 * cb_16) + x2)).toNatClampNeg q1.1)))) (fun _ _ => rfl) h (fun h => ?_)
  rw [mkC_A57]
  cases h
  exact bfr_ret 1 (fun _ _ => rfl)
set_option maxRecDepth 100000 in
theorem k_cWays_goByPaths_1_b48 (n d : Nat) (r2 : Int32 → Int32 → bS → Option bS) (q : bS) (hr2 : ∀ (x2 : Int32) (x3 : Int32) (o4 : Option Value) (ra : Nat) (rb : Nat) (rc : Nat) (re : Nat) (rf : Value) (rg : Value) (σ : bS), r2 x2 x3 σ = some q → bfr MT (d + 2) M_X10_goByPaths 2 [some (.ref 56), some (.ref 1), some (.int x2), some (.int x3), o4] [] [] (mkC ra rb rc re rf rg σ) (none, mkC ra rb rc re rf rg q)) (x2 : Int32) (x3 : Int32) (o4 : Option Value) (ra : Nat) (rb : Nat) (rc : Nat) (re : Nat) (rf : Value) (rg : Value) (σ : bS) (h : cWays_goByPaths_1_b48 n r2 x2 x3 σ = some q) : bfr MT (d + 2) M_X10_goByPaths 48 [some (.ref 56), some (.ref 1), some (.int x2), some (.int x3), o4] [] [] (mkC ra rb rc re rf rg σ) (none, mkC ra rb rc re rf rg q) := by
  unfold cWays_goByPaths_1_b48 at h
  refine bfr_run 1 51 [some (.ref 56), some (.ref 1), some (.int x2), some (.int (x3 + ci_1)), o4] [] [] (mkC ra rb rc re rf rg σ) (fun _ _ => rfl) ?_
  refine bfr_run 1 2 [some (.ref 56), some (.ref 1), some (.int x2), some (.int (x3 + ci_1)), o4] [] [] (mkC ra rb rc re rf rg σ) (fun _ _ => rfl) ?_
  exact hr2 _ _ _ _ _ _ _ _ _ _ h
set_option maxRecDepth 100000 in
theorem k_cWays_goByPaths_1_b2 (n d : Nat) (q : bS) : ∀ (k : Nat) (x2 : Int32) (x3 : Int32) (o4 : Option Value) (ra : Nat) (rb : Nat) (rc : Nat) (re : Nat) (rf : Value) (rg : Value) (σ : bS), cWays_goByPaths_1_b2 n k x2 x3 σ = some q → bfr MT (d + 2) M_X10_goByPaths 2 [some (.ref 56), some (.ref 1), some (.int x2), some (.int x3), o4] [] [] (mkC ra rb rc re rf rg σ) (none, mkC ra rb rc re rf rg q) := by
  intro k
  induction k with
  | zero => intro x2 x3 o4 ra rb rc re rf rg σ h; exact bno h
  | succ k ih =>
    intro x2 x3 o4 ra rb rc re rf rg σ h
    unfold cWays_goByPaths_1_b2 at h
    refine bfr_br 4 (pc1 := 54) (L1 := [some (.ref 56), some (.ref 1), some (.int x2), some (.int x3), o4]) (J1 := []) (st1 := []) (w1 := mkC ra rb rc re rf rg σ) (pc2 := 10) (L2 := [some (.ref 56), some (.ref 1), some (.int x2), some (.int x3), o4]) (J2 := []) (st2 := []) (w2 := mkC ra rb rc re rf rg σ) (fun _ _ => rfl) h (fun h => ?_) (fun h => ?_)
    · cases h
      exact bfr_ret 1 (fun _ _ => rfl)
    · refine bfr_chk 4 (pc1 := 15) (L1 := [some (.ref 56), some (.ref 1), some (.int x2), some (.int x3), o4]) (J1 := []) (st1 := [(.int (x2 / cb_16)), (.ref 1)]) (w1 := mkC ra rb rc re rf rg σ) (fun _ _ => rfl) h (fun h => ?_)
      refine bfr_call 2 (d1 := d + 1) (M1 := M_X9_pathHours) (vs := [(.ref 1), (.int (x2 / cb_16)), (.int x3)]) (w1 := mkC ra rb rc re rf rg σ) (pc2 := 19) (L2 := [some (.ref 56), some (.ref 1), some (.int x2), some (.int x3), o4]) (J2 := []) (rest := []) (fun a => some (.int a.1)) (fun a => mkC ra rb rc re rf rg a.2) (fun _ _ => rfl) h (fun a ha => k_cTold_pathHours n (d + 1) _ _ _ _ _ _ _ _ _ _ ha) (fun q1 _ h => ?_)
      refine bfr_br 3 (pc1 := 48) (L1 := [some (.ref 56), some (.ref 1), some (.int x2), some (.int x3), some (.int q1.1)]) (J1 := []) (st1 := []) (w1 := mkC ra rb rc re rf rg q1.2) (pc2 := 26) (L2 := [some (.ref 56), some (.ref 1), some (.int x2), some (.int x3), some (.int q1.1)]) (J2 := []) (st2 := []) (w2 := mkC ra rb rc re rf rg q1.2) (fun _ _ => rfl) h (fun h => ?_) (fun h => ?_)
      · exact k_cWays_goByPaths_1_b48 n d _ q (ih) _ _ _ _ _ _ _ _ _ _ h
      · refine bfr_chk 5 (pc1 := 32) (L1 := [some (.ref 56), some (.ref 1), some (.int x2), some (.int x3), some (.int q1.1)]) (J1 := []) (st1 := [(.int (brem x2 cb_16)), (.int x3), (.ref 56)]) (w1 := mkC ra rb rc re rf rg q1.2) (fun _ _ => rfl) h (fun h => ?_)
        refine bfr_in (i := x2) (m := 96) 4 (pc1 := 38) (L1 := [some (.ref 56), some (.ref 1), some (.int x2), some (.int x3), some (.int q1.1)]) (J1 := []) (st1 := [(.int (sA q1.2 57 x2)), (.int (brem x2 cb_16)), (.int x3), (.ref 56)]) (w1 := mkC ra rb rc re rf rg q1.2) (fun _ _ => rfl) h (fun h => ?_)
        refine bfr_call 5 (d1 := d + 1) (M1 := M_X10_come) (vs := [(.ref 56), (.int x3), (.int (brem x2 cb_16)), (.int ((sA q1.2 57 x2) + (q1.1 * cs_1024)))]) (w1 := mkC ra rb rc re rf rg q1.2) (pc2 := 48) (L2 := [some (.ref 56), some (.ref 1), some (.int x2), some (.int x3), some (.int q1.1)]) (J2 := []) (rest := []) (fun _ => none) (fun a => mkC ra rb rc re rf rg a) (fun _ _ => rfl) h (fun a ha => k_cWays_come n (d + 0) _ _ _ _ _ _ _ _ _ _ _ ha) (fun q2 _ h => ?_)
        exact k_cWays_goByPaths_1_b48 n d _ q (ih) _ _ _ _ _ _ _ _ _ _ h
set_option maxRecDepth 100000 in
theorem k_cWays_goByPaths_1 (n d : Nat) (q : bS) (x2 : Int32) (ra : Nat) (rb : Nat) (rc : Nat) (re : Nat) (rf : Value) (rg : Value) (σ : bS) (h : cWays_goByPaths_1 n x2 σ = some q) : bfr MT (d + 2) M_X10_goByPaths 0 [some (.ref 56), some (.ref 1), some (.int x2), none, none] [] [] (mkC ra rb rc re rf rg σ) (none, mkC ra rb rc re rf rg q) := by
  unfold cWays_goByPaths_1 at h
  refine bfr_run 2 2 [some (.ref 56), some (.ref 1), some (.int x2), some (.int ci_0), none] [] [] (mkC ra rb rc re rf rg σ) (fun _ _ => rfl) ?_
  exact k_cWays_goByPaths_1_b2 n d q _ _ _ _ _ _ _ _ _ _ _ h
set_option maxRecDepth 100000 in
theorem k_cWays_goByBridges_1_28_b114 (n d : Nat) (r23 : Int32 → Int32 → Int32 → Int32 → bS → Option bS) (q : bS) (hr23 : ∀ (x3 : Int32) (x4 : Int32) (x5 : Int32) (x6 : Int32) (o7 : Option Value) (ra : Nat) (rb : Nat) (rc : Nat) (re : Nat) (rf : Value) (rg : Value) (σ : bS), r23 x3 x4 x5 x6 σ = some q → bfr MT (d + 2) M_X10_goByBridges 23 [some (.ref 56), some (.ref 1), some (.ref 28), some (.int x3), some (.int x4), some (.int x5), some (.int x6), o7] [] [] (mkC ra rb rc re rf rg σ) (none, mkC ra rb rc re rf rg q)) (x3 : Int32) (x4 : Int32) (x5 : Int32) (x6 : Int32) (o7 : Option Value) (ra : Nat) (rb : Nat) (rc : Nat) (re : Nat) (rf : Value) (rg : Value) (σ : bS) (h : cWays_goByBridges_1_28_b114 n r23 x3 x4 x5 x6 σ = some q) : bfr MT (d + 2) M_X10_goByBridges 114 [some (.ref 56), some (.ref 1), some (.ref 28), some (.int x3), some (.int x4), some (.int x5), some (.int x6), o7] [] [] (mkC ra rb rc re rf rg σ) (none, mkC ra rb rc re rf rg q) := by
  unfold cWays_goByBridges_1_28_b114 at h
  refine bfr_run 1 117 [some (.ref 56), some (.ref 1), some (.ref 28), some (.int x3), some (.int x4), some (.int x5), some (.int (x6 + ci_1)), o7] [] [] (mkC ra rb rc re rf rg σ) (fun _ _ => rfl) ?_
  refine bfr_run 1 23 [some (.ref 56), some (.ref 1), some (.ref 28), some (.int x3), some (.int x4), some (.int x5), some (.int (x6 + ci_1)), o7] [] [] (mkC ra rb rc re rf rg σ) (fun _ _ => rfl) ?_
  exact hr23 _ _ _ _ _ _ _ _ _ _ _ _ h
set_option maxRecDepth 100000 in
theorem k_cWays_goByBridges_1_28_b89 (n d : Nat) (r23 : Int32 → Int32 → Int32 → Int32 → bS → Option bS) (q : bS) (hr23 : ∀ (x3 : Int32) (x4 : Int32) (x5 : Int32) (x6 : Int32) (o7 : Option Value) (ra : Nat) (rb : Nat) (rc : Nat) (re : Nat) (rf : Value) (rg : Value) (σ : bS), r23 x3 x4 x5 x6 σ = some q → bfr MT (d + 2) M_X10_goByBridges 23 [some (.ref 56), some (.ref 1), some (.ref 28), some (.int x3), some (.int x4), some (.int x5), some (.int x6), o7] [] [] (mkC ra rb rc re rf rg σ) (none, mkC ra rb rc re rf rg q)) : ∀ (k : Nat) (x3 : Int32) (x4 : Int32) (x5 : Int32) (x6 : Int32) (x7 : Int32) (ra : Nat) (rb : Nat) (rc : Nat) (re : Nat) (rf : Value) (rg : Value) (σ : bS), cWays_goByBridges_1_28_b89 n r23 k x3 x4 x5 x6 x7 σ = some q → bfr MT (d + 2) M_X10_goByBridges 89 [some (.ref 56), some (.ref 1), some (.ref 28), some (.int x3), some (.int x4), some (.int x5), some (.int x6), some (.int x7)] [] [] (mkC ra rb rc re rf rg σ) (none, mkC ra rb rc re rf rg q) := by
  intro k
  induction k with
  | zero => intro x3 x4 x5 x6 x7 ra rb rc re rf rg σ h; exact bno h
  | succ k ih =>
    intro x3 x4 x5 x6 x7 ra rb rc re rf rg σ h
    unfold cWays_goByBridges_1_28_b89 at h
    refine bfr_br 4 (pc1 := 114) (L1 := [some (.ref 56), some (.ref 1), some (.ref 28), some (.int x3), some (.int x4), some (.int x5), some (.int x6), some (.int x7)]) (J1 := []) (st1 := []) (w1 := mkC ra rb rc re rf rg σ) (pc2 := 98) (L2 := [some (.ref 56), some (.ref 1), some (.ref 28), some (.int x3), some (.int x4), some (.int x5), some (.int x6), some (.int x7)]) (J2 := []) (st2 := []) (w2 := mkC ra rb rc re rf rg σ) (fun _ _ => rfl) h (fun h => ?_) (fun h => ?_)
    · exact k_cWays_goByBridges_1_28_b114 n d _ q hr23 _ _ _ _ _ _ _ _ _ _ _ _ h
    · refine bfr_call 5 (d1 := d + 1) (M1 := M_X10_come) (vs := [(.ref 56), (.int x7), (.int x5), (.int x4)]) (w1 := mkC ra rb rc re rf rg σ) (pc2 := 108) (L2 := [some (.ref 56), some (.ref 1), some (.ref 28), some (.int x3), some (.int x4), some (.int x5), some (.int x6), some (.int x7)]) (J2 := []) (rest := []) (fun _ => none) (fun a => mkC ra rb rc re rf rg a) (fun _ _ => rfl) h (fun a ha => k_cWays_come n (d + 0) _ _ _ _ _ _ _ _ _ _ _ ha) (fun q1 _ h => ?_)
      refine bfr_run 1 111 [some (.ref 56), some (.ref 1), some (.ref 28), some (.int x3), some (.int x4), some (.int x5), some (.int x6), some (.int (x7 + ci_1))] [] [] (mkC ra rb rc re rf rg q1) (fun _ _ => rfl) ?_
      refine bfr_run 1 89 [some (.ref 56), some (.ref 1), some (.ref 28), some (.int x3), some (.int x4), some (.int x5), some (.int x6), some (.int (x7 + ci_1))] [] [] (mkC ra rb rc re rf rg q1) (fun _ _ => rfl) ?_
      exact ih _ _ _ _ _ _ _ _ _ _ _ _ h
set_option maxRecDepth 100000 in
theorem k_cWays_goByBridges_1_28_b23 (n d : Nat) (q : bS) : ∀ (k : Nat) (x3 : Int32) (x4 : Int32) (x5 : Int32) (x6 : Int32) (o7 : Option Value) (ra : Nat) (rb : Nat) (rc : Nat) (re : Nat) (rf : Value) (rg : Value) (σ : bS), cWays_goByBridges_1_28_b23 n k x3 x4 x5 x6 σ = some q → bfr MT (d + 2) M_X10_goByBridges 23 [some (.ref 56), some (.ref 1), some (.ref 28), some (.int x3), some (.int x4), some (.int x5), some (.int x6), o7] [] [] (mkC ra rb rc re rf rg σ) (none, mkC ra rb rc re rf rg q) := by
  intro k
  induction k with
  | zero => intro x3 x4 x5 x6 o7 ra rb rc re rf rg σ h; exact bno h
  | succ k ih =>
    intro x3 x4 x5 x6 o7 ra rb rc re rf rg σ h
    unfold cWays_goByBridges_1_28_b23 at h
    refine bfr_br 4 (pc1 := 120) (L1 := [some (.ref 56), some (.ref 1), some (.ref 28), some (.int x3), some (.int x4), some (.int x5), some (.int x6), o7]) (J1 := []) (st1 := []) (w1 := mkC ra rb rc re rf rg σ) (pc2 := 32) (L2 := [some (.ref 56), some (.ref 1), some (.ref 28), some (.int x3), some (.int x4), some (.int x5), some (.int x6), o7]) (J2 := []) (st2 := []) (w2 := mkC ra rb rc re rf rg σ) (fun _ _ => rfl) h (fun h => ?_) (fun h => ?_)
    · cases h
      exact bfr_ret 1 (fun _ _ => rfl)
    · refine bfr_in (i := x6) (m := 4) 4 (pc1 := 39) (L1 := [some (.ref 56), some (.ref 1), some (.ref 28), some (.int x3), some (.int x4), some (.int x5), some (.int x6), o7]) (J1 := []) (st1 := [(.int (sA σ 3 x6))]) (w1 := mkC ra rb rc re rf rg σ) (fun _ _ => rfl) h (fun h => ?_)
      refine bfr_chk 3 (pc1 := 43) (L1 := [some (.ref 56), some (.ref 1), some (.ref 28), some (.int x3), some (.int x4), some (.int x5), some (.int x6), o7]) (J1 := []) (st1 := [(.int (x3 / cb_16)), (.int (sA σ 3 x6))]) (w1 := mkC ra rb rc re rf rg σ) (fun _ _ => rfl) h (fun h => ?_)
      refine bfr_br 1 (pc1 := 46) (L1 := [some (.ref 56), some (.ref 1), some (.ref 28), some (.int x3), some (.int x4), some (.int x5), some (.int x6), o7]) (J1 := []) (st1 := []) (w1 := mkC ra rb rc re rf rg σ) (pc2 := 114) (L2 := [some (.ref 56), some (.ref 1), some (.ref 28), some (.int x3), some (.int x4), some (.int x5), some (.int x6), o7]) (J2 := []) (st2 := []) (w2 := mkC ra rb rc re rf rg σ) (fun _ _ => rfl) h (fun h => ?_) (fun h => ?_)
      · refine bfr_in (i := x6) (m := 4) 3 (pc1 := 50) (L1 := [some (.ref 56), some (.ref 1), some (.ref 28), some (.int x3), some (.int x4), some (.int x5), some (.int x6), o7]) (J1 := []) (st1 := [(.int (sA σ 28 x6))]) (w1 := mkC ra rb rc re rf rg σ) (fun _ _ => rfl) h (fun h => ?_)
        refine bfr_br 1 (pc1 := 56) (L1 := [some (.ref 56), some (.ref 1), some (.ref 28), some (.int x3), some (.int x4), some (.int x5), some (.int x6), o7]) (J1 := []) (st1 := []) (w1 := mkC ra rb rc re rf rg σ) (pc2 := 53) (L2 := [some (.ref 56), some (.ref 1), some (.ref 28), some (.int x3), some (.int x4), some (.int x5), some (.int x6), o7]) (J2 := []) (st2 := []) (w2 := mkC ra rb rc re rf rg σ) (fun _ _ => rfl) h (fun h => ?_) (fun h => ?_)
        · refine bfr_br 6 (pc1 := 66) (L1 := [some (.ref 56), some (.ref 1), some (.ref 28), some (.int x3), some (.int x4), some (.int x5), some (.int x6), o7]) (J1 := []) (st1 := []) (w1 := mkC ra rb rc re rf rg σ) (pc2 := 86) (L2 := [some (.ref 56), some (.ref 1), some (.ref 28), some (.int x3), some (.int x4), some (.int x5), some (.int x6), o7]) (J2 := []) (st2 := []) (w2 := mkC ra rb rc re rf rg σ) (fun _ _ => rfl) h (fun h => ?_) (fun h => ?_)
          · refine bfr_in (i := x6) (m := 4) 4 (pc1 := 71) (L1 := [some (.ref 56), some (.ref 1), some (.ref 28), some (.int x3), some (.int x4), some (.int x5), some (.int x6), o7]) (J1 := []) (st1 := [(.int (sA σ 28 x6)), (.ref 56)]) (w1 := mkC ra rb rc re rf rg σ) (fun _ _ => rfl) h (fun h => ?_)
            refine bfr_run 6 80 [some (.ref 56), some (.ref 1), some (.ref 28), some (.int x3), some (.int x4), some (.int x5), some (.int x6), o7] [] [(.int x4), (.int (x5 ||| (ci_1 <<< (x6 &&& 31)))), (.int (sA σ 28 x6)), (.ref 56)] (mkC ra rb rc re rf rg σ) (fun _ _ => rfl) ?_
            refine bfr_call 1 (d1 := d + 1) (M1 := M_X10_come) (vs := [(.ref 56), (.int (sA σ 28 x6)), (.int (x5 ||| (ci_1 <<< (x6 &&& 31)))), (.int x4)]) (w1 := mkC ra rb rc re rf rg σ) (pc2 := 83) (L2 := [some (.ref 56), some (.ref 1), some (.ref 28), some (.int x3), some (.int x4), some (.int x5), some (.int x6), o7]) (J2 := []) (rest := []) (fun _ => none) (fun a => mkC ra rb rc re rf rg a) (fun _ _ => rfl) h (fun a ha => k_cWays_come n (d + 0) _ _ _ _ _ _ _ _ _ _ _ ha) (fun q2 _ h => ?_)
            refine bfr_run 1 114 [some (.ref 56), some (.ref 1), some (.ref 28), some (.int x3), some (.int x4), some (.int x5), some (.int x6), o7] [] [] (mkC ra rb rc re rf rg q2) (fun _ _ => rfl) ?_
            exact k_cWays_goByBridges_1_28_b114 n d _ q (ih) _ _ _ _ _ _ _ _ _ _ _ _ h
          · refine bfr_run 2 89 [some (.ref 56), some (.ref 1), some (.ref 28), some (.int x3), some (.int x4), some (.int x5), some (.int x6), some (.int ci_0)] [] [] (mkC ra rb rc re rf rg σ) (fun _ _ => rfl) ?_
            exact k_cWays_goByBridges_1_28_b89 n d _ q (ih) _ _ _ _ _ _ _ _ _ _ _ _ _ h
        · refine bfr_run 1 114 [some (.ref 56), some (.ref 1), some (.ref 28), some (.int x3), some (.int x4), some (.int x5), some (.int x6), o7] [] [] (mkC ra rb rc re rf rg σ) (fun _ _ => rfl) ?_
          exact k_cWays_goByBridges_1_28_b114 n d _ q (ih) _ _ _ _ _ _ _ _ _ _ _ _ h
      · exact k_cWays_goByBridges_1_28_b114 n d _ q (ih) _ _ _ _ _ _ _ _ _ _ _ _ h
set_option maxRecDepth 100000 in
theorem k_cWays_goByBridges_1_28 (n d : Nat) (q : bS) (x3 : Int32) (ra : Nat) (rb : Nat) (rc : Nat) (re : Nat) (rf : Value) (rg : Value) (σ : bS) (h : cWays_goByBridges_1_28 n x3 σ = some q) : bfr MT (d + 2) M_X10_goByBridges 0 [some (.ref 56), some (.ref 1), some (.ref 28), some (.int x3), none, none, none, none] [] [] (mkC ra rb rc re rf rg σ) (none, mkC ra rb rc re rf rg q) := by
  unfold cWays_goByBridges_1_28 at h
  refine bfr_in (i := x3) (m := 96) 4 (pc1 := 6) (L1 := [some (.ref 56), some (.ref 1), some (.ref 28), some (.int x3), none, none, none, none]) (J1 := []) (st1 := [(.int (sA σ 57 x3))]) (w1 := mkC ra rb rc re rf rg σ) (fun _ _ => rfl) h (fun h => ?_)
  refine bfr_run 6 15 [some (.ref 56), some (.ref 1), some (.ref 28), some (.int x3), some (.int (((sA σ 57 x3) + cs_1024) + ci_1)), none, none, none] [] [(.int x3)] (mkC ra rb rc re rf rg σ) (fun _ _ => rfl) ?_
  refine bfr_chk 2 (pc1 := 18) (L1 := [some (.ref 56), some (.ref 1), some (.ref 28), some (.int x3), some (.int (((sA σ 57 x3) + cs_1024) + ci_1)), none, none, none]) (J1 := []) (st1 := [(.int (brem x3 cb_16))]) (w1 := mkC ra rb rc re rf rg σ) (fun _ _ => rfl) h (fun h => ?_)
  refine bfr_run 3 23 [some (.ref 56), some (.ref 1), some (.ref 28), some (.int x3), some (.int (((sA σ 57 x3) + cs_1024) + ci_1)), some (.int (brem x3 cb_16)), some (.int ci_0), none] [] [] (mkC ra rb rc re rf rg σ) (fun _ _ => rfl) ?_
  exact k_cWays_goByBridges_1_28_b23 n d q _ _ _ _ _ _ _ _ _ _ _ _ _ h
set_option maxRecDepth 100000 in
theorem k_cWays_search_1_28_b30 (n d : Nat) (q : bS) : ∀ (k : Nat) (x4 : Int32) (o3 : Option Value) (o5 : Option Value) (ra : Nat) (rb : Nat) (rc : Nat) (re : Nat) (rf : Value) (rg : Value) (σ : bS), cWays_search_1_28_b30 n k x4 σ = some q → bfr MT (d + 3) M_X10_search 30 [some (.ref 56), some (.ref 1), some (.ref 28), o3, some (.int x4), o5] [] [] (mkC ra rb rc re rf rg σ) (none, mkC ra rb rc re rf rg q) := by
  intro k
  induction k with
  | zero => intro x4 o3 o5 ra rb rc re rf rg σ h; exact bno h
  | succ k ih =>
    intro x4 o3 o5 ra rb rc re rf rg σ h
    unfold cWays_search_1_28_b30 at h
    refine bfr_br 3 (pc1 := 78) (L1 := [some (.ref 56), some (.ref 1), some (.ref 28), o3, some (.int x4), o5]) (J1 := []) (st1 := []) (w1 := mkC ra rb rc re rf rg σ) (pc2 := 37) (L2 := [some (.ref 56), some (.ref 1), some (.ref 28), o3, some (.int x4), o5]) (J2 := []) (st2 := []) (w2 := mkC ra rb rc re rf rg σ) (fun _ _ => rfl) h (fun h => ?_) (fun h => ?_)
    · cases h
      exact bfr_ret 1 (fun _ _ => rfl)
    · refine bfr_call 2 (d1 := d + 2) (M1 := M_X10_nearest) (vs := [(.ref 56)]) (w1 := mkC ra rb rc re rf rg σ) (pc2 := 41) (L2 := [some (.ref 56), some (.ref 1), some (.ref 28), o3, some (.int x4), o5]) (J2 := []) (rest := []) (fun a => some (.int a.1)) (fun a => mkC ra rb rc re rf rg a.2) (fun _ _ => rfl) h (fun a ha => k_cWays_nearest n (d + 2) _ _ _ _ _ _ _ _ ha) (fun q1 _ h => ?_)
      refine bfr_br 3 (pc1 := 49) (L1 := [some (.ref 56), some (.ref 1), some (.ref 28), o3, some (.int x4), some (.int q1.1)]) (J1 := []) (st1 := []) (w1 := mkC ra rb rc re rf rg q1.2) (pc2 := 48) (L2 := [some (.ref 56), some (.ref 1), some (.ref 28), o3, some (.int x4), some (.int q1.1)]) (J2 := []) (st2 := []) (w2 := mkC ra rb rc re rf rg q1.2) (fun _ _ => rfl) h (fun h => ?_) (fun h => ?_)
      · refine bfr_in (i := q1.1) (m := 96) 5 (pc1 := 57) (L1 := [some (.ref 56), some (.ref 1), some (.ref 28), o3, some (.int x4), some (.int q1.1)]) (J1 := []) (st1 := []) (w1 := ((mkC ra rb rc re rf rg q1.2).set 58 (.inl (0, 96, upd (q1.2.2.1 58) (q1.1).toNatClampNeg ci_1)))) (fun _ _ => rfl) h (fun h => ?_)
        rw [mkC_A58]
        refine bfr_call 4 (d1 := d + 2) (M1 := M_X10_goByPaths) (vs := [(.ref 56), (.ref 1), (.int q1.1)]) (w1 := mkC ra rb rc re rf rg (uA q1.2 58 q1.1 ci_1)) (pc2 := 64) (L2 := [some (.ref 56), some (.ref 1), some (.ref 28), o3, some (.int x4), some (.int q1.1)]) (J2 := []) (rest := []) (fun _ => none) (fun a => mkC ra rb rc re rf rg a) (fun _ _ => rfl) h (fun a ha => k_cWays_goByPaths_1 n (d + 0) _ _ _ _ _ _ _ _ _ ha) (fun q2 _ h => ?_)
        refine bfr_call 5 (d1 := d + 2) (M1 := M_X10_goByBridges) (vs := [(.ref 56), (.ref 1), (.ref 28), (.int q1.1)]) (w1 := mkC ra rb rc re rf rg q2) (pc2 := 72) (L2 := [some (.ref 56), some (.ref 1), some (.ref 28), o3, some (.int x4), some (.int q1.1)]) (J2 := []) (rest := []) (fun _ => none) (fun a => mkC ra rb rc re rf rg a) (fun _ _ => rfl) h (fun a ha => k_cWays_goByBridges_1_28 n (d + 0) _ _ _ _ _ _ _ _ _ ha) (fun q3 _ h => ?_)
        refine bfr_run 1 75 [some (.ref 56), some (.ref 1), some (.ref 28), o3, some (.int (x4 + ci_1)), some (.int q1.1)] [] [] (mkC ra rb rc re rf rg q3) (fun _ _ => rfl) ?_
        refine bfr_run 1 30 [some (.ref 56), some (.ref 1), some (.ref 28), o3, some (.int (x4 + ci_1)), some (.int q1.1)] [] [] (mkC ra rb rc re rf rg q3) (fun _ _ => rfl) ?_
        exact ih _ _ _ _ _ _ _ _ _ _ h
      · cases h
        exact bfr_ret 1 (fun _ _ => rfl)
set_option maxRecDepth 100000 in
theorem k_cWays_search_1_28 (n d : Nat) (q : bS) (x3 : Int32) (ra : Nat) (rb : Nat) (rc : Nat) (re : Nat) (rf : Value) (rg : Value) (σ : bS) (h : cWays_search_1_28 n x3 σ = some q) : bfr MT (d + 3) M_X10_search 0 [some (.ref 56), some (.ref 1), some (.ref 28), some (.int x3), none, none] [] [] (mkC ra rb rc re rf rg σ) (none, mkC ra rb rc re rf rg q) := by
  unfold cWays_search_1_28 at h
  refine bfr_call 4 (d1 := d + 2) (M1 := M_J7_fill_53178) (vs := [(.ref 57), (.int (1073741824 : Int32))]) (w1 := mkC ra rb rc re rf rg σ) (pc2 := 9) (L2 := [some (.ref 56), some (.ref 1), some (.ref 28), some (.int x3), none, none]) (J2 := []) (rest := []) (fun _ => none) (fun a => mkC ra rb rc re rf rg a) (fun _ _ => rfl) h (fun a ha => k_cj_fill_57 n (d + 2) _ _ _ _ _ _ _ _ _ ha) (fun q4 _ h => ?_)
  refine bfr_call 4 (d1 := d + 2) (M1 := M_J7_fill_53178) (vs := [(.ref 58), (.int ci_0)]) (w1 := mkC ra rb rc re rf rg q4) (pc2 := 17) (L2 := [some (.ref 56), some (.ref 1), some (.ref 28), some (.int x3), none, none]) (J2 := []) (rest := []) (fun _ => none) (fun a => mkC ra rb rc re rf rg a) (fun _ _ => rfl) h (fun a ha => k_cj_fill_58 n (d + 2) _ _ _ _ _ _ _ _ _ ha) (fun q5 _ h => ?_)
  refine bfr_run 6 26 [some (.ref 56), some (.ref 1), some (.ref 28), some (.int x3), none, none] [] [(.int ci_0), (.int (x3 * cb_16)), (.ref 57)] (mkC ra rb rc re rf rg q5) (fun _ _ => rfl) ?_
  refine bfr_in (i := (x3 * cb_16)) (m := 96) 1 (pc1 := 27) (L1 := [some (.ref 56), some (.ref 1), some (.ref 28), some (.int x3), none, none]) (J1 := []) (st1 := []) (w1 := ((mkC ra rb rc re rf rg q5).set 57 (.inl (0, 96, upd (q5.2.1 57) ((x3 * cb_16)).toNatClampNeg ci_0)))) (fun _ _ => rfl) h (fun h => ?_)
  rw [mkC_A57]
  refine bfr_run 2 30 [some (.ref 56), some (.ref 1), some (.ref 28), some (.int x3), some (.int ci_0), none] [] [] (mkC ra rb rc re rf rg (uA q5 57 (x3 * cb_16) ci_0)) (fun _ _ => rfl) ?_
  exact k_cWays_search_1_28_b30 n d q _ _ _ _ _ _ _ _ _ _ _ h
set_option maxRecDepth 100000 in
theorem k_cWays_costTo_b5 (n d : Nat) (q : (Int32 × bS)) : ∀ (k : Nat) (x1 : Int32) (x2 : Int32) (x3 : Int32) (ra : Nat) (rb : Nat) (rc : Nat) (re : Nat) (rf : Value) (rg : Value) (σ : bS), cWays_costTo_b5 n k x1 x2 x3 σ = some q → bfr MT (d + 1) M_X10_costTo 5 [some (.ref 56), some (.int x1), some (.int x2), some (.int x3)] [] [] (mkC ra rb rc re rf rg σ) (some (.int q.1), mkC ra rb rc re rf rg q.2) := by
  intro k
  induction k with
  | zero => intro x1 x2 x3 ra rb rc re rf rg σ h; exact bno h
  | succ k ih =>
    intro x1 x2 x3 ra rb rc re rf rg σ h
    unfold cWays_costTo_b5 at h
    refine bfr_br 3 (pc1 := 33) (L1 := [some (.ref 56), some (.int x1), some (.int x2), some (.int x3)]) (J1 := []) (st1 := []) (w1 := mkC ra rb rc re rf rg σ) (pc2 := 11) (L2 := [some (.ref 56), some (.int x1), some (.int x2), some (.int x3)]) (J2 := []) (st2 := []) (w2 := mkC ra rb rc re rf rg σ) (fun _ _ => rfl) h (fun h => ?_) (fun h => ?_)
    · cases h
      exact bfr_ret 2 (fun _ _ => rfl)
    · refine bfr_run 6 20 [some (.ref 56), some (.int x1), some (.int x2), some (.int x3)] [] [(.int (x1 * cb_16)), (.ref 57), (.int x2)] (mkC ra rb rc re rf rg σ) (fun _ _ => rfl) ?_
      refine bfr_in (i := ((x1 * cb_16) + x3)) (m := 96) 3 (pc1 := 23) (L1 := [some (.ref 56), some (.int x1), some (.int x2), some (.int x3)]) (J1 := []) (st1 := [(.int (sA σ 57 ((x1 * cb_16) + x3))), (.int x2)]) (w1 := mkC ra rb rc re rf rg σ) (fun _ _ => rfl) h (fun h => ?_)
      refine bfr_call 1 (d1 := d + 0) (M1 := M_J9_min_7cf53) (vs := [(.int x2), (.int (sA σ 57 ((x1 * cb_16) + x3)))]) (w1 := mkC ra rb rc re rf rg σ) (pc2 := 26) (L2 := [some (.ref 56), some (.int x1), some (.int x2), some (.int x3)]) (J2 := []) (rest := []) (fun a => some (.int a.1)) (fun a => mkC ra rb rc re rf rg a.2) (fun _ _ => rfl) h (fun a ha => k_cj_min n (d + 0) _ _ _ _ _ _ _ _ _ _ ha) (fun q1 _ h => ?_)
      refine bfr_run 2 30 [some (.ref 56), some (.int x1), some (.int q1.1), some (.int (x3 + ci_1))] [] [] (mkC ra rb rc re rf rg q1.2) (fun _ _ => rfl) ?_
      refine bfr_run 1 5 [some (.ref 56), some (.int x1), some (.int q1.1), some (.int (x3 + ci_1))] [] [] (mkC ra rb rc re rf rg q1.2) (fun _ _ => rfl) ?_
      exact ih _ _ _ _ _ _ _ _ _ _ h
set_option maxRecDepth 100000 in
theorem k_cWays_costTo (n d : Nat) (q : (Int32 × bS)) (x1 : Int32) (ra : Nat) (rb : Nat) (rc : Nat) (re : Nat) (rf : Value) (rg : Value) (σ : bS) (h : cWays_costTo n x1 σ = some q) : bfr MT (d + 1) M_X10_costTo 0 [some (.ref 56), some (.int x1), none, none] [] [] (mkC ra rb rc re rf rg σ) (some (.int q.1), mkC ra rb rc re rf rg q.2) := by
  unfold cWays_costTo at h
  refine bfr_run 4 5 [some (.ref 56), some (.int x1), some (.int (1073741824 : Int32)), some (.int ci_0)] [] [] (mkC ra rb rc re rf rg σ) (fun _ _ => rfl) ?_
  exact k_cWays_costTo_b5 n d q _ _ _ _ _ _ _ _ _ _ _ h
set_option maxRecDepth 100000 in
theorem k_cWays_crossingsTo_b22 (n d : Nat) (q : (Int32 × bS)) (s0 : Int32) (o0 : Option Value) (o1 : Option Value) (o2 : Option Value) (ra : Nat) (rb : Nat) (rc : Nat) (re : Nat) (rf : Value) (rg : Value) (σ : bS) (h : cWays_crossingsTo_b22 n s0 σ = some q) : bfr MT (d + 2) M_X10_crossingsTo 22 [o0, o1, o2] [] [(.int s0)] (mkC ra rb rc re rf rg σ) (some (.int q.1), mkC ra rb rc re rf rg q.2) := by
  unfold cWays_crossingsTo_b22 at h
  cases h
  exact bfr_ret 1 (fun _ _ => rfl)
set_option maxRecDepth 100000 in
theorem k_cWays_crossingsTo (n d : Nat) (q : (Int32 × bS)) (x1 : Int32) (ra : Nat) (rb : Nat) (rc : Nat) (re : Nat) (rf : Value) (rg : Value) (σ : bS) (h : cWays_crossingsTo n x1 σ = some q) : bfr MT (d + 2) M_X10_crossingsTo 0 [some (.ref 56), some (.int x1), none] [] [] (mkC ra rb rc re rf rg σ) (some (.int q.1), mkC ra rb rc re rf rg q.2) := by
  unfold cWays_crossingsTo at h
  refine bfr_call 3 (d1 := d + 1) (M1 := M_X10_costTo) (vs := [(.ref 56), (.int x1)]) (w1 := mkC ra rb rc re rf rg σ) (pc2 := 5) (L2 := [some (.ref 56), some (.int x1), none]) (J2 := []) (rest := []) (fun a => some (.int a.1)) (fun a => mkC ra rb rc re rf rg a.2) (fun _ _ => rfl) h (fun a ha => k_cWays_costTo n (d + 0) _ _ _ _ _ _ _ _ _ ha) (fun q1 _ h => ?_)
  refine bfr_br 4 (pc1 := 12) (L1 := [some (.ref 56), some (.int x1), some (.int q1.1)]) (J1 := []) (st1 := []) (w1 := mkC ra rb rc re rf rg q1.2) (pc2 := 17) (L2 := [some (.ref 56), some (.int x1), some (.int q1.1)]) (J2 := []) (st2 := []) (w2 := mkC ra rb rc re rf rg q1.2) (fun _ _ => rfl) h (fun h => ?_) (fun h => ?_)
  · refine bfr_run 2 22 [some (.ref 56), some (.int x1), some (.int q1.1)] [] [(.int cb_m2)] (mkC ra rb rc re rf rg q1.2) (fun _ _ => rfl) ?_
    exact k_cWays_crossingsTo_b22 n d q _ _ _ _ _ _ _ _ _ _ _ h
  · refine bfr_chk 3 (pc1 := 22) (L1 := [some (.ref 56), some (.int x1), some (.int q1.1)]) (J1 := []) (st1 := [(.int (brem q1.1 cs_1024))]) (w1 := mkC ra rb rc re rf rg q1.2) (fun _ _ => rfl) h (fun h => ?_)
    exact k_cWays_crossingsTo_b22 n d q _ _ _ _ _ _ _ _ _ _ _ h
set_option maxRecDepth 100000 in
theorem k_cWays_hoursTo_b22 (n d : Nat) (q : (Int32 × bS)) (s0 : Int32) (o0 : Option Value) (o1 : Option Value) (o2 : Option Value) (ra : Nat) (rb : Nat) (rc : Nat) (re : Nat) (rf : Value) (rg : Value) (σ : bS) (h : cWays_hoursTo_b22 n s0 σ = some q) : bfr MT (d + 2) M_X10_hoursTo 22 [o0, o1, o2] [] [(.int s0)] (mkC ra rb rc re rf rg σ) (some (.int q.1), mkC ra rb rc re rf rg q.2) := by
  unfold cWays_hoursTo_b22 at h
  cases h
  exact bfr_ret 1 (fun _ _ => rfl)
set_option maxRecDepth 100000 in
theorem k_cWays_hoursTo (n d : Nat) (q : (Int32 × bS)) (x1 : Int32) (ra : Nat) (rb : Nat) (rc : Nat) (re : Nat) (rf : Value) (rg : Value) (σ : bS) (h : cWays_hoursTo n x1 σ = some q) : bfr MT (d + 2) M_X10_hoursTo 0 [some (.ref 56), some (.int x1), none] [] [] (mkC ra rb rc re rf rg σ) (some (.int q.1), mkC ra rb rc re rf rg q.2) := by
  unfold cWays_hoursTo at h
  refine bfr_call 3 (d1 := d + 1) (M1 := M_X10_costTo) (vs := [(.ref 56), (.int x1)]) (w1 := mkC ra rb rc re rf rg σ) (pc2 := 5) (L2 := [some (.ref 56), some (.int x1), none]) (J2 := []) (rest := []) (fun a => some (.int a.1)) (fun a => mkC ra rb rc re rf rg a.2) (fun _ _ => rfl) h (fun a ha => k_cWays_costTo n (d + 0) _ _ _ _ _ _ _ _ _ ha) (fun q1 _ h => ?_)
  refine bfr_br 4 (pc1 := 12) (L1 := [some (.ref 56), some (.int x1), some (.int q1.1)]) (J1 := []) (st1 := []) (w1 := mkC ra rb rc re rf rg q1.2) (pc2 := 17) (L2 := [some (.ref 56), some (.int x1), some (.int q1.1)]) (J2 := []) (st2 := []) (w2 := mkC ra rb rc re rf rg q1.2) (fun _ _ => rfl) h (fun h => ?_) (fun h => ?_)
  · refine bfr_run 2 22 [some (.ref 56), some (.int x1), some (.int q1.1)] [] [(.int cb_m2)] (mkC ra rb rc re rf rg q1.2) (fun _ _ => rfl) ?_
    exact k_cWays_hoursTo_b22 n d q _ _ _ _ _ _ _ _ _ _ _ h
  · refine bfr_chk 3 (pc1 := 22) (L1 := [some (.ref 56), some (.int x1), some (.int q1.1)]) (J1 := []) (st1 := [(.int (q1.1 / cs_1024))]) (w1 := mkC ra rb rc re rf rg q1.2) (fun _ _ => rfl) h (fun h => ?_)
    exact k_cWays_hoursTo_b22 n d q _ _ _ _ _ _ _ _ _ _ _ h
set_option maxRecDepth 100000 in
theorem k_cTop_way_b92 (n d : Nat) (q : (Int32 × bS)) (s0 : Int32) (o0 : Option Value) (o1 : Option Value) (o2 : Option Value) (o3 : Option Value) (rb : Nat) (rc : Nat) (re : Nat) (rf : Value) (rg : Value) (σ : bS) (h : cTop_way_b92 n s0 σ = some q) : bfr MT (d + 4) M_X11_way 92 [o0, o1, o2, o3] [] [(.int s0)] (mkC 1 rb rc re rf rg σ) (some (.int q.1), mkC 1 rb rc re rf rg q.2) := by
  unfold cTop_way_b92 at h
  cases h
  exact bfr_ret 1 (fun _ _ => rfl)
set_option maxRecDepth 100000 in
theorem k_cTop_way_b25 (n d : Nat) (q : (Int32 × bS)) (o0 : Option Value) (o1 : Option Value) (o2 : Option Value) (o3 : Option Value) (rb : Nat) (rc : Nat) (re : Nat) (rf : Value) (rg : Value) (σ : bS) (h : cTop_way_b25 n σ = some q) : bfr MT (d + 4) M_X11_way 25 [o0, o1, o2, o3] [] [] (mkC 1 rb rc re rf rg σ) (some (.int q.1), mkC 1 rb rc re rf rg q.2) := by
  unfold cTop_way_b25 at h
  cases h
  exact bfr_ret 2 (fun _ _ => rfl)
set_option maxRecDepth 100000 in
theorem k_cTop_way (n d : Nat) (q : (Int32 × bS)) (x1 : Int32) (x2 : Int32) (x3 : Int32) (rb : Nat) (rc : Nat) (re : Nat) (rf : Value) (rg : Value) (σ : bS) (h : cTop_way n x1 x2 x3 σ = some q) : bfr MT (d + 4) M_X11_way 0 [some (.ref 0), some (.int x1), some (.int x2), some (.int x3)] [] [] (mkC 1 rb rc re rf rg σ) (some (.int q.1), mkC 1 rb rc re rf rg q.2) := by
  unfold cTop_way at h
  refine bfr_call 3 (d1 := d + 3) (M1 := M_X11_isMan) (vs := [(.ref 0), (.int x1)]) (w1 := mkC 1 rb rc re rf rg σ) (pc2 := 5) (L2 := [some (.ref 0), some (.int x1), some (.int x2), some (.int x3)]) (J2 := []) (rest := []) (fun a => some (.int a.1)) (fun a => mkC 1 rb rc re rf rg a.2) (fun _ _ => rfl) h (fun a ha => k_cTop_isMan n (d + 3) _ _ _ _ _ _ _ _ ha) (fun q1 _ h => ?_)
  refine bfr_br 1 (pc1 := 25) (L1 := [some (.ref 0), some (.int x1), some (.int x2), some (.int x3)]) (J1 := []) (st1 := []) (w1 := mkC 1 rb rc re rf rg q1.2) (pc2 := 8) (L2 := [some (.ref 0), some (.int x1), some (.int x2), some (.int x3)]) (J2 := []) (st2 := []) (w2 := mkC 1 rb rc re rf rg q1.2) (fun _ _ => rfl) h (fun h => ?_) (fun h => ?_)
  · exact k_cTop_way_b25 n d q _ _ _ _ _ _ _ _ _ _ h
  · refine bfr_call 3 (d1 := d + 3) (M1 := M_X11_isBank) (vs := [(.ref 0), (.int x2)]) (w1 := mkC 1 rb rc re rf rg q1.2) (pc2 := 13) (L2 := [some (.ref 0), some (.int x1), some (.int x2), some (.int x3)]) (J2 := []) (rest := []) (fun a => some (.int a.1)) (fun a => mkC 1 rb rc re rf rg a.2) (fun _ _ => rfl) h (fun a ha => k_cTop_isBank n (d + 3) _ _ _ _ _ _ _ _ ha) (fun q2 _ h => ?_)
    refine bfr_br 1 (pc1 := 25) (L1 := [some (.ref 0), some (.int x1), some (.int x2), some (.int x3)]) (J1 := []) (st1 := []) (w1 := mkC 1 rb rc re rf rg q2.2) (pc2 := 16) (L2 := [some (.ref 0), some (.int x1), some (.int x2), some (.int x3)]) (J2 := []) (st2 := []) (w2 := mkC 1 rb rc re rf rg q2.2) (fun _ _ => rfl) h (fun h => ?_) (fun h => ?_)
    · exact k_cTop_way_b25 n d q _ _ _ _ _ _ _ _ _ _ h
    · refine bfr_br 2 (pc1 := 25) (L1 := [some (.ref 0), some (.int x1), some (.int x2), some (.int x3)]) (J1 := []) (st1 := []) (w1 := mkC 1 rb rc re rf rg q2.2) (pc2 := 20) (L2 := [some (.ref 0), some (.int x1), some (.int x2), some (.int x3)]) (J2 := []) (st2 := []) (w2 := mkC 1 rb rc re rf rg q2.2) (fun _ _ => rfl) h (fun h => ?_) (fun h => ?_)
      · exact k_cTop_way_b25 n d q _ _ _ _ _ _ _ _ _ _ h
      · refine bfr_br 3 (pc1 := 27) (L1 := [some (.ref 0), some (.int x1), some (.int x2), some (.int x3)]) (J1 := []) (st1 := []) (w1 := mkC 1 rb rc re rf rg q2.2) (pc2 := 25) (L2 := [some (.ref 0), some (.int x1), some (.int x2), some (.int x3)]) (J2 := []) (st2 := []) (w2 := mkC 1 rb rc re rf rg q2.2) (fun _ _ => rfl) h (fun h => ?_) (fun h => ?_)
        · refine bfr_in (i := x1) (m := 7) 5 (pc1 := 36) (L1 := [some (.ref 0), some (.int x1), some (.int x2), some (.int x3)]) (J1 := []) (st1 := [(.int (sA q2.2 30 x1))]) (w1 := mkC 1 rb rc re rf rg q2.2) (fun _ _ => rfl) h (fun h => ?_)
          refine bfr_br 1 (pc1 := 42) (L1 := [some (.ref 0), some (.int x1), some (.int x2), some (.int x3)]) (J1 := []) (st1 := []) (w1 := mkC 1 rb rc re rf rg q2.2) (pc2 := 39) (L2 := [some (.ref 0), some (.int x1), some (.int x2), some (.int x3)]) (J2 := []) (st2 := []) (w2 := mkC 1 rb rc re rf rg q2.2) (fun _ _ => rfl) h (fun h => ?_) (fun h => ?_)
          · refine bfr_run 6 54 [some (.ref 0), some (.int x1), some (.int x2), some (.int x3)] [] [(.ref 27), (.ref 1), (.ref 56)] (mkC 1 rb rc re rf rg q2.2) (fun _ _ => rfl) ?_
            refine bfr_in (i := x1) (m := 7) 6 (pc1 := 66) (L1 := [some (.ref 0), some (.int x1), some (.int x2), some (.int x3)]) (J1 := []) (st1 := [(.int (sA q2.2 30 x1)), (.ref 28), (.ref 1), (.ref 56)]) (w1 := mkC 1 rb rc re rf rg q2.2) (fun _ _ => rfl) h (fun h => ?_)
            refine bfr_call 1 (d1 := d + 3) (M1 := M_X10_search) (vs := [(.ref 56), (.ref 1), (.ref 28), (.int (sA q2.2 30 x1))]) (w1 := mkC 1 rb rc re rf rg q2.2) (pc2 := 69) (L2 := [some (.ref 0), some (.int x1), some (.int x2), some (.int x3)]) (J2 := []) (rest := []) (fun _ => none) (fun a => mkC 1 rb rc re rf rg a) (fun _ _ => rfl) h (fun a ha => k_cWays_search_1_28 n (d + 0) _ _ _ _ _ _ _ _ _ ha) (fun q3 _ h => ?_)
            refine bfr_br 2 (pc1 := 73) (L1 := [some (.ref 0), some (.int x1), some (.int x2), some (.int x3)]) (J1 := []) (st1 := []) (w1 := mkC 1 rb rc re rf rg q3) (pc2 := 84) (L2 := [some (.ref 0), some (.int x1), some (.int x2), some (.int x3)]) (J2 := []) (st2 := []) (w2 := mkC 1 rb rc re rf rg q3) (fun _ _ => rfl) h (fun h => ?_) (fun h => ?_)
            · refine bfr_call 4 (d1 := d + 3) (M1 := M_X10_hoursTo) (vs := [(.ref 56), (.int x2)]) (w1 := mkC 1 rb rc re rf rg q3) (pc2 := 81) (L2 := [some (.ref 0), some (.int x1), some (.int x2), some (.int x3)]) (J2 := []) (rest := []) (fun a => some (.int a.1)) (fun a => mkC 1 rb rc re rf rg a.2) (fun _ _ => rfl) h (fun a ha => k_cWays_hoursTo n (d + 1) _ _ _ _ _ _ _ _ _ ha) (fun q4 _ h => ?_)
              refine bfr_run 1 92 [some (.ref 0), some (.int x1), some (.int x2), some (.int x3)] [] [(.int q4.1)] (mkC 1 rb rc re rf rg q4.2) (fun _ _ => rfl) ?_
              exact k_cTop_way_b92 n d q _ _ _ _ _ _ _ _ _ _ _ h
            · refine bfr_call 4 (d1 := d + 3) (M1 := M_X10_crossingsTo) (vs := [(.ref 56), (.int x2)]) (w1 := mkC 1 rb rc re rf rg q3) (pc2 := 92) (L2 := [some (.ref 0), some (.int x1), some (.int x2), some (.int x3)]) (J2 := []) (rest := []) (fun a => some (.int a.1)) (fun a => mkC 1 rb rc re rf rg a.2) (fun _ _ => rfl) h (fun a ha => k_cWays_crossingsTo n (d + 1) _ _ _ _ _ _ _ _ _ ha) (fun q5 _ h => ?_)
              exact k_cTop_way_b92 n d q _ _ _ _ _ _ _ _ _ _ _ h
          · cases h
            exact bfr_ret 2 (fun _ _ => rfl)
        · exact k_cTop_way_b25 n d q _ _ _ _ _ _ _ _ _ _ h
set_option maxRecDepth 100000 in
theorem k_cWays_within_1_b40 (n d : Nat) (r5 : Int32 → Int32 → Int32 → bS → Option (Int32 × bS)) (q : (Int32 × bS)) (hr5 : ∀ (x2 : Int32) (x3 : Int32) (x4 : Int32) (o5 : Option Value) (ra : Nat) (rb : Nat) (rc : Nat) (re : Nat) (rf : Value) (rg : Value) (σ : bS), r5 x2 x3 x4 σ = some q → bfr MT (d + 3) M_X10_within 5 [some (.ref 56), some (.ref 1), some (.int x2), some (.int x3), some (.int x4), o5] [] [] (mkC ra rb rc re rf rg σ) (some (.int q.1), mkC ra rb rc re rf rg q.2)) (x2 : Int32) (x3 : Int32) (x4 : Int32) (o5 : Option Value) (ra : Nat) (rb : Nat) (rc : Nat) (re : Nat) (rf : Value) (rg : Value) (σ : bS) (h : cWays_within_1_b40 n r5 x2 x3 x4 σ = some q) : bfr MT (d + 3) M_X10_within 40 [some (.ref 56), some (.ref 1), some (.int x2), some (.int x3), some (.int x4), o5] [] [] (mkC ra rb rc re rf rg σ) (some (.int q.1), mkC ra rb rc re rf rg q.2) := by
  unfold cWays_within_1_b40 at h
  refine bfr_run 1 43 [some (.ref 56), some (.ref 1), some (.int x2), some (.int x3), some (.int (x4 + ci_1)), o5] [] [] (mkC ra rb rc re rf rg σ) (fun _ _ => rfl) ?_
  refine bfr_run 1 5 [some (.ref 56), some (.ref 1), some (.int x2), some (.int x3), some (.int (x4 + ci_1)), o5] [] [] (mkC ra rb rc re rf rg σ) (fun _ _ => rfl) ?_
  exact hr5 _ _ _ _ _ _ _ _ _ _ _ h
set_option maxRecDepth 100000 in
theorem k_cWays_within_1_b5 (n d : Nat) (q : (Int32 × bS)) : ∀ (k : Nat) (x2 : Int32) (x3 : Int32) (x4 : Int32) (o5 : Option Value) (ra : Nat) (rb : Nat) (rc : Nat) (re : Nat) (rf : Value) (rg : Value) (σ : bS), cWays_within_1_b5 n k x2 x3 x4 σ = some q → bfr MT (d + 3) M_X10_within 5 [some (.ref 56), some (.ref 1), some (.int x2), some (.int x3), some (.int x4), o5] [] [] (mkC ra rb rc re rf rg σ) (some (.int q.1), mkC ra rb rc re rf rg q.2) := by
  intro k
  induction k with
  | zero => intro x2 x3 x4 o5 ra rb rc re rf rg σ h; exact bno h
  | succ k ih =>
    intro x2 x3 x4 o5 ra rb rc re rf rg σ h
    unfold cWays_within_1_b5 at h
    refine bfr_br 4 (pc1 := 46) (L1 := [some (.ref 56), some (.ref 1), some (.int x2), some (.int x3), some (.int x4), o5]) (J1 := []) (st1 := []) (w1 := mkC ra rb rc re rf rg σ) (pc2 := 14) (L2 := [some (.ref 56), some (.ref 1), some (.int x2), some (.int x3), some (.int x4), o5]) (J2 := []) (st2 := []) (w2 := mkC ra rb rc re rf rg σ) (fun _ _ => rfl) h (fun h => ?_) (fun h => ?_)
    · cases h
      exact bfr_ret 2 (fun _ _ => rfl)
    · refine bfr_call 3 (d1 := d + 2) (M1 := M_X10_hoursTo) (vs := [(.ref 56), (.int x4)]) (w1 := mkC ra rb rc re rf rg σ) (pc2 := 20) (L2 := [some (.ref 56), some (.ref 1), some (.int x2), some (.int x3), some (.int x4), o5]) (J2 := []) (rest := []) (fun a => some (.int a.1)) (fun a => mkC ra rb rc re rf rg a.2) (fun _ _ => rfl) h (fun a ha => k_cWays_hoursTo n (d + 0) _ _ _ _ _ _ _ _ _ ha) (fun q1 _ h => ?_)
      refine bfr_br 3 (pc1 := 40) (L1 := [some (.ref 56), some (.ref 1), some (.int x2), some (.int x3), some (.int x4), some (.int q1.1)]) (J1 := []) (st1 := []) (w1 := mkC ra rb rc re rf rg q1.2) (pc2 := 27) (L2 := [some (.ref 56), some (.ref 1), some (.int x2), some (.int x3), some (.int x4), some (.int q1.1)]) (J2 := []) (st2 := []) (w2 := mkC ra rb rc re rf rg q1.2) (fun _ _ => rfl) h (fun h => ?_) (fun h => ?_)
      · exact k_cWays_within_1_b40 n d _ q (ih) _ _ _ _ _ _ _ _ _ _ _ h
      · refine bfr_br 3 (pc1 := 40) (L1 := [some (.ref 56), some (.ref 1), some (.int x2), some (.int x3), some (.int x4), some (.int q1.1)]) (J1 := []) (st1 := []) (w1 := mkC ra rb rc re rf rg q1.2) (pc2 := 33) (L2 := [some (.ref 56), some (.ref 1), some (.int x2), some (.int x3), some (.int x4), some (.int q1.1)]) (J2 := []) (st2 := []) (w2 := mkC ra rb rc re rf rg q1.2) (fun _ _ => rfl) h (fun h => ?_) (fun h => ?_)
        · exact k_cWays_within_1_b40 n d _ q (ih) _ _ _ _ _ _ _ _ _ _ _ h
        · refine bfr_run 6 40 [some (.ref 56), some (.ref 1), some (.int x2), some (.int (x3 ||| (ci_1 <<< (x4 &&& 31)))), some (.int x4), some (.int q1.1)] [] [] (mkC ra rb rc re rf rg q1.2) (fun _ _ => rfl) ?_
          exact k_cWays_within_1_b40 n d _ q (ih) _ _ _ _ _ _ _ _ _ _ _ h
set_option maxRecDepth 100000 in
theorem k_cWays_within_1 (n d : Nat) (q : (Int32 × bS)) (x2 : Int32) (ra : Nat) (rb : Nat) (rc : Nat) (re : Nat) (rf : Value) (rg : Value) (σ : bS) (h : cWays_within_1 n x2 σ = some q) : bfr MT (d + 3) M_X10_within 0 [some (.ref 56), some (.ref 1), some (.int x2), none, none, none] [] [] (mkC ra rb rc re rf rg σ) (some (.int q.1), mkC ra rb rc re rf rg q.2) := by
  unfold cWays_within_1 at h
  refine bfr_run 4 5 [some (.ref 56), some (.ref 1), some (.int x2), some (.int ci_0), some (.int ci_0), none] [] [] (mkC ra rb rc re rf rg σ) (fun _ _ => rfl) ?_
  exact k_cWays_within_1_b5 n d q _ _ _ _ _ _ _ _ _ _ _ _ h
set_option maxRecDepth 100000 in
theorem k_cTop_reach_b18 (n d : Nat) (q : (Int32 × bS)) (o0 : Option Value) (o1 : Option Value) (o2 : Option Value) (rb : Nat) (rc : Nat) (re : Nat) (rf : Value) (rg : Value) (σ : bS) (h : cTop_reach_b18 n σ = some q) : bfr MT (d + 4) M_X11_reach 18 [o0, o1, o2] [] [] (mkC 1 rb rc re rf rg σ) (some (.int q.1), mkC 1 rb rc re rf rg q.2) := by
  unfold cTop_reach_b18 at h
  cases h
  exact bfr_ret 2 (fun _ _ => rfl)
set_option maxRecDepth 100000 in
theorem k_cTop_reach (n d : Nat) (q : (Int32 × bS)) (x1 : Int32) (x2 : Int32) (rb : Nat) (rc : Nat) (re : Nat) (rf : Value) (rg : Value) (σ : bS) (h : cTop_reach n x1 x2 σ = some q) : bfr MT (d + 4) M_X11_reach 0 [some (.ref 0), some (.int x1), some (.int x2)] [] [] (mkC 1 rb rc re rf rg σ) (some (.int q.1), mkC 1 rb rc re rf rg q.2) := by
  unfold cTop_reach at h
  refine bfr_call 3 (d1 := d + 3) (M1 := M_X11_isMan) (vs := [(.ref 0), (.int x1)]) (w1 := mkC 1 rb rc re rf rg σ) (pc2 := 5) (L2 := [some (.ref 0), some (.int x1), some (.int x2)]) (J2 := []) (rest := []) (fun a => some (.int a.1)) (fun a => mkC 1 rb rc re rf rg a.2) (fun _ _ => rfl) h (fun a ha => k_cTop_isMan n (d + 3) _ _ _ _ _ _ _ _ ha) (fun q1 _ h => ?_)
  refine bfr_br 1 (pc1 := 18) (L1 := [some (.ref 0), some (.int x1), some (.int x2)]) (J1 := []) (st1 := []) (w1 := mkC 1 rb rc re rf rg q1.2) (pc2 := 8) (L2 := [some (.ref 0), some (.int x1), some (.int x2)]) (J2 := []) (st2 := []) (w2 := mkC 1 rb rc re rf rg q1.2) (fun _ _ => rfl) h (fun h => ?_) (fun h => ?_)
  · exact k_cTop_reach_b18 n d q _ _ _ _ _ _ _ _ _ h
  · refine bfr_br 2 (pc1 := 18) (L1 := [some (.ref 0), some (.int x1), some (.int x2)]) (J1 := []) (st1 := []) (w1 := mkC 1 rb rc re rf rg q1.2) (pc2 := 12) (L2 := [some (.ref 0), some (.int x1), some (.int x2)]) (J2 := []) (st2 := []) (w2 := mkC 1 rb rc re rf rg q1.2) (fun _ _ => rfl) h (fun h => ?_) (fun h => ?_)
    · exact k_cTop_reach_b18 n d q _ _ _ _ _ _ _ _ _ h
    · refine bfr_br 3 (pc1 := 20) (L1 := [some (.ref 0), some (.int x1), some (.int x2)]) (J1 := []) (st1 := []) (w1 := mkC 1 rb rc re rf rg q1.2) (pc2 := 18) (L2 := [some (.ref 0), some (.int x1), some (.int x2)]) (J2 := []) (st2 := []) (w2 := mkC 1 rb rc re rf rg q1.2) (fun _ _ => rfl) h (fun h => ?_) (fun h => ?_)
      · refine bfr_in (i := x1) (m := 7) 5 (pc1 := 29) (L1 := [some (.ref 0), some (.int x1), some (.int x2)]) (J1 := []) (st1 := [(.int (sA q1.2 30 x1))]) (w1 := mkC 1 rb rc re rf rg q1.2) (fun _ _ => rfl) h (fun h => ?_)
        refine bfr_br 1 (pc1 := 35) (L1 := [some (.ref 0), some (.int x1), some (.int x2)]) (J1 := []) (st1 := []) (w1 := mkC 1 rb rc re rf rg q1.2) (pc2 := 32) (L2 := [some (.ref 0), some (.int x1), some (.int x2)]) (J2 := []) (st2 := []) (w2 := mkC 1 rb rc re rf rg q1.2) (fun _ _ => rfl) h (fun h => ?_) (fun h => ?_)
        · refine bfr_run 6 47 [some (.ref 0), some (.int x1), some (.int x2)] [] [(.ref 27), (.ref 1), (.ref 56)] (mkC 1 rb rc re rf rg q1.2) (fun _ _ => rfl) ?_
          refine bfr_in (i := x1) (m := 7) 6 (pc1 := 59) (L1 := [some (.ref 0), some (.int x1), some (.int x2)]) (J1 := []) (st1 := [(.int (sA q1.2 30 x1)), (.ref 28), (.ref 1), (.ref 56)]) (w1 := mkC 1 rb rc re rf rg q1.2) (fun _ _ => rfl) h (fun h => ?_)
          refine bfr_call 1 (d1 := d + 3) (M1 := M_X10_search) (vs := [(.ref 56), (.ref 1), (.ref 28), (.int (sA q1.2 30 x1))]) (w1 := mkC 1 rb rc re rf rg q1.2) (pc2 := 62) (L2 := [some (.ref 0), some (.int x1), some (.int x2)]) (J2 := []) (rest := []) (fun _ => none) (fun a => mkC 1 rb rc re rf rg a) (fun _ _ => rfl) h (fun a ha => k_cWays_search_1_28 n (d + 0) _ _ _ _ _ _ _ _ _ ha) (fun q2 _ h => ?_)
          refine bfr_call 6 (d1 := d + 3) (M1 := M_X10_within) (vs := [(.ref 56), (.ref 1), (.int x2)]) (w1 := mkC 1 rb rc re rf rg q2) (pc2 := 74) (L2 := [some (.ref 0), some (.int x1), some (.int x2)]) (J2 := []) (rest := []) (fun a => some (.int a.1)) (fun a => mkC 1 rb rc re rf rg a.2) (fun _ _ => rfl) h (fun a ha => k_cWays_within_1 n (d + 0) _ _ _ _ _ _ _ _ _ ha) (fun q3 _ h => ?_)
          cases h
          exact bfr_ret 1 (fun _ _ => rfl)
        · cases h
          exact bfr_ret 2 (fun _ _ => rfl)
      · exact k_cTop_reach_b18 n d q _ _ _ _ _ _ _ _ _ h
set_option maxRecDepth 100000 in
theorem k_cTop_isSet_b22 (n d : Nat) (q : (Int32 × bS)) (s0 : Int32) (o0 : Option Value) (o1 : Option Value) (rb : Nat) (rc : Nat) (re : Nat) (rf : Value) (rg : Value) (σ : bS) (h : cTop_isSet_b22 n s0 σ = some q) : bfr MT (d + 0) M_X11_isSet 22 [o0, o1] [] [(.int s0)] (mkC 1 rb rc re rf rg σ) (some (.int q.1), mkC 1 rb rc re rf rg q.2) := by
  unfold cTop_isSet_b22 at h
  exact bfr_bz (mk := mkC 1 rb rc re rf rg) 1 (fun _ _ => rfl) h
set_option maxRecDepth 100000 in
theorem k_cTop_isSet_b21 (n d : Nat) (q : (Int32 × bS)) (o0 : Option Value) (o1 : Option Value) (rb : Nat) (rc : Nat) (re : Nat) (rf : Value) (rg : Value) (σ : bS) (h : cTop_isSet_b21 n σ = some q) : bfr MT (d + 0) M_X11_isSet 21 [o0, o1] [] [] (mkC 1 rb rc re rf rg σ) (some (.int q.1), mkC 1 rb rc re rf rg q.2) := by
  unfold cTop_isSet_b21 at h
  refine bfr_run 1 22 [o0, o1] [] [(.int ci_0)] (mkC 1 rb rc re rf rg σ) (fun _ _ => rfl) ?_
  exact k_cTop_isSet_b22 n d q _ _ _ _ _ _ _ _ _ h
set_option maxRecDepth 100000 in
theorem k_cTop_isSet (n d : Nat) (q : (Int32 × bS)) (x1 : Int32) (rb : Nat) (rc : Nat) (re : Nat) (rf : Value) (rg : Value) (σ : bS) (h : cTop_isSet n x1 σ = some q) : bfr MT (d + 0) M_X11_isSet 0 [some (.ref 0), some (.int x1)] [] [] (mkC 1 rb rc re rf rg σ) (some (.int q.1), mkC 1 rb rc re rf rg q.2) := by
  unfold cTop_isSet at h
  refine bfr_br 2 (pc1 := 21) (L1 := [some (.ref 0), some (.int x1)]) (J1 := []) (st1 := []) (w1 := mkC 1 rb rc re rf rg σ) (pc2 := 4) (L2 := [some (.ref 0), some (.int x1)]) (J2 := []) (st2 := []) (w2 := mkC 1 rb rc re rf rg σ) (fun _ _ => rfl) h (fun h => ?_) (fun h => ?_)
  · exact k_cTop_isSet_b21 n d q _ _ _ _ _ _ _ _ h
  · refine bfr_run 6 14 [some (.ref 0), some (.int x1)] [] [(.int (ci_1 <<< ((sI σ 1 3) &&& 31))), (.int x1)] (mkC 1 rb rc re rf rg σ) (fun _ _ => rfl) ?_
    refine bfr_br 1 (pc1 := 21) (L1 := [some (.ref 0), some (.int x1)]) (J1 := []) (st1 := []) (w1 := mkC 1 rb rc re rf rg σ) (pc2 := 17) (L2 := [some (.ref 0), some (.int x1)]) (J2 := []) (st2 := []) (w2 := mkC 1 rb rc re rf rg σ) (fun _ _ => rfl) h (fun h => ?_) (fun h => ?_)
    · exact k_cTop_isSet_b21 n d q _ _ _ _ _ _ _ _ h
    · refine bfr_run 2 22 [some (.ref 0), some (.int x1)] [] [(.int ci_1)] (mkC 1 rb rc re rf rg σ) (fun _ _ => rfl) ?_
      exact k_cTop_isSet_b22 n d q _ _ _ _ _ _ _ _ _ h
set_option maxRecDepth 100000 in
theorem k_cTop_rowFault_b46 (n d : Nat) (q : (Int32 × bS)) (s0 : Int32) (o0 : Option Value) (o1 : Option Value) (o2 : Option Value) (rb : Nat) (re : Nat) (rf : Value) (rg : Value) (σ : bS) (h : cTop_rowFault_b46 n s0 σ = some q) : bfr MT (d + 1) M_X11_rowFault 46 [o0, o1, o2] [] [(.int s0)] (mkC 1 rb 1 re rf rg σ) (some (.int q.1), mkC 1 rb 1 re rf rg q.2) := by
  unfold cTop_rowFault_b46 at h
  cases h
  exact bfr_ret 1 (fun _ _ => rfl)
set_option maxRecDepth 100000 in
theorem k_cTop_rowFault_b16 (n d : Nat) (q : (Int32 × bS)) (o0 : Option Value) (o1 : Option Value) (o2 : Option Value) (rb : Nat) (re : Nat) (rf : Value) (rg : Value) (σ : bS) (h : cTop_rowFault_b16 n σ = some q) : bfr MT (d + 1) M_X11_rowFault 16 [o0, o1, o2] [] [] (mkC 1 rb 1 re rf rg σ) (some (.int q.1), mkC 1 rb 1 re rf rg q.2) := by
  unfold cTop_rowFault_b16 at h
  cases h
  exact bfr_ret 2 (fun _ _ => rfl)
set_option maxRecDepth 100000 in
theorem k_cTop_rowFault (n d : Nat) (q : (Int32 × bS)) (x1 : Int32) (x2 : Int32) (rb : Nat) (re : Nat) (rf : Value) (rg : Value) (σ : bS) (h : cTop_rowFault n x1 x2 σ = some q) : bfr MT (d + 1) M_X11_rowFault 0 [some (.ref 0), some (.int x1), some (.int x2)] [] [] (mkC 1 rb 1 re rf rg σ) (some (.int q.1), mkC 1 rb 1 re rf rg q.2) := by
  unfold cTop_rowFault at h
  refine bfr_call 3 (d1 := d + 0) (M1 := M_X11_isBridge) (vs := [(.ref 0), (.int x1)]) (w1 := mkC 1 rb 1 re rf rg σ) (pc2 := 5) (L2 := [some (.ref 0), some (.int x1), some (.int x2)]) (J2 := []) (rest := []) (fun a => some (.int a.1)) (fun a => mkC 1 rb 1 re rf rg a.2) (fun _ _ => rfl) h (fun a ha => k_cTop_isBridge n (d + 0) _ _ _ _ _ _ _ _ ha) (fun q1 _ h => ?_)
  refine bfr_br 1 (pc1 := 16) (L1 := [some (.ref 0), some (.int x1), some (.int x2)]) (J1 := []) (st1 := []) (w1 := mkC 1 rb 1 re rf rg q1.2) (pc2 := 8) (L2 := [some (.ref 0), some (.int x1), some (.int x2)]) (J2 := []) (st2 := []) (w2 := mkC 1 rb 1 re rf rg q1.2) (fun _ _ => rfl) h (fun h => ?_) (fun h => ?_)
  · exact k_cTop_rowFault_b16 n d q _ _ _ _ _ _ _ _ h
  · refine bfr_call 3 (d1 := d + 0) (M1 := M_X11_isSet) (vs := [(.ref 0), (.int x2)]) (w1 := mkC 1 rb 1 re rf rg q1.2) (pc2 := 13) (L2 := [some (.ref 0), some (.int x1), some (.int x2)]) (J2 := []) (rest := []) (fun a => some (.int a.1)) (fun a => mkC 1 rb 1 re rf rg a.2) (fun _ _ => rfl) h (fun a ha => k_cTop_isSet n (d + 0) _ _ _ _ _ _ _ _ ha) (fun q2 _ h => ?_)
    refine bfr_br 1 (pc1 := 16) (L1 := [some (.ref 0), some (.int x1), some (.int x2)]) (J1 := []) (st1 := []) (w1 := mkC 1 rb 1 re rf rg q2.2) (pc2 := 18) (L2 := [some (.ref 0), some (.int x1), some (.int x2)]) (J2 := []) (st2 := []) (w2 := mkC 1 rb 1 re rf rg q2.2) (fun _ _ => rfl) h (fun h => ?_) (fun h => ?_)
    · exact k_cTop_rowFault_b16 n d q _ _ _ _ _ _ _ _ h
    · refine bfr_run 6 30 [some (.ref 0), some (.int x1), some (.int x2)] [] [(.int x1), (.ref 3), (.ref 27)] (mkC 1 rb 1 re rf rg q2.2) (fun _ _ => rfl) ?_
      refine bfr_in (i := x1) (m := 4) 1 (pc1 := 31) (L1 := [some (.ref 0), some (.int x1), some (.int x2)]) (J1 := []) (st1 := [(.int (sA q2.2 3 x1)), (.ref 27)]) (w1 := mkC 1 rb 1 re rf rg q2.2) (fun _ _ => rfl) h (fun h => ?_)
      refine bfr_call 1 (d1 := d + 0) (M1 := M_X1_menAt) (vs := [(.ref 27), (.int (sA q2.2 3 x1))]) (w1 := mkC 1 rb 1 re rf rg q2.2) (pc2 := 34) (L2 := [some (.ref 0), some (.int x1), some (.int x2)]) (J2 := []) (rest := []) (fun a => some (.int a.1)) (fun a => mkC 1 rb 1 re rf rg a.2) (fun _ _ => rfl) h (fun a ha => k_cGoing_menAt n (d + 0) _ _ _ _ _ _ _ _ ha) (fun q3 _ h => ?_)
      refine bfr_br 4 (pc1 := 40) (L1 := [some (.ref 0), some (.int x1), some (.int x2)]) (J1 := []) (st1 := []) (w1 := mkC 1 rb 1 re rf rg q3.2) (pc2 := 44) (L2 := [some (.ref 0), some (.int x1), some (.int x2)]) (J2 := []) (st2 := []) (w2 := mkC 1 rb 1 re rf rg q3.2) (fun _ _ => rfl) h (fun h => ?_) (fun h => ?_)
      · refine bfr_run 2 46 [some (.ref 0), some (.int x1), some (.int x2)] [] [(.int ci_0)] (mkC 1 rb 1 re rf rg q3.2) (fun _ _ => rfl) ?_
        exact k_cTop_rowFault_b46 n d q _ _ _ _ _ _ _ _ _ h
      · refine bfr_run 1 46 [some (.ref 0), some (.int x1), some (.int x2)] [] [(.int cb_m2)] (mkC 1 rb 1 re rf rg q3.2) (fun _ _ => rfl) ?_
        exact k_cTop_rowFault_b46 n d q _ _ _ _ _ _ _ _ _ h
set_option maxRecDepth 100000 in
theorem k_cj_bitCount_b9 (n d : Nat) (q : (Int32 × bS)) (s0 : Int32) (o0 : Option Value) (ra : Nat) (rb : Nat) (rc : Nat) (re : Nat) (rf : Value) (rg : Value) (σ : bS) (h : cj_bitCount_b9 n s0 σ = some q) : bfr MT (d + 0) M_J6_bitCount_0f7a4 9 [o0] [] [(.int s0)] (mkC ra rb rc re rf rg σ) (some (.int q.1), mkC ra rb rc re rf rg q.2) := by
  unfold cj_bitCount_b9 at h
  refine bfr_run 6 17 [some (.int s0)] [] [(.int ci_2), (.int s0), (.int (s0 &&& (858993459 : Int32)))] (mkC ra rb rc re rf rg σ) (fun _ _ => rfl) ?_
  refine bfr_run 6 25 [some (.int ((s0 &&& (858993459 : Int32)) + ((bush s0 ci_2) &&& (858993459 : Int32))))] [] [(.int ((s0 &&& (858993459 : Int32)) + ((bush s0 ci_2) &&& (858993459 : Int32))))] (mkC ra rb rc re rf rg σ) (fun _ _ => rfl) ?_
  refine bfr_run 6 33 [some (.int ((s0 &&& (858993459 : Int32)) + ((bush s0 ci_2) &&& (858993459 : Int32))))] [] [(.int ((((s0 &&& (858993459 : Int32)) + ((bush s0 ci_2) &&& (858993459 : Int32))) + (bush ((s0 &&& (858993459 : Int32)) + ((bush s0 ci_2) &&& (858993459 : Int32))) ci_4)) &&& (252645135 : Int32)))] (mkC ra rb rc re rf rg σ) (fun _ _ => rfl) ?_
  refine bfr_run 6 40 [some (.int ((((s0 &&& (858993459 : Int32)) + ((bush s0 ci_2) &&& (858993459 : Int32))) + (bush ((s0 &&& (858993459 : Int32)) + ((bush s0 ci_2) &&& (858993459 : Int32))) ci_4)) &&& (252645135 : Int32)))] [] [(.int (((((s0 &&& (858993459 : Int32)) + ((bush s0 ci_2) &&& (858993459 : Int32))) + (bush ((s0 &&& (858993459 : Int32)) + ((bush s0 ci_2) &&& (858993459 : Int32))) ci_4)) &&& (252645135 : Int32)) + (bush ((((s0 &&& (858993459 : Int32)) + ((bush s0 ci_2) &&& (858993459 : Int32))) + (bush ((s0 &&& (858993459 : Int32)) + ((bush s0 ci_2) &&& (858993459 : Int32))) ci_4)) &&& (252645135 : Int32)) cb_8)))] (mkC ra rb rc re rf rg σ) (fun _ _ => rfl) ?_
  refine bfr_run 6 47 [some (.int (((((s0 &&& (858993459 : Int32)) + ((bush s0 ci_2) &&& (858993459 : Int32))) + (bush ((s0 &&& (858993459 : Int32)) + ((bush s0 ci_2) &&& (858993459 : Int32))) ci_4)) &&& (252645135 : Int32)) + (bush ((((s0 &&& (858993459 : Int32)) + ((bush s0 ci_2) &&& (858993459 : Int32))) + (bush ((s0 &&& (858993459 : Int32)) + ((bush s0 ci_2) &&& (858993459 : Int32))) ci_4)) &&& (252645135 : Int32)) cb_8)))] [] [(.int ((((((s0 &&& (858993459 : Int32)) + ((bush s0 ci_2) &&& (858993459 : Int32))) + (bush ((s0 &&& (858993459 : Int32)) + ((bush s0 ci_2) &&& (858993459 : Int32))) ci_4)) &&& (252645135 : Int32)) + (bush ((((s0 &&& (858993459 : Int32)) + ((bush s0 ci_2) &&& (858993459 : Int32))) + (bush ((s0 &&& (858993459 : Int32)) + ((bush s0 ci_2) &&& (858993459 : Int32))) ci_4)) &&& (252645135 : Int32)) cb_8)) + (bush (((((s0 &&& (858993459 : Int32)) + ((bush s0 ci_2) &&& (858993459 : Int32))) + (bush ((s0 &&& (858993459 : Int32)) + ((bush s0 ci_2) &&& (858993459 : Int32))) ci_4)) &&& (252645135 : Int32)) + (bush ((((s0 &&& (858993459 : Int32)) + ((bush s0 ci_2) &&& (858993459 : Int32))) + (bush ((s0 &&& (858993459 : Int32)) + ((bush s0 ci_2) &&& (858993459 : Int32))) ci_4)) &&& (252645135 : Int32)) cb_8)) cb_16)))] (mkC ra rb rc re rf rg σ) (fun _ _ => rfl) ?_
  cases h
  exact bfr_ret 5 (fun _ _ => rfl)
set_option maxRecDepth 100000 in
theorem k_cj_bitCount (n d : Nat) (q : (Int32 × bS)) (x0 : Int32) (ra : Nat) (rb : Nat) (rc : Nat) (re : Nat) (rf : Value) (rg : Value) (σ : bS) (h : cj_bitCount n x0 σ = some q) : bfr MT (d + 0) M_J6_bitCount_0f7a4 0 [some (.int x0)] [] [] (mkC ra rb rc re rf rg σ) (some (.int q.1), mkC ra rb rc re rf rg q.2) := by
  unfold cj_bitCount at h
  refine bfr_run 6 8 [some (.int x0)] [] [(.int ((bush x0 ci_1) &&& (1431655765 : Int32))), (.int x0)] (mkC ra rb rc re rf rg σ) (fun _ _ => rfl) ?_
  refine bfr_run 1 9 [some (.int x0)] [] [(.int (x0 - ((bush x0 ci_1) &&& (1431655765 : Int32))))] (mkC ra rb rc re rf rg σ) (fun _ _ => rfl) ?_
  exact k_cj_bitCount_b9 n d q _ _ _ _ _ _ _ _ _ h
set_option maxRecDepth 100000 in
theorem k_cRows_wishCell (n d : Nat) (q : (Int32 × bS)) (x0 : Int32) (x1 : Int32) (x2 : Int32) (ra : Nat) (rb : Nat) (rc : Nat) (re : Nat) (rf : Value) (rg : Value) (σ : bS) (h : cRows_wishCell n x0 x1 x2 σ = some q) : bfr MT (d + 0) M_X5_wishCell 0 [some (.int x0), some (.int x1), some (.int x2)] [] [] (mkC ra rb rc re rf rg σ) (some (.int q.1), mkC ra rb rc re rf rg q.2) := by
  unfold cRows_wishCell at h
  refine bfr_run 6 7 [some (.int x0), some (.int x1), some (.int x2)] [] [(.int ci_1), (.int ((x0 * cb_7) + x1))] (mkC ra rb rc re rf rg σ) (fun _ _ => rfl) ?_
  cases h
  exact bfr_ret 6 (fun _ _ => rfl)
set_option maxRecDepth 100000 in
theorem k_cRows_prepare_b152 (n d : Nat) (r56 : Int32 → Int32 → Int32 → bS → Option bS) (q : bS) (hr56 : ∀ (x4 : Int32) (x5 : Int32) (x6 : Int32) (o1 : Option Value) (o2 : Option Value) (o3 : Option Value) (o7 : Option Value) (o8 : Option Value) (ra : Nat) (rb : Nat) (re : Nat) (rf : Value) (rg : Value) (σ : bS), r56 x4 x5 x6 σ = some q → bfr MT (d + 3) M_X5_prepare 56 [some (.ref 59), o1, o2, o3, some (.int x4), some (.int x5), some (.int x6), o7, o8] [] [] (mkC ra rb 1 re rf rg σ) (none, mkC ra rb 1 re rf rg q)) (x4 : Int32) (x5 : Int32) (x6 : Int32) (o1 : Option Value) (o2 : Option Value) (o3 : Option Value) (o7 : Option Value) (o8 : Option Value) (ra : Nat) (rb : Nat) (re : Nat) (rf : Value) (rg : Value) (σ : bS) (h : cRows_prepare_b152 n r56 x4 x5 x6 σ = some q) : bfr MT (d + 3) M_X5_prepare 152 [some (.ref 59), o1, o2, o3, some (.int x4), some (.int x5), some (.int x6), o7, o8] [] [] (mkC ra rb 1 re rf rg σ) (none, mkC ra rb 1 re rf rg q) := by
  unfold cRows_prepare_b152 at h
  refine bfr_run 1 155 [some (.ref 59), o1, o2, o3, some (.int x4), some (.int x5), some (.int (x6 + ci_1)), o7, o8] [] [] (mkC ra rb 1 re rf rg σ) (fun _ _ => rfl) ?_
  refine bfr_run 1 56 [some (.ref 59), o1, o2, o3, some (.int x4), some (.int x5), some (.int (x6 + ci_1)), o7, o8] [] [] (mkC ra rb 1 re rf rg σ) (fun _ _ => rfl) ?_
  exact hr56 _ _ _ _ _ _ _ _ _ _ _ _ _ _ h
set_option maxRecDepth 100000 in
theorem k_cRows_prepare_b98 (n d : Nat) (r56 : Int32 → Int32 → Int32 → bS → Option bS) (r67 : Int32 → Int32 → Int32 → Int32 → bS → Option bS) (q : bS) (hr56 : ∀ (x4 : Int32) (x5 : Int32) (x6 : Int32) (o1 : Option Value) (o2 : Option Value) (o3 : Option Value) (o7 : Option Value) (o8 : Option Value) (ra : Nat) (rb : Nat) (re : Nat) (rf : Value) (rg : Value) (σ : bS), r56 x4 x5 x6 σ = some q → bfr MT (d + 3) M_X5_prepare 56 [some (.ref 59), o1, o2, o3, some (.int x4), some (.int x5), some (.int x6), o7, o8] [] [] (mkC ra rb 1 re rf rg σ) (none, mkC ra rb 1 re rf rg q)) (hr67 : ∀ (x4 : Int32) (x5 : Int32) (x6 : Int32) (x7 : Int32) (o1 : Option Value) (o2 : Option Value) (o3 : Option Value) (o8 : Option Value) (ra : Nat) (rb : Nat) (re : Nat) (rf : Value) (rg : Value) (σ : bS), r67 x4 x5 x6 x7 σ = some q → bfr MT (d + 3) M_X5_prepare 67 [some (.ref 59), o1, o2, o3, some (.int x4), some (.int x5), some (.int x6), some (.int x7), o8] [] [] (mkC ra rb 1 re rf rg σ) (none, mkC ra rb 1 re rf rg q)) : ∀ (k : Nat) (x4 : Int32) (x5 : Int32) (x6 : Int32) (x7 : Int32) (x8 : Int32) (o1 : Option Value) (o2 : Option Value) (o3 : Option Value) (ra : Nat) (rb : Nat) (re : Nat) (rf : Value) (rg : Value) (σ : bS), cRows_prepare_b98 n r56 r67 k x4 x5 x6 x7 x8 σ = some q → bfr MT (d + 3) M_X5_prepare 98 [some (.ref 59), o1, o2, o3, some (.int x4), some (.int x5), some (.int x6), some (.int x7), some (.int x8)] [] [] (mkC ra rb 1 re rf rg σ) (none, mkC ra rb 1 re rf rg q) := by
  intro k
  induction k with
  | zero => intro x4 x5 x6 x7 x8 o1 o2 o3 ra rb re rf rg σ h; exact bno h
  | succ k ih =>
    intro x4 x5 x6 x7 x8 o1 o2 o3 ra rb re rf rg σ h
    unfold cRows_prepare_b98 at h
    refine bfr_br 3 (pc1 := 146) (L1 := [some (.ref 59), o1, o2, o3, some (.int x4), some (.int x5), some (.int x6), some (.int x7), some (.int x8)]) (J1 := []) (st1 := []) (w1 := mkC ra rb 1 re rf rg σ) (pc2 := 105) (L2 := [some (.ref 59), o1, o2, o3, some (.int x4), some (.int x5), some (.int x6), some (.int x7), some (.int x8)]) (J2 := []) (st2 := []) (w2 := mkC ra rb 1 re rf rg σ) (fun _ _ => rfl) h (fun h => ?_) (fun h => ?_)
    · refine bfr_run 1 149 [some (.ref 59), o1, o2, o3, some (.int x4), some (.int x5), some (.int x6), some (.int (x7 + ci_1)), some (.int x8)] [] [] (mkC ra rb 1 re rf rg σ) (fun _ _ => rfl) ?_
      refine bfr_run 1 67 [some (.ref 59), o1, o2, o3, some (.int x4), some (.int x5), some (.int x6), some (.int (x7 + ci_1)), some (.int x8)] [] [] (mkC ra rb 1 re rf rg σ) (fun _ _ => rfl) ?_
      exact hr67 _ _ _ _ _ _ _ _ _ _ _ _ _ _ h
    · refine bfr_call 6 (d1 := d + 2) (M1 := M_X5_wishCell) (vs := [(.int x6), (.int x7), (.int x8)]) (w1 := mkC ra rb 1 re rf rg σ) (pc2 := 118) (L2 := [some (.ref 59), o1, o2, o3, some (.int x4), some (.int x5), some (.int x6), some (.int x7), some (.int x8)]) (J2 := []) (rest := [(.ref 60)]) (fun a => some (.int a.1)) (fun a => mkC ra rb 1 re rf rg a.2) (fun _ _ => rfl) h (fun a ha => k_cRows_wishCell n (d + 2) _ _ _ _ _ _ _ _ _ _ _ ha) (fun q1 _ h => ?_)
      refine bfr_run 6 130 [some (.ref 59), o1, o2, o3, some (.int x4), some (.int x5), some (.int x6), some (.int x7), some (.int x8)] [] [(.ref 27), (.int x7), (.int x6), (.ref 27), (.int q1.1), (.ref 60)] (mkC ra rb 1 re rf rg q1.2) (fun _ _ => rfl) ?_
      refine bfr_call 4 (d1 := d + 2) (M1 := M_X1_wishAs) (vs := [(.ref 27), (.int x6), (.int x7), (.int ((sI q1.2 27 2) + x8))]) (w1 := mkC ra rb 1 re rf rg q1.2) (pc2 := 139) (L2 := [some (.ref 59), o1, o2, o3, some (.int x4), some (.int x5), some (.int x6), some (.int x7), some (.int x8)]) (J2 := []) (rest := [(.int q1.1), (.ref 60)]) (fun a => some (.int a.1)) (fun a => mkC ra rb 1 re rf rg a.2) (fun _ _ => rfl) h (fun a ha => k_cGoing_wishAs n (d + 0) _ _ _ _ _ _ _ _ _ _ ha) (fun q2 _ h => ?_)
      refine bfr_in (i := q1.1) (m := 686) 1 (pc1 := 140) (L1 := [some (.ref 59), o1, o2, o3, some (.int x4), some (.int x5), some (.int x6), some (.int x7), some (.int x8)]) (J1 := []) (st1 := []) (w1 := ((mkC ra rb 1 re rf rg q2.2).set 60 (.inl (0, 686, upd (q2.2.2.1 60) (q1.1).toNatClampNeg q2.1)))) (fun _ _ => rfl) h (fun h => ?_)
      rw [mkC_A60]
      refine bfr_run 1 143 [some (.ref 59), o1, o2, o3, some (.int x4), some (.int x5), some (.int x6), some (.int x7), some (.int (x8 + ci_1))] [] [] (mkC ra rb 1 re rf rg (uA q2.2 60 q1.1 q2.1)) (fun _ _ => rfl) ?_
      refine bfr_run 1 98 [some (.ref 59), o1, o2, o3, some (.int x4), some (.int x5), some (.int x6), some (.int x7), some (.int (x8 + ci_1))] [] [] (mkC ra rb 1 re rf rg (uA q2.2 60 q1.1 q2.1)) (fun _ _ => rfl) ?_
      exact ih _ _ _ _ _ _ _ _ _ _ _ _ _ _ h
set_option maxRecDepth 100000 in
theorem k_cRows_prepare_b67 (n d : Nat) (r56 : Int32 → Int32 → Int32 → bS → Option bS) (q : bS) (hr56 : ∀ (x4 : Int32) (x5 : Int32) (x6 : Int32) (o1 : Option Value) (o2 : Option Value) (o3 : Option Value) (o7 : Option Value) (o8 : Option Value) (ra : Nat) (rb : Nat) (re : Nat) (rf : Value) (rg : Value) (σ : bS), r56 x4 x5 x6 σ = some q → bfr MT (d + 3) M_X5_prepare 56 [some (.ref 59), o1, o2, o3, some (.int x4), some (.int x5), some (.int x6), o7, o8] [] [] (mkC ra rb 1 re rf rg σ) (none, mkC ra rb 1 re rf rg q)) : ∀ (k : Nat) (x4 : Int32) (x5 : Int32) (x6 : Int32) (x7 : Int32) (o1 : Option Value) (o2 : Option Value) (o3 : Option Value) (o8 : Option Value) (ra : Nat) (rb : Nat) (re : Nat) (rf : Value) (rg : Value) (σ : bS), cRows_prepare_b67 n r56 k x4 x5 x6 x7 σ = some q → bfr MT (d + 3) M_X5_prepare 67 [some (.ref 59), o1, o2, o3, some (.int x4), some (.int x5), some (.int x6), some (.int x7), o8] [] [] (mkC ra rb 1 re rf rg σ) (none, mkC ra rb 1 re rf rg q) := by
  intro k
  induction k with
  | zero => intro x4 x5 x6 x7 o1 o2 o3 o8 ra rb re rf rg σ h; exact bno h
  | succ k ih =>
    intro x4 x5 x6 x7 o1 o2 o3 o8 ra rb re rf rg σ h
    unfold cRows_prepare_b67 at h
    refine bfr_br 6 (pc1 := 152) (L1 := [some (.ref 59), o1, o2, o3, some (.int x4), some (.int x5), some (.int x6), some (.int x7), o8]) (J1 := []) (st1 := []) (w1 := mkC ra rb 1 re rf rg σ) (pc2 := 82) (L2 := [some (.ref 59), o1, o2, o3, some (.int x4), some (.int x5), some (.int x6), some (.int x7), o8]) (J2 := []) (st2 := []) (w2 := mkC ra rb 1 re rf rg σ) (fun _ _ => rfl) h (fun h => ?_) (fun h => ?_)
    · exact k_cRows_prepare_b152 n d _ q hr56 _ _ _ _ _ _ _ _ _ _ _ _ _ _ h
    · refine bfr_run 6 91 [some (.ref 59), o1, o2, o3, some (.int x4), some (.int x5), some (.int x6), some (.int x7), o8] [] [(.int (((sI σ 59 10) >>> (x6 &&& 31)) &&& ci_1))] (mkC ra rb 1 re rf rg σ) (fun _ _ => rfl) ?_
      refine bfr_br 2 (pc1 := 95) (L1 := [some (.ref 59), o1, o2, o3, some (.int x4), some (.int x5), some (.int x6), some (.int x7), o8]) (J1 := []) (st1 := []) (w1 := mkC ra rb 1 re rf rg σ) (pc2 := 152) (L2 := [some (.ref 59), o1, o2, o3, some (.int x4), some (.int x5), some (.int x6), some (.int x7), o8]) (J2 := []) (st2 := []) (w2 := mkC ra rb 1 re rf rg σ) (fun _ _ => rfl) h (fun h => ?_) (fun h => ?_)
      · refine bfr_run 2 98 [some (.ref 59), o1, o2, o3, some (.int x4), some (.int x5), some (.int x6), some (.int x7), some (.int ci_0)] [] [] (mkC ra rb 1 re rf rg σ) (fun _ _ => rfl) ?_
        exact k_cRows_prepare_b98 n d _ _ q hr56 (ih) _ _ _ _ _ _ _ _ _ _ _ _ _ _ _ h
      · exact k_cRows_prepare_b152 n d _ q hr56 _ _ _ _ _ _ _ _ _ _ _ _ _ _ h
set_option maxRecDepth 100000 in
theorem k_cRows_prepare_b56 (n d : Nat) (q : bS) : ∀ (k : Nat) (x4 : Int32) (x5 : Int32) (x6 : Int32) (o1 : Option Value) (o2 : Option Value) (o3 : Option Value) (o7 : Option Value) (o8 : Option Value) (ra : Nat) (rb : Nat) (re : Nat) (rf : Value) (rg : Value) (σ : bS), cRows_prepare_b56 n k x4 x5 x6 σ = some q → bfr MT (d + 3) M_X5_prepare 56 [some (.ref 59), o1, o2, o3, some (.int x4), some (.int x5), some (.int x6), o7, o8] [] [] (mkC ra rb 1 re rf rg σ) (none, mkC ra rb 1 re rf rg q) := by
  intro k
  induction k with
  | zero => intro x4 x5 x6 o1 o2 o3 o7 o8 ra rb re rf rg σ h; exact bno h
  | succ k ih =>
    intro x4 x5 x6 o1 o2 o3 o7 o8 ra rb re rf rg σ h
    unfold cRows_prepare_b56 at h
    refine bfr_br 3 (pc1 := 158) (L1 := [some (.ref 59), o1, o2, o3, some (.int x4), some (.int x5), some (.int x6), o7, o8]) (J1 := []) (st1 := []) (w1 := mkC ra rb 1 re rf rg σ) (pc2 := 63) (L2 := [some (.ref 59), o1, o2, o3, some (.int x4), some (.int x5), some (.int x6), o7, o8]) (J2 := []) (st2 := []) (w2 := mkC ra rb 1 re rf rg σ) (fun _ _ => rfl) h (fun h => ?_) (fun h => ?_)
    · cases h
      exact bfr_ret 1 (fun _ _ => rfl)
    · refine bfr_run 2 67 [some (.ref 59), o1, o2, o3, some (.int x4), some (.int x5), some (.int x6), some (.int x4), o8] [] [] (mkC ra rb 1 re rf rg σ) (fun _ _ => rfl) ?_
      exact k_cRows_prepare_b67 n d _ q (ih) _ _ _ _ _ _ _ _ _ _ _ _ _ _ _ h
set_option maxRecDepth 100000 in
theorem k_cRows_prepare_b38 (n d : Nat) (q : bS) (x3 : Int32) (s0 : Int32) (o1 : Option Value) (o2 : Option Value) (o4 : Option Value) (o5 : Option Value) (o6 : Option Value) (o7 : Option Value) (o8 : Option Value) (ra : Nat) (rb : Nat) (re : Nat) (rf : Value) (rg : Value) (σ : bS) (h : cRows_prepare_b38 n x3 s0 σ = some q) : bfr MT (d + 3) M_X5_prepare 38 [some (.ref 59), o1, o2, some (.int x3), o4, o5, o6, o7, o8] [] [(.int s0)] (mkC ra rb 1 re rf rg σ) (none, mkC ra rb 1 re rf rg q) := by
  unfold cRows_prepare_b38 at h
  refine bfr_run 6 48 [some (.ref 59), o1, o2, some (.int x3), some (.int s0), o5, o6, o7, o8] [] [(.int ((sI σ 59 11) * x3)), (.int cb_14)] (mkC ra rb 1 re rf rg σ) (fun _ _ => rfl) ?_
  refine bfr_call 1 (d1 := d + 2) (M1 := M_J9_min_7cf53) (vs := [(.int cb_14), (.int ((sI σ 59 11) * x3))]) (w1 := mkC ra rb 1 re rf rg σ) (pc2 := 51) (L2 := [some (.ref 59), o1, o2, some (.int x3), some (.int s0), o5, o6, o7, o8]) (J2 := []) (rest := []) (fun a => some (.int a.1)) (fun a => mkC ra rb 1 re rf rg a.2) (fun _ _ => rfl) h (fun a ha => k_cj_min n (d + 2) _ _ _ _ _ _ _ _ _ _ ha) (fun q3 _ h => ?_)
  refine bfr_run 3 56 [some (.ref 59), o1, o2, some (.int x3), some (.int s0), some (.int q3.1), some (.int ci_0), o7, o8] [] [] (mkC ra rb 1 re rf rg q3.2) (fun _ _ => rfl) ?_
  exact k_cRows_prepare_b56 n d q _ _ _ _ _ _ _ _ _ _ _ _ _ _ _ h
set_option maxRecDepth 100000 in
theorem k_cRows_prepare (n d : Nat) (q : bS) (x1 : Int32) (x2 : Int32) (x3 : Int32) (ra : Nat) (rb : Nat) (re : Nat) (rf : Value) (rg : Value) (σ : bS) (h : cRows_prepare n x1 x2 x3 σ = some q) : bfr MT (d + 3) M_X5_prepare 0 [some (.ref 59), some (.int x1), some (.int x2), some (.int x3), none, none, none, none, none] [] [] (mkC ra rb 1 re rf rg σ) (none, mkC ra rb 1 re rf rg q) := by
  unfold cRows_prepare at h
  refine bfr_run 3 5 [some (.ref 59), some (.int x1), some (.int x2), some (.int x3), none, none, none, none, none] [] [] ((mkC ra rb 1 re rf rg σ).set 59 (.inr (.inr (5, (mkC_59  ra rb 1 re rf rg σ).set 10 (.int x2))))) (fun _ _ => rfl) ?_
  rw [mkC_I59_10]
  refine bfr_call 3 (d1 := d + 2) (M1 := M_J6_bitCount_0f7a4) (vs := [(.int x2)]) (w1 := mkC ra rb 1 re rf rg (uI σ 59 10 x2)) (pc2 := 10) (L2 := [some (.ref 59), some (.int x1), some (.int x2), some (.int x3), none, none, none, none, none]) (J2 := []) (rest := [(.ref 59)]) (fun a => some (.int a.1)) (fun a => mkC ra rb 1 re rf rg a.2) (fun _ _ => rfl) h (fun a ha => k_cj_bitCount n (d + 2) _ _ _ _ _ _ _ _ _ ha) (fun q4 _ h => ?_)
  refine bfr_run 1 13 [some (.ref 59), some (.int x1), some (.int x2), some (.int x3), none, none, none, none, none] [] [] ((mkC ra rb 1 re rf rg q4.2).set 59 (.inr (.inr (5, (mkC_59  ra rb 1 re rf rg q4.2).set 11 (.int q4.1))))) (fun _ _ => rfl) ?_
  rw [mkC_I59_11]
  refine bfr_in (i := x1) (m := 4) 6 (pc1 := 23) (L1 := [some (.ref 59), some (.int x1), some (.int x2), some (.int x3), none, none, none, none, none]) (J1 := []) (st1 := [(.int (sA (uI q4.2 59 11 q4.1) 28 x1)), (.ref 59)]) (w1 := mkC ra rb 1 re rf rg (uI q4.2 59 11 q4.1)) (fun _ _ => rfl) h (fun h => ?_)
  refine bfr_run 1 26 [some (.ref 59), some (.int x1), some (.int x2), some (.int x3), none, none, none, none, none] [] [] ((mkC ra rb 1 re rf rg (uI q4.2 59 11 q4.1)).set 59 (.inr (.inr (5, (mkC_59  ra rb 1 re rf rg (uI q4.2 59 11 q4.1)).set 12 (.int (sA (uI q4.2 59 11 q4.1) 28 x1)))))) (fun _ _ => rfl) ?_
  rw [mkC_I59_12]
  refine bfr_br 3 (pc1 := 37) (L1 := [some (.ref 59), some (.int x1), some (.int x2), some (.int x3), none, none, none, none, none]) (J1 := []) (st1 := []) (w1 := mkC ra rb 1 re rf rg (uI (uI q4.2 59 11 q4.1) 59 12 (sA (uI q4.2 59 11 q4.1) 28 x1))) (pc2 := 33) (L2 := [some (.ref 59), some (.int x1), some (.int x2), some (.int x3), none, none, none, none, none]) (J2 := []) (st2 := []) (w2 := mkC ra rb 1 re rf rg (uI (uI q4.2 59 11 q4.1) 59 12 (sA (uI q4.2 59 11 q4.1) 28 x1))) (fun _ _ => rfl) h (fun h => ?_) (fun h => ?_)
  · refine bfr_run 1 38 [some (.ref 59), some (.int x1), some (.int x2), some (.int x3), none, none, none, none, none] [] [(.int ci_0)] (mkC ra rb 1 re rf rg (uI (uI q4.2 59 11 q4.1) 59 12 (sA (uI q4.2 59 11 q4.1) 28 x1))) (fun _ _ => rfl) ?_
    exact k_cRows_prepare_b38 n d q _ _ _ _ _ _ _ _ _ _ _ _ _ _ _ h
  · refine bfr_run 2 38 [some (.ref 59), some (.int x1), some (.int x2), some (.int x3), none, none, none, none, none] [] [(.int ci_m1)] (mkC ra rb 1 re rf rg (uI (uI q4.2 59 11 q4.1) 59 12 (sA (uI q4.2 59 11 q4.1) 28 x1))) (fun _ _ => rfl) ?_
    exact k_cRows_prepare_b38 n d q _ _ _ _ _ _ _ _ _ _ _ _ _ _ _ h
set_option maxRecDepth 100000 in
theorem k_cj_fill_61_b5 (n d : Nat) (q : bS) : ∀ (k : Nat) (x1 : Int32) (x2 : Int32) (x3 : Int32) (ra : Nat) (rb : Nat) (rc : Nat) (re : Nat) (rf : Value) (rg : Value) (σ : bS), cj_fill_61_b5 n k x1 x2 x3 σ = some q → bfr MT (d + 0) M_J7_fill_53178 5 [some (.ref 61), some (.int x1), some (.int x2), some (.int x3)] [] [] (mkC ra rb rc re rf rg σ) (none, mkC ra rb rc re rf rg q) := by
  intro k
  induction k with
  | zero => intro x1 x2 x3 ra rb rc re rf rg σ h; exact bno h
  | succ k ih =>
    intro x1 x2 x3 ra rb rc re rf rg σ h
    unfold cj_fill_61_b5 at h
    refine bfr_br 3 (pc1 := 20) (L1 := [some (.ref 61), some (.int x1), some (.int x2), some (.int x3)]) (J1 := []) (st1 := []) (w1 := mkC ra rb rc re rf rg σ) (pc2 := 10) (L2 := [some (.ref 61), some (.int x1), some (.int x2), some (.int x3)]) (J2 := []) (st2 := []) (w2 := mkC ra rb rc re rf rg σ) (fun _ _ => rfl) h (fun h => ?_) (fun h => ?_)
    · cases h
      exact bfr_ret 1 (fun _ _ => rfl)
    · refine bfr_in (i := x2) (m := 1792) 4 (pc1 := 14) (L1 := [some (.ref 61), some (.int x1), some (.int x2), some (.int x3)]) (J1 := []) (st1 := []) (w1 := ((mkC ra rb rc re rf rg σ).set 61 (.inl (0, 1792, upd (σ.2.1 61) (x2).toNatClampNeg x1)))) (fun _ _ => rfl) h (fun h => ?_)
      rw [mkC_A61]
      refine bfr_run 1 17 [some (.ref 61), some (.int x1), some (.int (x2 + ci_1)), some (.int x3)] [] [] (mkC ra rb rc re rf rg (uA σ 61 x2 x1)) (fun _ _ => rfl) ?_
      refine bfr_run 1 5 [some (.ref 61), some (.int x1), some (.int (x2 + ci_1)), some (.int x3)] [] [] (mkC ra rb rc re rf rg (uA σ 61 x2 x1)) (fun _ _ => rfl) ?_
      exact ih _ _ _ _ _ _ _ _ _ _ h
set_option maxRecDepth 100000 in
theorem k_cj_fill_61 (n d : Nat) (q : bS) (x1 : Int32) (ra : Nat) (rb : Nat) (rc : Nat) (re : Nat) (rf : Value) (rg : Value) (σ : bS) (h : cj_fill_61 n x1 σ = some q) : bfr MT (d + 0) M_J7_fill_53178 0 [some (.ref 61), some (.int x1), none, none] [] [] (mkC ra rb rc re rf rg σ) (none, mkC ra rb rc re rf rg q) := by
  unfold cj_fill_61 at h
  refine bfr_run 5 5 [some (.ref 61), some (.int x1), some (.int ci_0), some (.int cn_1792)] [] [] (mkC ra rb rc re rf rg σ) (fun _ _ => rfl) ?_
  exact k_cj_fill_61_b5 n d q _ _ _ _ _ _ _ _ _ _ _ h
set_option maxRecDepth 100000 in
theorem k_cRows_spotOf (n d : Nat) (q : (Int32 × bS)) (x0 : Int32) (x1 : Int32) (ra : Nat) (rb : Nat) (rc : Nat) (re : Nat) (rf : Value) (rg : Value) (σ : bS) (h : cRows_spotOf n x0 x1 σ = some q) : bfr MT (d + 0) M_X5_spotOf 0 [some (.int x0), some (.int x1)] [] [] (mkC ra rb rc re rf rg σ) (some (.int q.1), mkC ra rb rc re rf rg q.2) := by
  unfold cRows_spotOf at h
  refine bfr_run 6 6 [some (.int x0), some (.int x1)] [] [(.int x1), (.int ((x0 + ci_1) * ci_2))] (mkC ra rb rc re rf rg σ) (fun _ _ => rfl) ?_
  cases h
  exact bfr_ret 2 (fun _ _ => rfl)
set_option maxRecDepth 100000 in
theorem k_cRows_isSubset_b16 (n d : Nat) (q : (Int32 × bS)) (s0 : Int32) (o0 : Option Value) (o1 : Option Value) (ra : Nat) (rb : Nat) (rc : Nat) (re : Nat) (rf : Value) (rg : Value) (σ : bS) (h : cRows_isSubset_b16 n s0 σ = some q) : bfr MT (d + 0) M_X5_isSubset 16 [o0, o1] [] [(.int s0)] (mkC ra rb rc re rf rg σ) (some (.int q.1), mkC ra rb rc re rf rg q.2) := by
  unfold cRows_isSubset_b16 at h
  exact bfr_bz (mk := mkC ra rb rc re rf rg) 1 (fun _ _ => rfl) h
set_option maxRecDepth 100000 in
theorem k_cRows_isSubset (n d : Nat) (q : (Int32 × bS)) (x1 : Int32) (ra : Nat) (rb : Nat) (rc : Nat) (re : Nat) (rf : Value) (rg : Value) (σ : bS) (h : cRows_isSubset n x1 σ = some q) : bfr MT (d + 0) M_X5_isSubset 0 [some (.ref 59), some (.int x1)] [] [] (mkC ra rb rc re rf rg σ) (some (.int q.1), mkC ra rb rc re rf rg q.2) := by
  unfold cRows_isSubset at h
  refine bfr_run 6 8 [some (.ref 59), some (.int x1)] [] [(.int (x1 &&& ((sI σ 59 10) ^^^ ci_m1)))] (mkC ra rb rc re rf rg σ) (fun _ _ => rfl) ?_
  refine bfr_br 1 (pc1 := 11) (L1 := [some (.ref 59), some (.int x1)]) (J1 := []) (st1 := []) (w1 := mkC ra rb rc re rf rg σ) (pc2 := 15) (L2 := [some (.ref 59), some (.int x1)]) (J2 := []) (st2 := []) (w2 := mkC ra rb rc re rf rg σ) (fun _ _ => rfl) h (fun h => ?_) (fun h => ?_)
  · refine bfr_run 2 16 [some (.ref 59), some (.int x1)] [] [(.int ci_1)] (mkC ra rb rc re rf rg σ) (fun _ _ => rfl) ?_
    exact k_cRows_isSubset_b16 n d q _ _ _ _ _ _ _ _ _ _ h
  · refine bfr_run 1 16 [some (.ref 59), some (.int x1)] [] [(.int ci_0)] (mkC ra rb rc re rf rg σ) (fun _ _ => rfl) ?_
    exact k_cRows_isSubset_b16 n d q _ _ _ _ _ _ _ _ _ _ h
set_option maxRecDepth 100000 in
theorem k_cRows_isLeft_b20 (n d : Nat) (q : (Int32 × bS)) (s0 : Int32) (o0 : Option Value) (o1 : Option Value) (o2 : Option Value) (ra : Nat) (rb : Nat) (rc : Nat) (re : Nat) (rf : Value) (rg : Value) (σ : bS) (h : cRows_isLeft_b20 n s0 σ = some q) : bfr MT (d + 0) M_X5_isLeft 20 [o0, o1, o2] [] [(.int s0)] (mkC ra rb rc re rf rg σ) (some (.int q.1), mkC ra rb rc re rf rg q.2) := by
  unfold cRows_isLeft_b20 at h
  exact bfr_bz (mk := mkC ra rb rc re rf rg) 1 (fun _ _ => rfl) h
set_option maxRecDepth 100000 in
theorem k_cRows_isLeft (n d : Nat) (q : (Int32 × bS)) (x1 : Int32) (x2 : Int32) (ra : Nat) (rb : Nat) (rc : Nat) (re : Nat) (rf : Value) (rg : Value) (σ : bS) (h : cRows_isLeft n x1 x2 σ = some q) : bfr MT (d + 0) M_X5_isLeft 0 [some (.ref 59), some (.int x1), some (.int x2)] [] [] (mkC ra rb rc re rf rg σ) (some (.int q.1), mkC ra rb rc re rf rg q.2) := by
  unfold cRows_isLeft at h
  refine bfr_run 6 8 [some (.ref 59), some (.int x1), some (.int x2)] [] [(.int ((sI σ 59 10) &&& (x2 ^^^ ci_m1)))] (mkC ra rb rc re rf rg σ) (fun _ _ => rfl) ?_
  refine bfr_br 5 (pc1 := 19) (L1 := [some (.ref 59), some (.int x1), some (.int x2)]) (J1 := []) (st1 := []) (w1 := mkC ra rb rc re rf rg σ) (pc2 := 15) (L2 := [some (.ref 59), some (.int x1), some (.int x2)]) (J2 := []) (st2 := []) (w2 := mkC ra rb rc re rf rg σ) (fun _ _ => rfl) h (fun h => ?_) (fun h => ?_)
  · refine bfr_run 1 20 [some (.ref 59), some (.int x1), some (.int x2)] [] [(.int ci_0)] (mkC ra rb rc re rf rg σ) (fun _ _ => rfl) ?_
    exact k_cRows_isLeft_b20 n d q _ _ _ _ _ _ _ _ _ _ _ h
  · refine bfr_run 2 20 [some (.ref 59), some (.int x1), some (.int x2)] [] [(.int ci_1)] (mkC ra rb rc re rf rg σ) (fun _ _ => rfl) ?_
    exact k_cRows_isLeft_b20 n d q _ _ _ _ _ _ _ _ _ _ _ h
