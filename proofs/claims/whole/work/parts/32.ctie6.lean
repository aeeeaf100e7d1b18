set_option maxRecDepth 100000 in
theorem k_cGame_play_b112 (n d : Nat) (r50 : Int32 → Int32 → bS → Option bS) (q : bS) (hr50 : ∀ (x1 : Int32) (x4 : Int32) (o2 : Option Value) (o3 : Option Value) (ra : Nat) (rb : Nat) (re : Nat) (rf : Value) (rg : Value) (σ : bS), r50 x1 x4 σ = some q → bfr MT (d + 3) M_X0_play 50 [some (.ref 68), some (.int x1), o2, o3, some (.int x4)] [] [] (mkC ra rb 1 re rf rg σ) (none, mkC ra rb 1 re rf rg q)) (x1 : Int32) (x4 : Int32) (o2 : Option Value) (o3 : Option Value) (ra : Nat) (rb : Nat) (re : Nat) (rf : Value) (rg : Value) (σ : bS) (h : cGame_play_b112 n r50 x1 x4 σ = some q) : bfr MT (d + 3) M_X0_play 112 [some (.ref 68), some (.int x1), o2, o3, some (.int x4)] [] [] (mkC ra rb 1 re rf rg σ) (none, mkC ra rb 1 re rf rg q) := by
  unfold cGame_play_b112 at h
  refine bfr_run 1 115 [some (.ref 68), some (.int x1), o2, o3, some (.int (x4 + ci_1))] [] [] (mkC ra rb 1 re rf rg σ) (fun _ _ => rfl) ?_
  refine bfr_run 1 50 [some (.ref 68), some (.int x1), o2, o3, some (.int (x4 + ci_1))] [] [] (mkC ra rb 1 re rf rg σ) (fun _ _ => rfl) ?_
  exact hr50 _ _ _ _ _ _ _ _ _ _ h
set_option maxRecDepth 100000 in
theorem k_cGame_play_b101 (n d : Nat) (r50 : Int32 → Int32 → bS → Option bS) (q : bS) (hr50 : ∀ (x1 : Int32) (x4 : Int32) (o2 : Option Value) (o3 : Option Value) (ra : Nat) (rb : Nat) (re : Nat) (rf : Value) (rg : Value) (σ : bS), r50 x1 x4 σ = some q → bfr MT (d + 3) M_X0_play 50 [some (.ref 68), some (.int x1), o2, o3, some (.int x4)] [] [] (mkC ra rb 1 re rf rg σ) (none, mkC ra rb 1 re rf rg q)) (x1 : Int32) (x4 : Int32) (s1 : Int32) (s3 : Int32) (s4 : Int32) (o2 : Option Value) (o3 : Option Value) (ra : Nat) (rb : Nat) (re : Nat) (rf : Value) (rg : Value) (σ : bS) (h : cGame_play_b101 n r50 x1 x4 s1 s3 s4 σ = some q) : bfr MT (d + 3) M_X0_play 101 [some (.ref 68), some (.int x1), o2, o3, some (.int x4)] [] [(.int s4), (.int s3), (.ref 27), (.int s1), (.ref 69)] (mkC ra rb 1 re rf rg σ) (none, mkC ra rb 1 re rf rg q) := by
  unfold cGame_play_b101 at h
  refine bfr_in (i := x4) (m := 7) 4 (pc1 := 108) (L1 := [some (.ref 68), some (.int x1), o2, o3, some (.int x4)]) (J1 := []) (st1 := [(.int (sA σ 70 x4)), (.int s4), (.int s3), (.ref 27), (.int s1), (.ref 69)]) (w1 := mkC ra rb 1 re rf rg σ) (fun _ _ => rfl) h (fun h => ?_)
  refine bfr_call 1 (d1 := d + 2) (M1 := M_X1_gainAs) (vs := [(.ref 27), (.int s3), (.int s4), (.int (sA σ 70 x4))]) (w1 := mkC ra rb 1 re rf rg σ) (pc2 := 111) (L2 := [some (.ref 68), some (.int x1), o2, o3, some (.int x4)]) (J2 := []) (rest := [(.int s1), (.ref 69)]) (fun a => some (.int a.1)) (fun a => mkC ra rb 1 re rf rg a.2) (fun _ _ => rfl) h (fun a ha => k_cGoing_gainAs n (d + 0) _ _ _ _ _ _ _ _ _ _ ha) (fun q1 _ h => ?_)
  refine bfr_in (i := s1) (m := 896) 1 (pc1 := 112) (L1 := [some (.ref 68), some (.int x1), o2, o3, some (.int x4)]) (J1 := []) (st1 := []) (w1 := ((mkC ra rb 1 re rf rg q1.2).set 69 (.inl (0, 896, upd (q1.2.2.1 69) (s1).toNatClampNeg q1.1)))) (fun _ _ => rfl) h (fun h => ?_)
  rw [mkC_A69]
  exact k_cGame_play_b112 n d _ q hr50 _ _ _ _ _ _ _ _ _ _ h
set_option maxRecDepth 100000 in
theorem k_cGame_play_b50 (n d : Nat) (q : bS) : ∀ (k : Nat) (x1 : Int32) (x4 : Int32) (o2 : Option Value) (o3 : Option Value) (ra : Nat) (rb : Nat) (re : Nat) (rf : Value) (rg : Value) (σ : bS), cGame_play_b50 n k x1 x4 σ = some q → bfr MT (d + 3) M_X0_play 50 [some (.ref 68), some (.int x1), o2, o3, some (.int x4)] [] [] (mkC ra rb 1 re rf rg σ) (none, mkC ra rb 1 re rf rg q) := by
  intro k
  induction k with
  | zero => intro x1 x4 o2 o3 ra rb re rf rg σ h; exact bno h
  | succ k ih =>
    intro x1 x4 o2 o3 ra rb re rf rg σ h
    unfold cGame_play_b50 at h
    refine bfr_br 3 (pc1 := 118) (L1 := [some (.ref 68), some (.int x1), o2, o3, some (.int x4)]) (J1 := []) (st1 := []) (w1 := mkC ra rb 1 re rf rg σ) (pc2 := 57) (L2 := [some (.ref 68), some (.int x1), o2, o3, some (.int x4)]) (J2 := []) (st2 := []) (w2 := mkC ra rb 1 re rf rg σ) (fun _ _ => rfl) h (fun h => ?_) (fun h => ?_)
    · cases h
      exact bfr_ret 1 (fun _ _ => rfl)
    · refine bfr_call 3 (d1 := d + 2) (M1 := M_X0_takesPart) (vs := [(.ref 68), (.int x4)]) (w1 := mkC ra rb 1 re rf rg σ) (pc2 := 63) (L2 := [some (.ref 68), some (.int x1), o2, o3, some (.int x4)]) (J2 := []) (rest := []) (fun a => some (.int a.1)) (fun a => mkC ra rb 1 re rf rg a.2) (fun _ _ => rfl) h (fun a ha => k_cGame_takesPart n (d + 2) _ _ _ _ _ _ _ _ _ ha) (fun q2 _ h => ?_)
      refine bfr_br 1 (pc1 := 112) (L1 := [some (.ref 68), some (.int x1), o2, o3, some (.int x4)]) (J1 := []) (st1 := []) (w1 := mkC ra rb 1 re rf rg q2.2) (pc2 := 66) (L2 := [some (.ref 68), some (.int x1), o2, o3, some (.int x4)]) (J2 := []) (st2 := []) (w2 := mkC ra rb 1 re rf rg q2.2) (fun _ _ => rfl) h (fun h => ?_) (fun h => ?_)
      · exact k_cGame_play_b112 n d _ q (ih) _ _ _ _ _ _ _ _ _ _ h
      · refine bfr_run 6 76 [some (.ref 68), some (.int x1), o2, o3, some (.int x4)] [] [(.int x4), (.int (x1 * cb_7)), (.ref 69)] (mkC ra rb 1 re rf rg q2.2) (fun _ _ => rfl) ?_
        refine bfr_run 6 87 [some (.ref 68), some (.int x1), o2, o3, some (.int x4)] [] [(.int (sI q2.2 68 5)), (.int x4), (.ref 27), (.int ((x1 * cb_7) + x4)), (.ref 69)] (mkC ra rb 1 re rf rg q2.2) (fun _ _ => rfl) ?_
        refine bfr_br 6 (pc1 := 96) (L1 := [some (.ref 68), some (.int x1), o2, o3, some (.int x4)]) (J1 := []) (st1 := [(.int x4), (.ref 27), (.int ((x1 * cb_7) + x4)), (.ref 69)]) (w1 := mkC ra rb 1 re rf rg q2.2) (pc2 := 100) (L2 := [some (.ref 68), some (.int x1), o2, o3, some (.int x4)]) (J2 := []) (st2 := [(.int x4), (.ref 27), (.int ((x1 * cb_7) + x4)), (.ref 69)]) (w2 := mkC ra rb 1 re rf rg q2.2) (fun _ _ => rfl) h (fun h => ?_) (fun h => ?_)
        · refine bfr_run 2 101 [some (.ref 68), some (.int x1), o2, o3, some (.int x4)] [] [(.int ci_1), (.int x4), (.ref 27), (.int ((x1 * cb_7) + x4)), (.ref 69)] (mkC ra rb 1 re rf rg q2.2) (fun _ _ => rfl) ?_
          exact k_cGame_play_b101 n d _ q (ih) _ _ _ _ _ _ _ _ _ _ _ _ _ h
        · refine bfr_run 1 101 [some (.ref 68), some (.int x1), o2, o3, some (.int x4)] [] [(.int ci_0), (.int x4), (.ref 27), (.int ((x1 * cb_7) + x4)), (.ref 69)] (mkC ra rb 1 re rf rg q2.2) (fun _ _ => rfl) ?_
          exact k_cGame_play_b101 n d _ q (ih) _ _ _ _ _ _ _ _ _ _ _ _ _ h
set_option maxRecDepth 100000 in
theorem k_cGame_play (n d : Nat) (q : bS) (x1 : Int32) (ra : Nat) (rb : Nat) (re : Nat) (rf : Value) (rg : Value) (σ : bS) (h : cGame_play n x1 σ = some q) : bfr MT (d + 3) M_X0_play 0 [some (.ref 68), some (.int x1), none, none, none] [] [] (mkC ra rb 1 re rf rg σ) (none, mkC ra rb 1 re rf rg q) := by
  unfold cGame_play at h
  refine bfr_run 3 5 [some (.ref 68), some (.int x1), none, none, none] [] [] ((mkC ra rb 1 re rf rg σ).set 68 (.inr (.inr (0, (mkC_68  ra rb 1 re rf rg σ).set 4 (.int ci_0))))) (fun _ _ => rfl) ?_
  rw [mkC_I68_4]
  refine bfr_run 3 10 [some (.ref 68), some (.int x1), none, none, none] [] [] ((mkC ra rb 1 re rf rg (uI σ 68 4 ci_0)).set 68 (.inr (.inr (0, (mkC_68  ra rb 1 re rf rg (uI σ 68 4 ci_0)).set 5 (.int ci_0))))) (fun _ _ => rfl) ?_
  rw [mkC_I68_5]
  refine bfr_run 6 20 [some (.ref 68), some (.int x1), none, none, none] [] [(.int (x1 ^^^ ci_m1)), (.int (sI (uI (uI σ 68 4 ci_0) 68 5 ci_0) 59 10))] (mkC ra rb 1 re rf rg (uI (uI σ 68 4 ci_0) 68 5 ci_0)) (fun _ _ => rfl) ?_
  refine bfr_run 6 28 [some (.ref 68), some (.int x1), some (.int ((sI (uI (uI σ 68 4 ci_0) 68 5 ci_0) 59 10) &&& (x1 ^^^ ci_m1))), none, none] [] [(.ref 59), (.int ((sI (uI (uI σ 68 4 ci_0) 68 5 ci_0) 59 10) &&& (x1 ^^^ ci_m1))), (.ref 68)] (mkC ra rb 1 re rf rg (uI (uI σ 68 4 ci_0) 68 5 ci_0)) (fun _ _ => rfl) ?_
  refine bfr_call 3 (d1 := d + 2) (M1 := M_X0_crossAll) (vs := [(.ref 68), (.int ((sI (uI (uI σ 68 4 ci_0) 68 5 ci_0) 59 10) &&& (x1 ^^^ ci_m1))), (.int (sI (uI (uI σ 68 4 ci_0) 68 5 ci_0) 59 12)), (.int ci_0)]) (w1 := mkC ra rb 1 re rf rg (uI (uI σ 68 4 ci_0) 68 5 ci_0)) (pc2 := 35) (L2 := [some (.ref 68), some (.int x1), some (.int ((sI (uI (uI σ 68 4 ci_0) 68 5 ci_0) 59 10) &&& (x1 ^^^ ci_m1))), none, none]) (J2 := []) (rest := []) (fun a => some (.int a.1)) (fun a => mkC ra rb 1 re rf rg a.2) (fun _ _ => rfl) h (fun a ha => k_cGame_crossAll n (d + 0) _ _ _ _ _ _ _ _ _ _ ha) (fun q3 _ h => ?_)
  refine bfr_call 6 (d1 := d + 2) (M1 := M_J6_bitCount_0f7a4) (vs := [(.int ((sI (uI (uI σ 68 4 ci_0) 68 5 ci_0) 59 10) &&& (x1 ^^^ ci_m1)))]) (w1 := mkC ra rb 1 re rf rg q3.2) (pc2 := 43) (L2 := [some (.ref 68), some (.int x1), some (.int ((sI (uI (uI σ 68 4 ci_0) 68 5 ci_0) 59 10) &&& (x1 ^^^ ci_m1))), some (.int q3.1), none]) (J2 := []) (rest := [(.int q3.1), (.int x1), (.ref 68)]) (fun a => some (.int a.1)) (fun a => mkC ra rb 1 re rf rg a.2) (fun _ _ => rfl) h (fun a ha => k_cj_bitCount n (d + 2) _ _ _ _ _ _ _ _ _ ha) (fun q4 _ h => ?_)
  refine bfr_call 1 (d1 := d + 2) (M1 := M_X0_crossAll) (vs := [(.ref 68), (.int x1), (.int q3.1), (.int q4.1)]) (w1 := mkC ra rb 1 re rf rg q4.2) (pc2 := 46) (L2 := [some (.ref 68), some (.int x1), some (.int ((sI (uI (uI σ 68 4 ci_0) 68 5 ci_0) 59 10) &&& (x1 ^^^ ci_m1))), some (.int q3.1), none]) (J2 := []) (rest := []) (fun a => some (.int a.1)) (fun a => mkC ra rb 1 re rf rg a.2) (fun _ _ => rfl) h (fun a ha => k_cGame_crossAll n (d + 0) _ _ _ _ _ _ _ _ _ _ ha) (fun q5 _ h => ?_)
  refine bfr_run 3 50 [some (.ref 68), some (.int x1), some (.int ((sI (uI (uI σ 68 4 ci_0) 68 5 ci_0) 59 10) &&& (x1 ^^^ ci_m1))), some (.int q3.1), some (.int ci_0)] [] [] (mkC ra rb 1 re rf rg q5.2) (fun _ _ => rfl) ?_
  exact k_cGame_play_b50 n d q _ _ _ _ _ _ _ _ _ _ _ h
set_option maxRecDepth 100000 in
theorem k_cGame_gainOf (n d : Nat) (q : (Int32 × bS)) (x1 : Int32) (x2 : Int32) (ra : Nat) (rb : Nat) (rc : Nat) (re : Nat) (rf : Value) (rg : Value) (σ : bS) (h : cGame_gainOf n x1 x2 σ = some q) : bfr MT (d + 0) M_X0_gainOf 0 [some (.ref 68), some (.int x1), some (.int x2)] [] [] (mkC ra rb rc re rf rg σ) (some (.int q.1), mkC ra rb rc re rf rg q.2) := by
  unfold cGame_gainOf at h
  refine bfr_run 6 9 [some (.ref 68), some (.int x1), some (.int x2)] [] [(.int x2), (.int (x1 * cb_7)), (.ref 69)] (mkC ra rb rc re rf rg σ) (fun _ _ => rfl) ?_
  refine bfr_in (i := ((x1 * cb_7) + x2)) (m := 896) 2 (pc1 := 11) (L1 := [some (.ref 68), some (.int x1), some (.int x2)]) (J1 := []) (st1 := [(.int (sA σ 69 ((x1 * cb_7) + x2)))]) (w1 := mkC ra rb rc re rf rg σ) (fun _ _ => rfl) h (fun h => ?_)
  cases h
  exact bfr_ret 1 (fun _ _ => rfl)
set_option maxRecDepth 100000 in
theorem k_cTop_gain_b35 (n d : Nat) (q : (Int32 × bS)) (o0 : Option Value) (o1 : Option Value) (o2 : Option Value) (o3 : Option Value) (o4 : Option Value) (rb : Nat) (re : Nat) (rf : Value) (rg : Value) (σ : bS) (h : cTop_gain_b35 n σ = some q) : bfr MT (d + 4) M_X11_gain 35 [o0, o1, o2, o3, o4] [] [] (mkC 1 rb 1 re rf rg σ) (some (.int q.1), mkC 1 rb 1 re rf rg q.2) := by
  unfold cTop_gain_b35 at h
  cases h
  exact bfr_ret 2 (fun _ _ => rfl)
set_option maxRecDepth 100000 in
theorem k_cTop_gain (n d : Nat) (q : (Int32 × bS)) (x1 : Int32) (x2 : Int32) (x3 : Int32) (x4 : Int32) (rb : Nat) (re : Nat) (rf : Value) (rg : Value) (σ : bS) (h : cTop_gain n x1 x2 x3 x4 σ = some q) : bfr MT (d + 4) M_X11_gain 0 [some (.ref 0), some (.int x1), some (.int x2), some (.int x3), some (.int x4)] [] [] (mkC 1 rb 1 re rf rg σ) (some (.int q.1), mkC 1 rb 1 re rf rg q.2) := by
  unfold cTop_gain at h
  refine bfr_call 4 (d1 := d + 3) (M1 := M_X11_isGame) (vs := [(.ref 0), (.int x1), (.int x2)]) (w1 := mkC 1 rb 1 re rf rg σ) (pc2 := 6) (L2 := [some (.ref 0), some (.int x1), some (.int x2), some (.int x3), some (.int x4)]) (J2 := []) (rest := []) (fun a => some (.int a.1)) (fun a => mkC 1 rb 1 re rf rg a.2) (fun _ _ => rfl) h (fun a ha => k_cTop_isGame n (d + 1) _ _ _ _ _ _ _ _ ha) (fun q1 _ h => ?_)
  refine bfr_br 1 (pc1 := 35) (L1 := [some (.ref 0), some (.int x1), some (.int x2), some (.int x3), some (.int x4)]) (J1 := []) (st1 := []) (w1 := mkC 1 rb 1 re rf rg q1.2) (pc2 := 9) (L2 := [some (.ref 0), some (.int x1), some (.int x2), some (.int x3), some (.int x4)]) (J2 := []) (st2 := []) (w2 := mkC 1 rb 1 re rf rg q1.2) (fun _ _ => rfl) h (fun h => ?_) (fun h => ?_)
  · exact k_cTop_gain_b35 n d q _ _ _ _ _ _ _ _ _ _ h
  · refine bfr_br 6 (pc1 := 17) (L1 := [some (.ref 0), some (.int x1), some (.int x2), some (.int x3), some (.int x4)]) (J1 := []) (st1 := []) (w1 := mkC 1 rb 1 re rf rg q1.2) (pc2 := 35) (L2 := [some (.ref 0), some (.int x1), some (.int x2), some (.int x3), some (.int x4)]) (J2 := []) (st2 := []) (w2 := mkC 1 rb 1 re rf rg q1.2) (fun _ _ => rfl) h (fun h => ?_) (fun h => ?_)
    · refine bfr_call 3 (d1 := d + 3) (M1 := M_X11_isMan) (vs := [(.ref 0), (.int x4)]) (w1 := mkC 1 rb 1 re rf rg q1.2) (pc2 := 23) (L2 := [some (.ref 0), some (.int x1), some (.int x2), some (.int x3), some (.int x4)]) (J2 := []) (rest := []) (fun a => some (.int a.1)) (fun a => mkC 1 rb 1 re rf rg a.2) (fun _ _ => rfl) h (fun a ha => k_cTop_isMan n (d + 3) _ _ _ _ _ _ _ _ ha) (fun q2 _ h => ?_)
      refine bfr_br 1 (pc1 := 35) (L1 := [some (.ref 0), some (.int x1), some (.int x2), some (.int x3), some (.int x4)]) (J1 := []) (st1 := []) (w1 := mkC 1 rb 1 re rf rg q2.2) (pc2 := 26) (L2 := [some (.ref 0), some (.int x1), some (.int x2), some (.int x3), some (.int x4)]) (J2 := []) (st2 := []) (w2 := mkC 1 rb 1 re rf rg q2.2) (fun _ _ => rfl) h (fun h => ?_) (fun h => ?_)
      · exact k_cTop_gain_b35 n d q _ _ _ _ _ _ _ _ _ _ h
      · refine bfr_br 6 (pc1 := 35) (L1 := [some (.ref 0), some (.int x1), some (.int x2), some (.int x3), some (.int x4)]) (J1 := []) (st1 := []) (w1 := mkC 1 rb 1 re rf rg q2.2) (pc2 := 39) (L2 := [some (.ref 0), some (.int x1), some (.int x2), some (.int x3), some (.int x4)]) (J2 := []) (st2 := []) (w2 := mkC 1 rb 1 re rf rg q2.2) (fun _ _ => rfl) h (fun h => ?_) (fun h => ?_)
        · exact k_cTop_gain_b35 n d q _ _ _ _ _ _ _ _ _ _ h
        · refine bfr_call 6 (d1 := d + 3) (M1 := M_X5_prepare) (vs := [(.ref 59), (.int x1), (.int x2), (.int ci_1)]) (w1 := mkC 1 rb 1 re rf rg q2.2) (pc2 := 49) (L2 := [some (.ref 0), some (.int x1), some (.int x2), some (.int x3), some (.int x4)]) (J2 := []) (rest := []) (fun _ => none) (fun a => mkC 1 rb 1 re rf rg a) (fun _ _ => rfl) h (fun a ha => k_cRows_prepare n (d + 0) _ _ _ _ _ _ _ _ _ _ ha) (fun q3 _ h => ?_)
          refine bfr_call 4 (d1 := d + 3) (M1 := M_X0_play) (vs := [(.ref 68), (.int x3)]) (w1 := mkC 1 rb 1 re rf rg q3) (pc2 := 57) (L2 := [some (.ref 0), some (.int x1), some (.int x2), some (.int x3), some (.int x4)]) (J2 := []) (rest := []) (fun _ => none) (fun a => mkC 1 rb 1 re rf rg a) (fun _ _ => rfl) h (fun a ha => k_cGame_play n (d + 0) _ _ _ _ _ _ _ _ ha) (fun q4 _ h => ?_)
          refine bfr_call 5 (d1 := d + 3) (M1 := M_X0_gainOf) (vs := [(.ref 68), (.int x3), (.int x4)]) (w1 := mkC 1 rb 1 re rf rg q4) (pc2 := 67) (L2 := [some (.ref 0), some (.int x1), some (.int x2), some (.int x3), some (.int x4)]) (J2 := []) (rest := []) (fun a => some (.int a.1)) (fun a => mkC 1 rb 1 re rf rg a.2) (fun _ _ => rfl) h (fun a ha => k_cGame_gainOf n (d + 3) _ _ _ _ _ _ _ _ _ _ ha) (fun q5 _ h => ?_)
          cases h
          exact bfr_ret 1 (fun _ _ => rfl)
    · exact k_cTop_gain_b35 n d q _ _ _ _ _ _ _ _ _ _ h
set_option maxRecDepth 100000 in
theorem k_cGame_worthOf_b27 (n d : Nat) (r4 : Int32 → Int32 → Int32 → bS → Option (Int32 × bS)) (q : (Int32 × bS)) (hr4 : ∀ (x1 : Int32) (x2 : Int32) (x3 : Int32) (ra : Nat) (rb : Nat) (rc : Nat) (re : Nat) (rf : Value) (rg : Value) (σ : bS), r4 x1 x2 x3 σ = some q → bfr MT (d + 1) M_X0_worthOf 4 [some (.ref 68), some (.int x1), some (.int x2), some (.int x3)] [] [] (mkC ra rb rc re rf rg σ) (some (.int q.1), mkC ra rb rc re rf rg q.2)) (x1 : Int32) (x2 : Int32) (x3 : Int32) (ra : Nat) (rb : Nat) (rc : Nat) (re : Nat) (rf : Value) (rg : Value) (σ : bS) (h : cGame_worthOf_b27 n r4 x1 x2 x3 σ = some q) : bfr MT (d + 1) M_X0_worthOf 27 [some (.ref 68), some (.int x1), some (.int x2), some (.int x3)] [] [] (mkC ra rb rc re rf rg σ) (some (.int q.1), mkC ra rb rc re rf rg q.2) := by
  unfold cGame_worthOf_b27 at h
  refine bfr_run 1 30 [some (.ref 68), some (.int x1), some (.int x2), some (.int (x3 + ci_1))] [] [] (mkC ra rb rc re rf rg σ) (fun _ _ => rfl) ?_
  refine bfr_run 1 4 [some (.ref 68), some (.int x1), some (.int x2), some (.int (x3 + ci_1))] [] [] (mkC ra rb rc re rf rg σ) (fun _ _ => rfl) ?_
  exact hr4 _ _ _ _ _ _ _ _ _ _ h
set_option maxRecDepth 100000 in
theorem k_cGame_worthOf_b4 (n d : Nat) (q : (Int32 × bS)) : ∀ (k : Nat) (x1 : Int32) (x2 : Int32) (x3 : Int32) (ra : Nat) (rb : Nat) (rc : Nat) (re : Nat) (rf : Value) (rg : Value) (σ : bS), cGame_worthOf_b4 n k x1 x2 x3 σ = some q → bfr MT (d + 1) M_X0_worthOf 4 [some (.ref 68), some (.int x1), some (.int x2), some (.int x3)] [] [] (mkC ra rb rc re rf rg σ) (some (.int q.1), mkC ra rb rc re rf rg q.2) := by
  intro k
  induction k with
  | zero => intro x1 x2 x3 ra rb rc re rf rg σ h; exact bno h
  | succ k ih =>
    intro x1 x2 x3 ra rb rc re rf rg σ h
    unfold cGame_worthOf_b4 at h
    refine bfr_br 3 (pc1 := 33) (L1 := [some (.ref 68), some (.int x1), some (.int x2), some (.int x3)]) (J1 := []) (st1 := []) (w1 := mkC ra rb rc re rf rg σ) (pc2 := 10) (L2 := [some (.ref 68), some (.int x1), some (.int x2), some (.int x3)]) (J2 := []) (st2 := []) (w2 := mkC ra rb rc re rf rg σ) (fun _ _ => rfl) h (fun h => ?_) (fun h => ?_)
    · cases h
      exact bfr_ret 2 (fun _ _ => rfl)
    · refine bfr_call 3 (d1 := d + 0) (M1 := M_X0_takesPart) (vs := [(.ref 68), (.int x3)]) (w1 := mkC ra rb rc re rf rg σ) (pc2 := 15) (L2 := [some (.ref 68), some (.int x1), some (.int x2), some (.int x3)]) (J2 := []) (rest := []) (fun a => some (.int a.1)) (fun a => mkC ra rb rc re rf rg a.2) (fun _ _ => rfl) h (fun a ha => k_cGame_takesPart n (d + 0) _ _ _ _ _ _ _ _ _ ha) (fun q1 _ h => ?_)
      refine bfr_br 1 (pc1 := 27) (L1 := [some (.ref 68), some (.int x1), some (.int x2), some (.int x3)]) (J1 := []) (st1 := []) (w1 := mkC ra rb rc re rf rg q1.2) (pc2 := 18) (L2 := [some (.ref 68), some (.int x1), some (.int x2), some (.int x3)]) (J2 := []) (st2 := []) (w2 := mkC ra rb rc re rf rg q1.2) (fun _ _ => rfl) h (fun h => ?_) (fun h => ?_)
      · exact k_cGame_worthOf_b27 n d _ q (ih) _ _ _ _ _ _ _ _ _ _ h
      · refine bfr_call 5 (d1 := d + 0) (M1 := M_X0_gainOf) (vs := [(.ref 68), (.int x1), (.int x3)]) (w1 := mkC ra rb rc re rf rg q1.2) (pc2 := 25) (L2 := [some (.ref 68), some (.int x1), some (.int x2), some (.int x3)]) (J2 := []) (rest := [(.int x2)]) (fun a => some (.int a.1)) (fun a => mkC ra rb rc re rf rg a.2) (fun _ _ => rfl) h (fun a ha => k_cGame_gainOf n (d + 0) _ _ _ _ _ _ _ _ _ _ ha) (fun q2 _ h => ?_)
        refine bfr_run 2 27 [some (.ref 68), some (.int x1), some (.int (x2 + q2.1)), some (.int x3)] [] [] (mkC ra rb rc re rf rg q2.2) (fun _ _ => rfl) ?_
        exact k_cGame_worthOf_b27 n d _ q (ih) _ _ _ _ _ _ _ _ _ _ h
set_option maxRecDepth 100000 in
theorem k_cGame_worthOf (n d : Nat) (q : (Int32 × bS)) (x1 : Int32) (ra : Nat) (rb : Nat) (rc : Nat) (re : Nat) (rf : Value) (rg : Value) (σ : bS) (h : cGame_worthOf n x1 σ = some q) : bfr MT (d + 1) M_X0_worthOf 0 [some (.ref 68), some (.int x1), none, none] [] [] (mkC ra rb rc re rf rg σ) (some (.int q.1), mkC ra rb rc re rf rg q.2) := by
  unfold cGame_worthOf at h
  refine bfr_run 4 4 [some (.ref 68), some (.int x1), some (.int ci_0), some (.int ci_0)] [] [] (mkC ra rb rc re rf rg σ) (fun _ _ => rfl) ?_
  exact k_cGame_worthOf_b4 n d q _ _ _ _ _ _ _ _ _ _ _ h
set_option maxRecDepth 100000 in
theorem k_cTop_worth_b17 (n d : Nat) (q : (Int32 × bS)) (o0 : Option Value) (o1 : Option Value) (o2 : Option Value) (o3 : Option Value) (rb : Nat) (re : Nat) (rf : Value) (rg : Value) (σ : bS) (h : cTop_worth_b17 n σ = some q) : bfr MT (d + 4) M_X11_worth 17 [o0, o1, o2, o3] [] [] (mkC 1 rb 1 re rf rg σ) (some (.int q.1), mkC 1 rb 1 re rf rg q.2) := by
  unfold cTop_worth_b17 at h
  cases h
  exact bfr_ret 2 (fun _ _ => rfl)
set_option maxRecDepth 100000 in
theorem k_cTop_worth (n d : Nat) (q : (Int32 × bS)) (x1 : Int32) (x2 : Int32) (x3 : Int32) (rb : Nat) (re : Nat) (rf : Value) (rg : Value) (σ : bS) (h : cTop_worth n x1 x2 x3 σ = some q) : bfr MT (d + 4) M_X11_worth 0 [some (.ref 0), some (.int x1), some (.int x2), some (.int x3)] [] [] (mkC 1 rb 1 re rf rg σ) (some (.int q.1), mkC 1 rb 1 re rf rg q.2) := by
  unfold cTop_worth at h
  refine bfr_call 4 (d1 := d + 3) (M1 := M_X11_isGame) (vs := [(.ref 0), (.int x1), (.int x2)]) (w1 := mkC 1 rb 1 re rf rg σ) (pc2 := 6) (L2 := [some (.ref 0), some (.int x1), some (.int x2), some (.int x3)]) (J2 := []) (rest := []) (fun a => some (.int a.1)) (fun a => mkC 1 rb 1 re rf rg a.2) (fun _ _ => rfl) h (fun a ha => k_cTop_isGame n (d + 1) _ _ _ _ _ _ _ _ ha) (fun q1 _ h => ?_)
  refine bfr_br 1 (pc1 := 17) (L1 := [some (.ref 0), some (.int x1), some (.int x2), some (.int x3)]) (J1 := []) (st1 := []) (w1 := mkC 1 rb 1 re rf rg q1.2) (pc2 := 9) (L2 := [some (.ref 0), some (.int x1), some (.int x2), some (.int x3)]) (J2 := []) (st2 := []) (w2 := mkC 1 rb 1 re rf rg q1.2) (fun _ _ => rfl) h (fun h => ?_) (fun h => ?_)
  · exact k_cTop_worth_b17 n d q _ _ _ _ _ _ _ _ _ h
  · refine bfr_br 6 (pc1 := 21) (L1 := [some (.ref 0), some (.int x1), some (.int x2), some (.int x3)]) (J1 := []) (st1 := []) (w1 := mkC 1 rb 1 re rf rg q1.2) (pc2 := 17) (L2 := [some (.ref 0), some (.int x1), some (.int x2), some (.int x3)]) (J2 := []) (st2 := []) (w2 := mkC 1 rb 1 re rf rg q1.2) (fun _ _ => rfl) h (fun h => ?_) (fun h => ?_)
    · refine bfr_call 6 (d1 := d + 3) (M1 := M_X5_prepare) (vs := [(.ref 59), (.int x1), (.int x2), (.int ci_1)]) (w1 := mkC 1 rb 1 re rf rg q1.2) (pc2 := 31) (L2 := [some (.ref 0), some (.int x1), some (.int x2), some (.int x3)]) (J2 := []) (rest := []) (fun _ => none) (fun a => mkC 1 rb 1 re rf rg a) (fun _ _ => rfl) h (fun a ha => k_cRows_prepare n (d + 0) _ _ _ _ _ _ _ _ _ _ ha) (fun q2 _ h => ?_)
      refine bfr_call 4 (d1 := d + 3) (M1 := M_X0_play) (vs := [(.ref 68), (.int x3)]) (w1 := mkC 1 rb 1 re rf rg q2) (pc2 := 39) (L2 := [some (.ref 0), some (.int x1), some (.int x2), some (.int x3)]) (J2 := []) (rest := []) (fun _ => none) (fun a => mkC 1 rb 1 re rf rg a) (fun _ _ => rfl) h (fun a ha => k_cGame_play n (d + 0) _ _ _ _ _ _ _ _ ha) (fun q3 _ h => ?_)
      refine bfr_call 4 (d1 := d + 3) (M1 := M_X0_worthOf) (vs := [(.ref 68), (.int x3)]) (w1 := mkC 1 rb 1 re rf rg q3) (pc2 := 47) (L2 := [some (.ref 0), some (.int x1), some (.int x2), some (.int x3)]) (J2 := []) (rest := []) (fun a => some (.int a.1)) (fun a => mkC 1 rb 1 re rf rg a.2) (fun _ _ => rfl) h (fun a ha => k_cGame_worthOf n (d + 2) _ _ _ _ _ _ _ _ _ ha) (fun q4 _ h => ?_)
      cases h
      exact bfr_ret 1 (fun _ _ => rfl)
    · exact k_cTop_worth_b17 n d q _ _ _ _ _ _ _ _ _ h
set_option maxRecDepth 100000 in
theorem k_cGame_isChoice_b19 (n d : Nat) (q : (Int32 × bS)) (s0 : Int32) (o0 : Option Value) (o1 : Option Value) (ra : Nat) (rb : Nat) (rc : Nat) (re : Nat) (rf : Value) (rg : Value) (σ : bS) (h : cGame_isChoice_b19 n s0 σ = some q) : bfr MT (d + 0) M_X0_isChoice 19 [o0, o1] [] [(.int s0)] (mkC ra rb rc re rf rg σ) (some (.int q.1), mkC ra rb rc re rf rg q.2) := by
  unfold cGame_isChoice_b19 at h
  exact bfr_bz (mk := mkC ra rb rc re rf rg) 1 (fun _ _ => rfl) h
set_option maxRecDepth 100000 in
theorem k_cGame_isChoice (n d : Nat) (q : (Int32 × bS)) (x1 : Int32) (ra : Nat) (rb : Nat) (rc : Nat) (re : Nat) (rf : Value) (rg : Value) (σ : bS) (h : cGame_isChoice n x1 σ = some q) : bfr MT (d + 0) M_X0_isChoice 0 [some (.ref 68), some (.int x1)] [] [] (mkC ra rb rc re rf rg σ) (some (.int q.1), mkC ra rb rc re rf rg q.2) := by
  unfold cGame_isChoice at h
  refine bfr_run 6 10 [some (.ref 68), some (.int x1)] [] [(.int ((sI σ 59 10) ^^^ ci_m1)), (.int x1)] (mkC ra rb rc re rf rg σ) (fun _ _ => rfl) ?_
  refine bfr_br 2 (pc1 := 14) (L1 := [some (.ref 68), some (.int x1)]) (J1 := []) (st1 := []) (w1 := mkC ra rb rc re rf rg σ) (pc2 := 18) (L2 := [some (.ref 68), some (.int x1)]) (J2 := []) (st2 := []) (w2 := mkC ra rb rc re rf rg σ) (fun _ _ => rfl) h (fun h => ?_) (fun h => ?_)
  · refine bfr_run 2 19 [some (.ref 68), some (.int x1)] [] [(.int ci_1)] (mkC ra rb rc re rf rg σ) (fun _ _ => rfl) ?_
    exact k_cGame_isChoice_b19 n d q _ _ _ _ _ _ _ _ _ _ h
  · refine bfr_run 1 19 [some (.ref 68), some (.int x1)] [] [(.int ci_0)] (mkC ra rb rc re rf rg σ) (fun _ _ => rfl) ?_
    exact k_cGame_isChoice_b19 n d q _ _ _ _ _ _ _ _ _ _ h
set_option maxRecDepth 100000 in
theorem k_cGame_playAll_b26 (n d : Nat) (r2 : Int32 → bS → Option bS) (q : bS) (hr2 : ∀ (x1 : Int32) (ra : Nat) (rb : Nat) (re : Nat) (rf : Value) (rg : Value) (σ : bS), r2 x1 σ = some q → bfr MT (d + 4) M_X0_playAll 2 [some (.ref 68), some (.int x1)] [] [] (mkC ra rb 1 re rf rg σ) (none, mkC ra rb 1 re rf rg q)) (x1 : Int32) (ra : Nat) (rb : Nat) (re : Nat) (rf : Value) (rg : Value) (σ : bS) (h : cGame_playAll_b26 n r2 x1 σ = some q) : bfr MT (d + 4) M_X0_playAll 26 [some (.ref 68), some (.int x1)] [] [] (mkC ra rb 1 re rf rg σ) (none, mkC ra rb 1 re rf rg q) := by
  unfold cGame_playAll_b26 at h
  refine bfr_run 1 29 [some (.ref 68), some (.int (x1 + ci_1))] [] [] (mkC ra rb 1 re rf rg σ) (fun _ _ => rfl) ?_
  refine bfr_run 1 2 [some (.ref 68), some (.int (x1 + ci_1))] [] [] (mkC ra rb 1 re rf rg σ) (fun _ _ => rfl) ?_
  exact hr2 _ _ _ _ _ _ _ h
set_option maxRecDepth 100000 in
theorem k_cGame_playAll_b2 (n d : Nat) (q : bS) : ∀ (k : Nat) (x1 : Int32) (ra : Nat) (rb : Nat) (re : Nat) (rf : Value) (rg : Value) (σ : bS), cGame_playAll_b2 n k x1 σ = some q → bfr MT (d + 4) M_X0_playAll 2 [some (.ref 68), some (.int x1)] [] [] (mkC ra rb 1 re rf rg σ) (none, mkC ra rb 1 re rf rg q) := by
  intro k
  induction k with
  | zero => intro x1 ra rb re rf rg σ h; exact bno h
  | succ k ih =>
    intro x1 ra rb re rf rg σ h
    unfold cGame_playAll_b2 at h
    refine bfr_br 5 (pc1 := 32) (L1 := [some (.ref 68), some (.int x1)]) (J1 := []) (st1 := []) (w1 := mkC ra rb 1 re rf rg σ) (pc2 := 13) (L2 := [some (.ref 68), some (.int x1)]) (J2 := []) (st2 := []) (w2 := mkC ra rb 1 re rf rg σ) (fun _ _ => rfl) h (fun h => ?_) (fun h => ?_)
    · cases h
      exact bfr_ret 1 (fun _ _ => rfl)
    · refine bfr_call 3 (d1 := d + 3) (M1 := M_X0_isChoice) (vs := [(.ref 68), (.int x1)]) (w1 := mkC ra rb 1 re rf rg σ) (pc2 := 18) (L2 := [some (.ref 68), some (.int x1)]) (J2 := []) (rest := []) (fun a => some (.int a.1)) (fun a => mkC ra rb 1 re rf rg a.2) (fun _ _ => rfl) h (fun a ha => k_cGame_isChoice n (d + 3) _ _ _ _ _ _ _ _ _ ha) (fun q1 _ h => ?_)
      refine bfr_br 1 (pc1 := 26) (L1 := [some (.ref 68), some (.int x1)]) (J1 := []) (st1 := []) (w1 := mkC ra rb 1 re rf rg q1.2) (pc2 := 21) (L2 := [some (.ref 68), some (.int x1)]) (J2 := []) (st2 := []) (w2 := mkC ra rb 1 re rf rg q1.2) (fun _ _ => rfl) h (fun h => ?_) (fun h => ?_)
      · exact k_cGame_playAll_b26 n d _ q (ih) _ _ _ _ _ _ _ h
      · refine bfr_call 3 (d1 := d + 3) (M1 := M_X0_play) (vs := [(.ref 68), (.int x1)]) (w1 := mkC ra rb 1 re rf rg q1.2) (pc2 := 26) (L2 := [some (.ref 68), some (.int x1)]) (J2 := []) (rest := []) (fun _ => none) (fun a => mkC ra rb 1 re rf rg a) (fun _ _ => rfl) h (fun a ha => k_cGame_play n (d + 0) _ _ _ _ _ _ _ _ ha) (fun q2 _ h => ?_)
        exact k_cGame_playAll_b26 n d _ q (ih) _ _ _ _ _ _ _ h
set_option maxRecDepth 100000 in
theorem k_cGame_playAll (n d : Nat) (q : bS) (ra : Nat) (rb : Nat) (re : Nat) (rf : Value) (rg : Value) (σ : bS) (h : cGame_playAll n σ = some q) : bfr MT (d + 4) M_X0_playAll 0 [some (.ref 68), none] [] [] (mkC ra rb 1 re rf rg σ) (none, mkC ra rb 1 re rf rg q) := by
  unfold cGame_playAll at h
  refine bfr_run 2 2 [some (.ref 68), some (.int ci_0)] [] [] (mkC ra rb 1 re rf rg σ) (fun _ _ => rfl) ?_
  exact k_cGame_playAll_b2 n d q _ _ _ _ _ _ _ _ h
set_option maxRecDepth 100000 in
theorem k_cGame_isRest_b37 (n d : Nat) (r2 : Int32 → Int32 → bS → Option (Int32 × bS)) (q : (Int32 × bS)) (hr2 : ∀ (x1 : Int32) (x2 : Int32) (ra : Nat) (rb : Nat) (rc : Nat) (re : Nat) (rf : Value) (rg : Value) (σ : bS), r2 x1 x2 σ = some q → bfr MT (d + 1) M_X0_isRest 2 [some (.ref 68), some (.int x1), some (.int x2)] [] [] (mkC ra rb rc re rf rg σ) (some (.int q.1), mkC ra rb rc re rf rg q.2)) (x1 : Int32) (x2 : Int32) (ra : Nat) (rb : Nat) (rc : Nat) (re : Nat) (rf : Value) (rg : Value) (σ : bS) (h : cGame_isRest_b37 n r2 x1 x2 σ = some q) : bfr MT (d + 1) M_X0_isRest 37 [some (.ref 68), some (.int x1), some (.int x2)] [] [] (mkC ra rb rc re rf rg σ) (some (.int q.1), mkC ra rb rc re rf rg q.2) := by
  unfold cGame_isRest_b37 at h
  refine bfr_run 1 40 [some (.ref 68), some (.int x1), some (.int (x2 + ci_1))] [] [] (mkC ra rb rc re rf rg σ) (fun _ _ => rfl) ?_
  refine bfr_run 1 2 [some (.ref 68), some (.int x1), some (.int (x2 + ci_1))] [] [] (mkC ra rb rc re rf rg σ) (fun _ _ => rfl) ?_
  exact hr2 _ _ _ _ _ _ _ _ _ h
set_option maxRecDepth 100000 in
theorem k_cGame_isRest_b2 (n d : Nat) (q : (Int32 × bS)) : ∀ (k : Nat) (x1 : Int32) (x2 : Int32) (ra : Nat) (rb : Nat) (rc : Nat) (re : Nat) (rf : Value) (rg : Value) (σ : bS), cGame_isRest_b2 n k x1 x2 σ = some q → bfr MT (d + 1) M_X0_isRest 2 [some (.ref 68), some (.int x1), some (.int x2)] [] [] (mkC ra rb rc re rf rg σ) (some (.int q.1), mkC ra rb rc re rf rg q.2) := by
  intro k
  induction k with
  | zero => intro x1 x2 ra rb rc re rf rg σ h; exact bno h
  | succ k ih =>
    intro x1 x2 ra rb rc re rf rg σ h
    unfold cGame_isRest_b2 at h
    refine bfr_br 3 (pc1 := 43) (L1 := [some (.ref 68), some (.int x1), some (.int x2)]) (J1 := []) (st1 := []) (w1 := mkC ra rb rc re rf rg σ) (pc2 := 8) (L2 := [some (.ref 68), some (.int x1), some (.int x2)]) (J2 := []) (st2 := []) (w2 := mkC ra rb rc re rf rg σ) (fun _ _ => rfl) h (fun h => ?_) (fun h => ?_)
    · exact bfr_bz (mk := mkC ra rb rc re rf rg) 2 (fun _ _ => rfl) h
    · refine bfr_call 3 (d1 := d + 0) (M1 := M_X0_takesPart) (vs := [(.ref 68), (.int x2)]) (w1 := mkC ra rb rc re rf rg σ) (pc2 := 13) (L2 := [some (.ref 68), some (.int x1), some (.int x2)]) (J2 := []) (rest := []) (fun a => some (.int a.1)) (fun a => mkC ra rb rc re rf rg a.2) (fun _ _ => rfl) h (fun a ha => k_cGame_takesPart n (d + 0) _ _ _ _ _ _ _ _ _ ha) (fun q1 _ h => ?_)
      refine bfr_br 1 (pc1 := 37) (L1 := [some (.ref 68), some (.int x1), some (.int x2)]) (J1 := []) (st1 := []) (w1 := mkC ra rb rc re rf rg q1.2) (pc2 := 16) (L2 := [some (.ref 68), some (.int x1), some (.int x2)]) (J2 := []) (st2 := []) (w2 := mkC ra rb rc re rf rg q1.2) (fun _ _ => rfl) h (fun h => ?_) (fun h => ?_)
      · exact k_cGame_isRest_b37 n d _ q (ih) _ _ _ _ _ _ _ _ _ h
      · refine bfr_run 6 22 [some (.ref 68), some (.int x1), some (.int x2)] [] [(.int (x1 ^^^ (ci_1 <<< (x2 &&& 31)))), (.ref 68)] (mkC ra rb rc re rf rg q1.2) (fun _ _ => rfl) ?_
        refine bfr_call 2 (d1 := d + 0) (M1 := M_X0_gainOf) (vs := [(.ref 68), (.int (x1 ^^^ (ci_1 <<< (x2 &&& 31)))), (.int x2)]) (w1 := mkC ra rb rc re rf rg q1.2) (pc2 := 26) (L2 := [some (.ref 68), some (.int x1), some (.int x2)]) (J2 := []) (rest := []) (fun a => some (.int a.1)) (fun a => mkC ra rb rc re rf rg a.2) (fun _ _ => rfl) h (fun a ha => k_cGame_gainOf n (d + 0) _ _ _ _ _ _ _ _ _ _ ha) (fun q2 _ h => ?_)
        refine bfr_call 4 (d1 := d + 0) (M1 := M_X0_gainOf) (vs := [(.ref 68), (.int x1), (.int x2)]) (w1 := mkC ra rb rc re rf rg q2.2) (pc2 := 32) (L2 := [some (.ref 68), some (.int x1), some (.int x2)]) (J2 := []) (rest := [(.int q2.1)]) (fun a => some (.int a.1)) (fun a => mkC ra rb rc re rf rg a.2) (fun _ _ => rfl) h (fun a ha => k_cGame_gainOf n (d + 0) _ _ _ _ _ _ _ _ _ _ ha) (fun q3 _ h => ?_)
        refine bfr_br 1 (pc1 := 37) (L1 := [some (.ref 68), some (.int x1), some (.int x2)]) (J1 := []) (st1 := []) (w1 := mkC ra rb rc re rf rg q3.2) (pc2 := 35) (L2 := [some (.ref 68), some (.int x1), some (.int x2)]) (J2 := []) (st2 := []) (w2 := mkC ra rb rc re rf rg q3.2) (fun _ _ => rfl) h (fun h => ?_) (fun h => ?_)
        · exact k_cGame_isRest_b37 n d _ q (ih) _ _ _ _ _ _ _ _ _ h
        · exact bfr_bz (mk := mkC ra rb rc re rf rg) 2 (fun _ _ => rfl) h
set_option maxRecDepth 100000 in
theorem k_cGame_isRest (n d : Nat) (q : (Int32 × bS)) (x1 : Int32) (ra : Nat) (rb : Nat) (rc : Nat) (re : Nat) (rf : Value) (rg : Value) (σ : bS) (h : cGame_isRest n x1 σ = some q) : bfr MT (d + 1) M_X0_isRest 0 [some (.ref 68), some (.int x1), none] [] [] (mkC ra rb rc re rf rg σ) (some (.int q.1), mkC ra rb rc re rf rg q.2) := by
  unfold cGame_isRest at h
  refine bfr_run 2 2 [some (.ref 68), some (.int x1), some (.int ci_0)] [] [] (mkC ra rb rc re rf rg σ) (fun _ _ => rfl) ?_
  exact k_cGame_isRest_b2 n d q _ _ _ _ _ _ _ _ _ _ h
set_option maxRecDepth 100000 in
theorem k_cGame_restAt_b41 (n d : Nat) (r4 : Int32 → Int32 → Int32 → bS → Option (Int32 × bS)) (q : (Int32 × bS)) (hr4 : ∀ (x1 : Int32) (x2 : Int32) (x3 : Int32) (ra : Nat) (rb : Nat) (rc : Nat) (re : Nat) (rf : Value) (rg : Value) (σ : bS), r4 x1 x2 x3 σ = some q → bfr MT (d + 2) M_X0_restAt 4 [some (.ref 68), some (.int x1), some (.int x2), some (.int x3)] [] [] (mkC ra rb rc re rf rg σ) (some (.int q.1), mkC ra rb rc re rf rg q.2)) (x1 : Int32) (x2 : Int32) (x3 : Int32) (ra : Nat) (rb : Nat) (rc : Nat) (re : Nat) (rf : Value) (rg : Value) (σ : bS) (h : cGame_restAt_b41 n r4 x1 x2 x3 σ = some q) : bfr MT (d + 2) M_X0_restAt 41 [some (.ref 68), some (.int x1), some (.int x2), some (.int x3)] [] [] (mkC ra rb rc re rf rg σ) (some (.int q.1), mkC ra rb rc re rf rg q.2) := by
  unfold cGame_restAt_b41 at h
  refine bfr_run 1 44 [some (.ref 68), some (.int x1), some (.int x2), some (.int (x3 + ci_1))] [] [] (mkC ra rb rc re rf rg σ) (fun _ _ => rfl) ?_
  refine bfr_run 1 4 [some (.ref 68), some (.int x1), some (.int x2), some (.int (x3 + ci_1))] [] [] (mkC ra rb rc re rf rg σ) (fun _ _ => rfl) ?_
  exact hr4 _ _ _ _ _ _ _ _ _ _ h
set_option maxRecDepth 100000 in
theorem k_cGame_restAt_b4 (n d : Nat) (q : (Int32 × bS)) : ∀ (k : Nat) (x1 : Int32) (x2 : Int32) (x3 : Int32) (ra : Nat) (rb : Nat) (rc : Nat) (re : Nat) (rf : Value) (rg : Value) (σ : bS), cGame_restAt_b4 n k x1 x2 x3 σ = some q → bfr MT (d + 2) M_X0_restAt 4 [some (.ref 68), some (.int x1), some (.int x2), some (.int x3)] [] [] (mkC ra rb rc re rf rg σ) (some (.int q.1), mkC ra rb rc re rf rg q.2) := by
  intro k
  induction k with
  | zero => intro x1 x2 x3 ra rb rc re rf rg σ h; exact bno h
  | succ k ih =>
    intro x1 x2 x3 ra rb rc re rf rg σ h
    unfold cGame_restAt_b4 at h
    refine bfr_br 5 (pc1 := 47) (L1 := [some (.ref 68), some (.int x1), some (.int x2), some (.int x3)]) (J1 := []) (st1 := []) (w1 := mkC ra rb rc re rf rg σ) (pc2 := 15) (L2 := [some (.ref 68), some (.int x1), some (.int x2), some (.int x3)]) (J2 := []) (st2 := []) (w2 := mkC ra rb rc re rf rg σ) (fun _ _ => rfl) h (fun h => ?_) (fun h => ?_)
    · cases h
      exact bfr_ret 2 (fun _ _ => rfl)
    · refine bfr_call 3 (d1 := d + 1) (M1 := M_X0_isChoice) (vs := [(.ref 68), (.int x3)]) (w1 := mkC ra rb rc re rf rg σ) (pc2 := 20) (L2 := [some (.ref 68), some (.int x1), some (.int x2), some (.int x3)]) (J2 := []) (rest := []) (fun a => some (.int a.1)) (fun a => mkC ra rb rc re rf rg a.2) (fun _ _ => rfl) h (fun a ha => k_cGame_isChoice n (d + 1) _ _ _ _ _ _ _ _ _ ha) (fun q1 _ h => ?_)
      refine bfr_br 1 (pc1 := 41) (L1 := [some (.ref 68), some (.int x1), some (.int x2), some (.int x3)]) (J1 := []) (st1 := []) (w1 := mkC ra rb rc re rf rg q1.2) (pc2 := 23) (L2 := [some (.ref 68), some (.int x1), some (.int x2), some (.int x3)]) (J2 := []) (st2 := []) (w2 := mkC ra rb rc re rf rg q1.2) (fun _ _ => rfl) h (fun h => ?_) (fun h => ?_)
      · exact k_cGame_restAt_b41 n d _ q (ih) _ _ _ _ _ _ _ _ _ _ h
      · refine bfr_call 3 (d1 := d + 1) (M1 := M_X0_isRest) (vs := [(.ref 68), (.int x3)]) (w1 := mkC ra rb rc re rf rg q1.2) (pc2 := 28) (L2 := [some (.ref 68), some (.int x1), some (.int x2), some (.int x3)]) (J2 := []) (rest := []) (fun a => some (.int a.1)) (fun a => mkC ra rb rc re rf rg a.2) (fun _ _ => rfl) h (fun a ha => k_cGame_isRest n (d + 0) _ _ _ _ _ _ _ _ _ ha) (fun q2 _ h => ?_)
        refine bfr_br 1 (pc1 := 41) (L1 := [some (.ref 68), some (.int x1), some (.int x2), some (.int x3)]) (J1 := []) (st1 := []) (w1 := mkC ra rb rc re rf rg q2.2) (pc2 := 31) (L2 := [some (.ref 68), some (.int x1), some (.int x2), some (.int x3)]) (J2 := []) (st2 := []) (w2 := mkC ra rb rc re rf rg q2.2) (fun _ _ => rfl) h (fun h => ?_) (fun h => ?_)
        · exact k_cGame_restAt_b41 n d _ q (ih) _ _ _ _ _ _ _ _ _ _ h
        · refine bfr_br 3 (pc1 := 36) (L1 := [some (.ref 68), some (.int x1), some (.int x2), some (.int x3)]) (J1 := []) (st1 := []) (w1 := mkC ra rb rc re rf rg q2.2) (pc2 := 38) (L2 := [some (.ref 68), some (.int x1), some (.int x2), some (.int x3)]) (J2 := []) (st2 := []) (w2 := mkC ra rb rc re rf rg q2.2) (fun _ _ => rfl) h (fun h => ?_) (fun h => ?_)
          · cases h
            exact bfr_ret 2 (fun _ _ => rfl)
          · refine bfr_run 1 41 [some (.ref 68), some (.int x1), some (.int (x2 + ci_1)), some (.int x3)] [] [] (mkC ra rb rc re rf rg q2.2) (fun _ _ => rfl) ?_
            exact k_cGame_restAt_b41 n d _ q (ih) _ _ _ _ _ _ _ _ _ _ h
set_option maxRecDepth 100000 in
theorem k_cGame_restAt (n d : Nat) (q : (Int32 × bS)) (x1 : Int32) (ra : Nat) (rb : Nat) (rc : Nat) (re : Nat) (rf : Value) (rg : Value) (σ : bS) (h : cGame_restAt n x1 σ = some q) : bfr MT (d + 2) M_X0_restAt 0 [some (.ref 68), some (.int x1), none, none] [] [] (mkC ra rb rc re rf rg σ) (some (.int q.1), mkC ra rb rc re rf rg q.2) := by
  unfold cGame_restAt at h
  refine bfr_run 4 4 [some (.ref 68), some (.int x1), some (.int ci_0), some (.int ci_0)] [] [] (mkC ra rb rc re rf rg σ) (fun _ _ => rfl) ?_
  exact k_cGame_restAt_b4 n d q _ _ _ _ _ _ _ _ _ _ _ h
set_option maxRecDepth 100000 in
theorem k_cGame_countRests_b34 (n d : Nat) (r4 : Int32 → Int32 → bS → Option (Int32 × bS)) (q : (Int32 × bS)) (hr4 : ∀ (x1 : Int32) (x2 : Int32) (ra : Nat) (rb : Nat) (rc : Nat) (re : Nat) (rf : Value) (rg : Value) (σ : bS), r4 x1 x2 σ = some q → bfr MT (d + 2) M_X0_countRests 4 [some (.ref 68), some (.int x1), some (.int x2)] [] [] (mkC ra rb rc re rf rg σ) (some (.int q.1), mkC ra rb rc re rf rg q.2)) (x1 : Int32) (x2 : Int32) (ra : Nat) (rb : Nat) (rc : Nat) (re : Nat) (rf : Value) (rg : Value) (σ : bS) (h : cGame_countRests_b34 n r4 x1 x2 σ = some q) : bfr MT (d + 2) M_X0_countRests 34 [some (.ref 68), some (.int x1), some (.int x2)] [] [] (mkC ra rb rc re rf rg σ) (some (.int q.1), mkC ra rb rc re rf rg q.2) := by
  unfold cGame_countRests_b34 at h
  refine bfr_run 1 37 [some (.ref 68), some (.int x1), some (.int (x2 + ci_1))] [] [] (mkC ra rb rc re rf rg σ) (fun _ _ => rfl) ?_
  refine bfr_run 1 4 [some (.ref 68), some (.int x1), some (.int (x2 + ci_1))] [] [] (mkC ra rb rc re rf rg σ) (fun _ _ => rfl) ?_
  exact hr4 _ _ _ _ _ _ _ _ _ h
set_option maxRecDepth 100000 in
theorem k_cGame_countRests_b4 (n d : Nat) (q : (Int32 × bS)) : ∀ (k : Nat) (x1 : Int32) (x2 : Int32) (ra : Nat) (rb : Nat) (rc : Nat) (re : Nat) (rf : Value) (rg : Value) (σ : bS), cGame_countRests_b4 n k x1 x2 σ = some q → bfr MT (d + 2) M_X0_countRests 4 [some (.ref 68), some (.int x1), some (.int x2)] [] [] (mkC ra rb rc re rf rg σ) (some (.int q.1), mkC ra rb rc re rf rg q.2) := by
  intro k
  induction k with
  | zero => intro x1 x2 ra rb rc re rf rg σ h; exact bno h
  | succ k ih =>
    intro x1 x2 ra rb rc re rf rg σ h
    unfold cGame_countRests_b4 at h
    refine bfr_br 5 (pc1 := 40) (L1 := [some (.ref 68), some (.int x1), some (.int x2)]) (J1 := []) (st1 := []) (w1 := mkC ra rb rc re rf rg σ) (pc2 := 15) (L2 := [some (.ref 68), some (.int x1), some (.int x2)]) (J2 := []) (st2 := []) (w2 := mkC ra rb rc re rf rg σ) (fun _ _ => rfl) h (fun h => ?_) (fun h => ?_)
    · cases h
      exact bfr_ret 2 (fun _ _ => rfl)
    · refine bfr_call 3 (d1 := d + 1) (M1 := M_X0_isChoice) (vs := [(.ref 68), (.int x2)]) (w1 := mkC ra rb rc re rf rg σ) (pc2 := 20) (L2 := [some (.ref 68), some (.int x1), some (.int x2)]) (J2 := []) (rest := []) (fun a => some (.int a.1)) (fun a => mkC ra rb rc re rf rg a.2) (fun _ _ => rfl) h (fun a ha => k_cGame_isChoice n (d + 1) _ _ _ _ _ _ _ _ _ ha) (fun q1 _ h => ?_)
      refine bfr_br 1 (pc1 := 34) (L1 := [some (.ref 68), some (.int x1), some (.int x2)]) (J1 := []) (st1 := []) (w1 := mkC ra rb rc re rf rg q1.2) (pc2 := 23) (L2 := [some (.ref 68), some (.int x1), some (.int x2)]) (J2 := []) (st2 := []) (w2 := mkC ra rb rc re rf rg q1.2) (fun _ _ => rfl) h (fun h => ?_) (fun h => ?_)
      · exact k_cGame_countRests_b34 n d _ q (ih) _ _ _ _ _ _ _ _ _ h
      · refine bfr_call 3 (d1 := d + 1) (M1 := M_X0_isRest) (vs := [(.ref 68), (.int x2)]) (w1 := mkC ra rb rc re rf rg q1.2) (pc2 := 28) (L2 := [some (.ref 68), some (.int x1), some (.int x2)]) (J2 := []) (rest := []) (fun a => some (.int a.1)) (fun a => mkC ra rb rc re rf rg a.2) (fun _ _ => rfl) h (fun a ha => k_cGame_isRest n (d + 0) _ _ _ _ _ _ _ _ _ ha) (fun q2 _ h => ?_)
        refine bfr_br 1 (pc1 := 34) (L1 := [some (.ref 68), some (.int x1), some (.int x2)]) (J1 := []) (st1 := []) (w1 := mkC ra rb rc re rf rg q2.2) (pc2 := 31) (L2 := [some (.ref 68), some (.int x1), some (.int x2)]) (J2 := []) (st2 := []) (w2 := mkC ra rb rc re rf rg q2.2) (fun _ _ => rfl) h (fun h => ?_) (fun h => ?_)
        · exact k_cGame_countRests_b34 n d _ q (ih) _ _ _ _ _ _ _ _ _ h
        · refine bfr_run 1 34 [some (.ref 68), some (.int (x1 + ci_1)), some (.int x2)] [] [] (mkC ra rb rc re rf rg q2.2) (fun _ _ => rfl) ?_
          exact k_cGame_countRests_b34 n d _ q (ih) _ _ _ _ _ _ _ _ _ h
set_option maxRecDepth 100000 in
theorem k_cGame_countRests (n d : Nat) (q : (Int32 × bS)) (ra : Nat) (rb : Nat) (rc : Nat) (re : Nat) (rf : Value) (rg : Value) (σ : bS) (h : cGame_countRests n σ = some q) : bfr MT (d + 2) M_X0_countRests 0 [some (.ref 68), none, none] [] [] (mkC ra rb rc re rf rg σ) (some (.int q.1), mkC ra rb rc re rf rg q.2) := by
  unfold cGame_countRests at h
  refine bfr_run 4 4 [some (.ref 68), some (.int ci_0), some (.int ci_0)] [] [] (mkC ra rb rc re rf rg σ) (fun _ _ => rfl) ?_
  exact k_cGame_countRests_b4 n d q _ _ _ _ _ _ _ _ _ _ h
set_option maxRecDepth 100000 in
theorem k_cTop_rests_b65 (n d : Nat) (q : (Int32 × bS)) (s0 : Int32) (o0 : Option Value) (o1 : Option Value) (o2 : Option Value) (o3 : Option Value) (o4 : Option Value) (rb : Nat) (re : Nat) (rf : Value) (rg : Value) (σ : bS) (h : cTop_rests_b65 n s0 σ = some q) : bfr MT (d + 5) M_X11_rests 65 [o0, o1, o2, o3, o4] [] [(.int s0)] (mkC 1 rb 1 re rf rg σ) (some (.int q.1), mkC 1 rb 1 re rf rg q.2) := by
  unfold cTop_rests_b65 at h
  cases h
  exact bfr_ret 1 (fun _ _ => rfl)
set_option maxRecDepth 100000 in
theorem k_cTop_rests_b15 (n d : Nat) (q : (Int32 × bS)) (x1 : Int32) (x2 : Int32) (x3 : Int32) (s0 : Int32) (o4 : Option Value) (rb : Nat) (re : Nat) (rf : Value) (rg : Value) (σ : bS) (h : cTop_rests_b15 n x1 x2 x3 s0 σ = some q) : bfr MT (d + 5) M_X11_rests 15 [some (.ref 0), some (.int x1), some (.int x2), some (.int x3), o4] [] [(.int s0)] (mkC 1 rb 1 re rf rg σ) (some (.int q.1), mkC 1 rb 1 re rf rg q.2) := by
  unfold cTop_rests_b15 at h
  refine bfr_br 3 (pc1 := 25) (L1 := [some (.ref 0), some (.int x1), some (.int x2), some (.int x3), some (.int s0)]) (J1 := []) (st1 := []) (w1 := mkC 1 rb 1 re rf rg σ) (pc2 := 22) (L2 := [some (.ref 0), some (.int x1), some (.int x2), some (.int x3), some (.int s0)]) (J2 := []) (st2 := []) (w2 := mkC 1 rb 1 re rf rg σ) (fun _ _ => rfl) h (fun h => ?_) (fun h => ?_)
  · refine bfr_call 6 (d1 := d + 4) (M1 := M_X5_prepare) (vs := [(.ref 59), (.int x1), (.int x2), (.int ci_1)]) (w1 := mkC 1 rb 1 re rf rg σ) (pc2 := 35) (L2 := [some (.ref 0), some (.int x1), some (.int x2), some (.int x3), some (.int s0)]) (J2 := []) (rest := []) (fun _ => none) (fun a => mkC 1 rb 1 re rf rg a) (fun _ _ => rfl) h (fun a ha => k_cRows_prepare n (d + 1) _ _ _ _ _ _ _ _ _ _ ha) (fun q1 _ h => ?_)
    refine bfr_call 3 (d1 := d + 4) (M1 := M_X0_playAll) (vs := [(.ref 68)]) (w1 := mkC 1 rb 1 re rf rg q1) (pc2 := 42) (L2 := [some (.ref 0), some (.int x1), some (.int x2), some (.int x3), some (.int s0)]) (J2 := []) (rest := []) (fun _ => none) (fun a => mkC 1 rb 1 re rf rg a) (fun _ _ => rfl) h (fun a ha => k_cGame_playAll n (d + 0) _ _ _ _ _ _ _ ha) (fun q2 _ h => ?_)
    refine bfr_br 3 (pc1 := 47) (L1 := [some (.ref 0), some (.int x1), some (.int x2), some (.int x3), some (.int s0)]) (J1 := []) (st1 := []) (w1 := mkC 1 rb 1 re rf rg q2) (pc2 := 57) (L2 := [some (.ref 0), some (.int x1), some (.int x2), some (.int x3), some (.int s0)]) (J2 := []) (st2 := []) (w2 := mkC 1 rb 1 re rf rg q2) (fun _ _ => rfl) h (fun h => ?_) (fun h => ?_)
    · refine bfr_call 3 (d1 := d + 4) (M1 := M_X0_countRests) (vs := [(.ref 68)]) (w1 := mkC 1 rb 1 re rf rg q2) (pc2 := 54) (L2 := [some (.ref 0), some (.int x1), some (.int x2), some (.int x3), some (.int s0)]) (J2 := []) (rest := []) (fun a => some (.int a.1)) (fun a => mkC 1 rb 1 re rf rg a.2) (fun _ _ => rfl) h (fun a ha => k_cGame_countRests n (d + 2) _ _ _ _ _ _ _ _ ha) (fun q3 _ h => ?_)
      refine bfr_run 1 65 [some (.ref 0), some (.int x1), some (.int x2), some (.int x3), some (.int s0)] [] [(.int q3.1)] (mkC 1 rb 1 re rf rg q3.2) (fun _ _ => rfl) ?_
      exact k_cTop_rests_b65 n d q _ _ _ _ _ _ _ _ _ _ _ h
    · refine bfr_call 4 (d1 := d + 4) (M1 := M_X0_restAt) (vs := [(.ref 68), (.int x3)]) (w1 := mkC 1 rb 1 re rf rg q2) (pc2 := 65) (L2 := [some (.ref 0), some (.int x1), some (.int x2), some (.int x3), some (.int s0)]) (J2 := []) (rest := []) (fun a => some (.int a.1)) (fun a => mkC 1 rb 1 re rf rg a.2) (fun _ _ => rfl) h (fun a ha => k_cGame_restAt n (d + 2) _ _ _ _ _ _ _ _ _ ha) (fun q4 _ h => ?_)
      exact k_cTop_rests_b65 n d q _ _ _ _ _ _ _ _ _ _ _ h
  · cases h
    exact bfr_ret 2 (fun _ _ => rfl)
set_option maxRecDepth 100000 in
theorem k_cTop_rests (n d : Nat) (q : (Int32 × bS)) (x1 : Int32) (x2 : Int32) (x3 : Int32) (rb : Nat) (re : Nat) (rf : Value) (rg : Value) (σ : bS) (h : cTop_rests n x1 x2 x3 σ = some q) : bfr MT (d + 5) M_X11_rests 0 [some (.ref 0), some (.int x1), some (.int x2), some (.int x3), none] [] [] (mkC 1 rb 1 re rf rg σ) (some (.int q.1), mkC 1 rb 1 re rf rg q.2) := by
  unfold cTop_rests at h
  refine bfr_br 3 (pc1 := 9) (L1 := [some (.ref 0), some (.int x1), some (.int x2), some (.int x3), none]) (J1 := []) (st1 := []) (w1 := mkC 1 rb 1 re rf rg σ) (pc2 := 5) (L2 := [some (.ref 0), some (.int x1), some (.int x2), some (.int x3), none]) (J2 := []) (st2 := []) (w2 := mkC 1 rb 1 re rf rg σ) (fun _ _ => rfl) h (fun h => ?_) (fun h => ?_)
  · refine bfr_call 4 (d1 := d + 4) (M1 := M_X11_rowFault) (vs := [(.ref 0), (.int x1), (.int x2)]) (w1 := mkC 1 rb 1 re rf rg σ) (pc2 := 15) (L2 := [some (.ref 0), some (.int x1), some (.int x2), some (.int x3), none]) (J2 := []) (rest := []) (fun a => some (.int a.1)) (fun a => mkC 1 rb 1 re rf rg a.2) (fun _ _ => rfl) h (fun a ha => k_cTop_rowFault n (d + 3) _ _ _ _ _ _ _ _ ha) (fun q5 _ h => ?_)
    exact k_cTop_rests_b15 n d q _ _ _ _ _ _ _ _ _ _ h
  · refine bfr_run 2 15 [some (.ref 0), some (.int x1), some (.int x2), some (.int x3), none] [] [(.int ci_m1)] (mkC 1 rb 1 re rf rg σ) (fun _ _ => rfl) ?_
    exact k_cTop_rests_b15 n d q _ _ _ _ _ _ _ _ _ _ h
set_option maxRecDepth 100000 in
theorem k_cGame_mostWorth_b37 (n d : Nat) (r8 : Int32 → Int32 → bS → Option (Int32 × bS)) (q : (Int32 × bS)) (hr8 : ∀ (x1 : Int32) (x2 : Int32) (ra : Nat) (rb : Nat) (rc : Nat) (re : Nat) (rf : Value) (rg : Value) (σ : bS), r8 x1 x2 σ = some q → bfr MT (d + 2) M_X0_mostWorth 8 [some (.ref 68), some (.int x1), some (.int x2)] [] [] (mkC ra rb rc re rf rg σ) (some (.int q.1), mkC ra rb rc re rf rg q.2)) (x1 : Int32) (x2 : Int32) (ra : Nat) (rb : Nat) (rc : Nat) (re : Nat) (rf : Value) (rg : Value) (σ : bS) (h : cGame_mostWorth_b37 n r8 x1 x2 σ = some q) : bfr MT (d + 2) M_X0_mostWorth 37 [some (.ref 68), some (.int x1), some (.int x2)] [] [] (mkC ra rb rc re rf rg σ) (some (.int q.1), mkC ra rb rc re rf rg q.2) := by
  unfold cGame_mostWorth_b37 at h
  refine bfr_run 1 40 [some (.ref 68), some (.int x1), some (.int (x2 + ci_1))] [] [] (mkC ra rb rc re rf rg σ) (fun _ _ => rfl) ?_
  refine bfr_run 1 8 [some (.ref 68), some (.int x1), some (.int (x2 + ci_1))] [] [] (mkC ra rb rc re rf rg σ) (fun _ _ => rfl) ?_
  exact hr8 _ _ _ _ _ _ _ _ _ h
set_option maxRecDepth 100000 in
theorem k_cGame_mostWorth_b8 (n d : Nat) (q : (Int32 × bS)) : ∀ (k : Nat) (x1 : Int32) (x2 : Int32) (ra : Nat) (rb : Nat) (rc : Nat) (re : Nat) (rf : Value) (rg : Value) (σ : bS), cGame_mostWorth_b8 n k x1 x2 σ = some q → bfr MT (d + 2) M_X0_mostWorth 8 [some (.ref 68), some (.int x1), some (.int x2)] [] [] (mkC ra rb rc re rf rg σ) (some (.int q.1), mkC ra rb rc re rf rg q.2) := by
  intro k
  induction k with
  | zero => intro x1 x2 ra rb rc re rf rg σ h; exact bno h
  | succ k ih =>
    intro x1 x2 ra rb rc re rf rg σ h
    unfold cGame_mostWorth_b8 at h
    refine bfr_br 5 (pc1 := 43) (L1 := [some (.ref 68), some (.int x1), some (.int x2)]) (J1 := []) (st1 := []) (w1 := mkC ra rb rc re rf rg σ) (pc2 := 19) (L2 := [some (.ref 68), some (.int x1), some (.int x2)]) (J2 := []) (st2 := []) (w2 := mkC ra rb rc re rf rg σ) (fun _ _ => rfl) h (fun h => ?_) (fun h => ?_)
    · cases h
      exact bfr_ret 2 (fun _ _ => rfl)
    · refine bfr_call 3 (d1 := d + 1) (M1 := M_X0_isChoice) (vs := [(.ref 68), (.int x2)]) (w1 := mkC ra rb rc re rf rg σ) (pc2 := 24) (L2 := [some (.ref 68), some (.int x1), some (.int x2)]) (J2 := []) (rest := []) (fun a => some (.int a.1)) (fun a => mkC ra rb rc re rf rg a.2) (fun _ _ => rfl) h (fun a ha => k_cGame_isChoice n (d + 1) _ _ _ _ _ _ _ _ _ ha) (fun q1 _ h => ?_)
      refine bfr_br 1 (pc1 := 37) (L1 := [some (.ref 68), some (.int x1), some (.int x2)]) (J1 := []) (st1 := []) (w1 := mkC ra rb rc re rf rg q1.2) (pc2 := 27) (L2 := [some (.ref 68), some (.int x1), some (.int x2)]) (J2 := []) (st2 := []) (w2 := mkC ra rb rc re rf rg q1.2) (fun _ _ => rfl) h (fun h => ?_) (fun h => ?_)
      · exact k_cGame_mostWorth_b37 n d _ q (ih) _ _ _ _ _ _ _ _ _ h
      · refine bfr_call 4 (d1 := d + 1) (M1 := M_X0_worthOf) (vs := [(.ref 68), (.int x2)]) (w1 := mkC ra rb rc re rf rg q1.2) (pc2 := 33) (L2 := [some (.ref 68), some (.int x1), some (.int x2)]) (J2 := []) (rest := [(.int x1)]) (fun a => some (.int a.1)) (fun a => mkC ra rb rc re rf rg a.2) (fun _ _ => rfl) h (fun a ha => k_cGame_worthOf n (d + 0) _ _ _ _ _ _ _ _ _ ha) (fun q2 _ h => ?_)
        refine bfr_call 1 (d1 := d + 1) (M1 := M_J9_max_7cf53) (vs := [(.int x1), (.int q2.1)]) (w1 := mkC ra rb rc re rf rg q2.2) (pc2 := 36) (L2 := [some (.ref 68), some (.int x1), some (.int x2)]) (J2 := []) (rest := []) (fun a => some (.int a.1)) (fun a => mkC ra rb rc re rf rg a.2) (fun _ _ => rfl) h (fun a ha => k_cj_max n (d + 1) _ _ _ _ _ _ _ _ _ _ ha) (fun q3 _ h => ?_)
        refine bfr_run 1 37 [some (.ref 68), some (.int q3.1), some (.int x2)] [] [] (mkC ra rb rc re rf rg q3.2) (fun _ _ => rfl) ?_
        exact k_cGame_mostWorth_b37 n d _ q (ih) _ _ _ _ _ _ _ _ _ h
set_option maxRecDepth 100000 in
theorem k_cGame_mostWorth (n d : Nat) (q : (Int32 × bS)) (ra : Nat) (rb : Nat) (rc : Nat) (re : Nat) (rf : Value) (rg : Value) (σ : bS) (h : cGame_mostWorth n σ = some q) : bfr MT (d + 2) M_X0_mostWorth 0 [some (.ref 68), none, none] [] [] (mkC ra rb rc re rf rg σ) (some (.int q.1), mkC ra rb rc re rf rg q.2) := by
  unfold cGame_mostWorth at h
  refine bfr_call 3 (d1 := d + 1) (M1 := M_X0_worthOf) (vs := [(.ref 68), (.int ci_0)]) (w1 := mkC ra rb rc re rf rg σ) (pc2 := 5) (L2 := [some (.ref 68), none, none]) (J2 := []) (rest := []) (fun a => some (.int a.1)) (fun a => mkC ra rb rc re rf rg a.2) (fun _ _ => rfl) h (fun a ha => k_cGame_worthOf n (d + 0) _ _ _ _ _ _ _ _ _ ha) (fun q4 _ h => ?_)
  refine bfr_run 3 8 [some (.ref 68), some (.int q4.1), some (.int ci_1)] [] [] (mkC ra rb rc re rf rg q4.2) (fun _ _ => rfl) ?_
  exact k_cGame_mostWorth_b8 n d q _ _ _ _ _ _ _ _ _ _ h
set_option maxRecDepth 100000 in
theorem k_cGame_leastRestingWorth_b42 (n d : Nat) (r5 : Int32 → Int32 → bS → Option (Int32 × bS)) (q : (Int32 × bS)) (hr5 : ∀ (x1 : Int32) (x2 : Int32) (ra : Nat) (rb : Nat) (rc : Nat) (re : Nat) (rf : Value) (rg : Value) (σ : bS), r5 x1 x2 σ = some q → bfr MT (d + 2) M_X0_leastRestingWorth 5 [some (.ref 68), some (.int x1), some (.int x2)] [] [] (mkC ra rb rc re rf rg σ) (some (.int q.1), mkC ra rb rc re rf rg q.2)) (x1 : Int32) (x2 : Int32) (ra : Nat) (rb : Nat) (rc : Nat) (re : Nat) (rf : Value) (rg : Value) (σ : bS) (h : cGame_leastRestingWorth_b42 n r5 x1 x2 σ = some q) : bfr MT (d + 2) M_X0_leastRestingWorth 42 [some (.ref 68), some (.int x1), some (.int x2)] [] [] (mkC ra rb rc re rf rg σ) (some (.int q.1), mkC ra rb rc re rf rg q.2) := by
  unfold cGame_leastRestingWorth_b42 at h
  refine bfr_run 1 45 [some (.ref 68), some (.int x1), some (.int (x2 + ci_1))] [] [] (mkC ra rb rc re rf rg σ) (fun _ _ => rfl) ?_
  refine bfr_run 1 5 [some (.ref 68), some (.int x1), some (.int (x2 + ci_1))] [] [] (mkC ra rb rc re rf rg σ) (fun _ _ => rfl) ?_
  exact hr5 _ _ _ _ _ _ _ _ _ h
set_option maxRecDepth 100000 in
theorem k_cGame_leastRestingWorth_b5 (n d : Nat) (q : (Int32 × bS)) : ∀ (k : Nat) (x1 : Int32) (x2 : Int32) (ra : Nat) (rb : Nat) (rc : Nat) (re : Nat) (rf : Value) (rg : Value) (σ : bS), cGame_leastRestingWorth_b5 n k x1 x2 σ = some q → bfr MT (d + 2) M_X0_leastRestingWorth 5 [some (.ref 68), some (.int x1), some (.int x2)] [] [] (mkC ra rb rc re rf rg σ) (some (.int q.1), mkC ra rb rc re rf rg q.2) := by
  intro k
  induction k with
  | zero => intro x1 x2 ra rb rc re rf rg σ h; exact bno h
  | succ k ih =>
    intro x1 x2 ra rb rc re rf rg σ h
    unfold cGame_leastRestingWorth_b5 at h
    refine bfr_br 5 (pc1 := 48) (L1 := [some (.ref 68), some (.int x1), some (.int x2)]) (J1 := []) (st1 := []) (w1 := mkC ra rb rc re rf rg σ) (pc2 := 16) (L2 := [some (.ref 68), some (.int x1), some (.int x2)]) (J2 := []) (st2 := []) (w2 := mkC ra rb rc re rf rg σ) (fun _ _ => rfl) h (fun h => ?_) (fun h => ?_)
    · cases h
      exact bfr_ret 2 (fun _ _ => rfl)
    · refine bfr_call 3 (d1 := d + 1) (M1 := M_X0_isChoice) (vs := [(.ref 68), (.int x2)]) (w1 := mkC ra rb rc re rf rg σ) (pc2 := 21) (L2 := [some (.ref 68), some (.int x1), some (.int x2)]) (J2 := []) (rest := []) (fun a => some (.int a.1)) (fun a => mkC ra rb rc re rf rg a.2) (fun _ _ => rfl) h (fun a ha => k_cGame_isChoice n (d + 1) _ _ _ _ _ _ _ _ _ ha) (fun q1 _ h => ?_)
      refine bfr_br 1 (pc1 := 42) (L1 := [some (.ref 68), some (.int x1), some (.int x2)]) (J1 := []) (st1 := []) (w1 := mkC ra rb rc re rf rg q1.2) (pc2 := 24) (L2 := [some (.ref 68), some (.int x1), some (.int x2)]) (J2 := []) (st2 := []) (w2 := mkC ra rb rc re rf rg q1.2) (fun _ _ => rfl) h (fun h => ?_) (fun h => ?_)
      · exact k_cGame_leastRestingWorth_b42 n d _ q (ih) _ _ _ _ _ _ _ _ _ h
      · refine bfr_call 3 (d1 := d + 1) (M1 := M_X0_isRest) (vs := [(.ref 68), (.int x2)]) (w1 := mkC ra rb rc re rf rg q1.2) (pc2 := 29) (L2 := [some (.ref 68), some (.int x1), some (.int x2)]) (J2 := []) (rest := []) (fun a => some (.int a.1)) (fun a => mkC ra rb rc re rf rg a.2) (fun _ _ => rfl) h (fun a ha => k_cGame_isRest n (d + 0) _ _ _ _ _ _ _ _ _ ha) (fun q2 _ h => ?_)
        refine bfr_br 1 (pc1 := 42) (L1 := [some (.ref 68), some (.int x1), some (.int x2)]) (J1 := []) (st1 := []) (w1 := mkC ra rb rc re rf rg q2.2) (pc2 := 32) (L2 := [some (.ref 68), some (.int x1), some (.int x2)]) (J2 := []) (st2 := []) (w2 := mkC ra rb rc re rf rg q2.2) (fun _ _ => rfl) h (fun h => ?_) (fun h => ?_)
        · exact k_cGame_leastRestingWorth_b42 n d _ q (ih) _ _ _ _ _ _ _ _ _ h
        · refine bfr_call 4 (d1 := d + 1) (M1 := M_X0_worthOf) (vs := [(.ref 68), (.int x2)]) (w1 := mkC ra rb rc re rf rg q2.2) (pc2 := 38) (L2 := [some (.ref 68), some (.int x1), some (.int x2)]) (J2 := []) (rest := [(.int x1)]) (fun a => some (.int a.1)) (fun a => mkC ra rb rc re rf rg a.2) (fun _ _ => rfl) h (fun a ha => k_cGame_worthOf n (d + 0) _ _ _ _ _ _ _ _ _ ha) (fun q3 _ h => ?_)
          refine bfr_call 1 (d1 := d + 1) (M1 := M_J9_min_7cf53) (vs := [(.int x1), (.int q3.1)]) (w1 := mkC ra rb rc re rf rg q3.2) (pc2 := 41) (L2 := [some (.ref 68), some (.int x1), some (.int x2)]) (J2 := []) (rest := []) (fun a => some (.int a.1)) (fun a => mkC ra rb rc re rf rg a.2) (fun _ _ => rfl) h (fun a ha => k_cj_min n (d + 1) _ _ _ _ _ _ _ _ _ _ ha) (fun q4 _ h => ?_)
          refine bfr_run 1 42 [some (.ref 68), some (.int q4.1), some (.int x2)] [] [] (mkC ra rb rc re rf rg q4.2) (fun _ _ => rfl) ?_
          exact k_cGame_leastRestingWorth_b42 n d _ q (ih) _ _ _ _ _ _ _ _ _ h
set_option maxRecDepth 100000 in
theorem k_cGame_leastRestingWorth (n d : Nat) (q : (Int32 × bS)) (ra : Nat) (rb : Nat) (rc : Nat) (re : Nat) (rf : Value) (rg : Value) (σ : bS) (h : cGame_leastRestingWorth n σ = some q) : bfr MT (d + 2) M_X0_leastRestingWorth 0 [some (.ref 68), none, none] [] [] (mkC ra rb rc re rf rg σ) (some (.int q.1), mkC ra rb rc re rf rg q.2) := by
  unfold cGame_leastRestingWorth at h
  refine bfr_run 4 5 [some (.ref 68), some (.int (1073741824 : Int32)), some (.int ci_0)] [] [] (mkC ra rb rc re rf rg σ) (fun _ _ => rfl) ?_
  exact k_cGame_leastRestingWorth_b5 n d q _ _ _ _ _ _ _ _ _ _ h
set_option maxRecDepth 100000 in
theorem k_cTop_best_b73 (n d : Nat) (q : (Int32 × bS)) (s0 : Int32) (o0 : Option Value) (o1 : Option Value) (o2 : Option Value) (o3 : Option Value) (rb : Nat) (re : Nat) (rf : Value) (rg : Value) (σ : bS) (h : cTop_best_b73 n s0 σ = some q) : bfr MT (d + 5) M_X11_best 73 [o0, o1, o2, o3] [] [(.int s0)] (mkC 1 rb 1 re rf rg σ) (some (.int q.1), mkC 1 rb 1 re rf rg q.2) := by
  unfold cTop_best_b73 at h
  cases h
  exact bfr_ret 1 (fun _ _ => rfl)
set_option maxRecDepth 100000 in
theorem k_cTop_best (n d : Nat) (q : (Int32 × bS)) (x1 : Int32) (x2 : Int32) (x3 : Int32) (rb : Nat) (re : Nat) (rf : Value) (rg : Value) (σ : bS) (h : cTop_best n x1 x2 x3 σ = some q) : bfr MT (d + 5) M_X11_best 0 [some (.ref 0), some (.int x1), some (.int x2), some (.int x3)] [] [] (mkC 1 rb 1 re rf rg σ) (some (.int q.1), mkC 1 rb 1 re rf rg q.2) := by
  unfold cTop_best at h
  refine bfr_call 4 (d1 := d + 4) (M1 := M_X11_isGame) (vs := [(.ref 0), (.int x1), (.int x2)]) (w1 := mkC 1 rb 1 re rf rg σ) (pc2 := 6) (L2 := [some (.ref 0), some (.int x1), some (.int x2), some (.int x3)]) (J2 := []) (rest := []) (fun a => some (.int a.1)) (fun a => mkC 1 rb 1 re rf rg a.2) (fun _ _ => rfl) h (fun a ha => k_cTop_isGame n (d + 2) _ _ _ _ _ _ _ _ ha) (fun q1 _ h => ?_)
  refine bfr_br 1 (pc1 := 9) (L1 := [some (.ref 0), some (.int x1), some (.int x2), some (.int x3)]) (J1 := []) (st1 := []) (w1 := mkC 1 rb 1 re rf rg q1.2) (pc2 := 13) (L2 := [some (.ref 0), some (.int x1), some (.int x2), some (.int x3)]) (J2 := []) (st2 := []) (w2 := mkC 1 rb 1 re rf rg q1.2) (fun _ _ => rfl) h (fun h => ?_) (fun h => ?_)
  · cases h
    exact bfr_ret 2 (fun _ _ => rfl)
  · refine bfr_call 6 (d1 := d + 4) (M1 := M_X5_prepare) (vs := [(.ref 59), (.int x1), (.int x2), (.int ci_1)]) (w1 := mkC 1 rb 1 re rf rg q1.2) (pc2 := 23) (L2 := [some (.ref 0), some (.int x1), some (.int x2), some (.int x3)]) (J2 := []) (rest := []) (fun _ => none) (fun a => mkC 1 rb 1 re rf rg a) (fun _ _ => rfl) h (fun a ha => k_cRows_prepare n (d + 1) _ _ _ _ _ _ _ _ _ _ ha) (fun q2 _ h => ?_)
    refine bfr_call 3 (d1 := d + 4) (M1 := M_X0_playAll) (vs := [(.ref 68)]) (w1 := mkC 1 rb 1 re rf rg q2) (pc2 := 30) (L2 := [some (.ref 0), some (.int x1), some (.int x2), some (.int x3)]) (J2 := []) (rest := []) (fun _ => none) (fun a => mkC 1 rb 1 re rf rg a) (fun _ _ => rfl) h (fun a ha => k_cGame_playAll n (d + 0) _ _ _ _ _ _ _ ha) (fun q3 _ h => ?_)
    refine bfr_br 2 (pc1 := 34) (L1 := [some (.ref 0), some (.int x1), some (.int x2), some (.int x3)]) (J1 := []) (st1 := []) (w1 := mkC 1 rb 1 re rf rg q3) (pc2 := 42) (L2 := [some (.ref 0), some (.int x1), some (.int x2), some (.int x3)]) (J2 := []) (st2 := []) (w2 := mkC 1 rb 1 re rf rg q3) (fun _ _ => rfl) h (fun h => ?_) (fun h => ?_)
    · refine bfr_call 3 (d1 := d + 4) (M1 := M_X0_mostWorth) (vs := [(.ref 68)]) (w1 := mkC 1 rb 1 re rf rg q3) (pc2 := 41) (L2 := [some (.ref 0), some (.int x1), some (.int x2), some (.int x3)]) (J2 := []) (rest := []) (fun a => some (.int a.1)) (fun a => mkC 1 rb 1 re rf rg a.2) (fun _ _ => rfl) h (fun a ha => k_cGame_mostWorth n (d + 2) _ _ _ _ _ _ _ _ ha) (fun q4 _ h => ?_)
      cases h
      exact bfr_ret 1 (fun _ _ => rfl)
    · refine bfr_call 3 (d1 := d + 4) (M1 := M_X0_countRests) (vs := [(.ref 68)]) (w1 := mkC 1 rb 1 re rf rg q3) (pc2 := 49) (L2 := [some (.ref 0), some (.int x1), some (.int x2), some (.int x3)]) (J2 := []) (rest := []) (fun a => some (.int a.1)) (fun a => mkC 1 rb 1 re rf rg a.2) (fun _ _ => rfl) h (fun a ha => k_cGame_countRests n (d + 2) _ _ _ _ _ _ _ _ ha) (fun q5 _ h => ?_)
      refine bfr_br 1 (pc1 := 52) (L1 := [some (.ref 0), some (.int x1), some (.int x2), some (.int x3)]) (J1 := []) (st1 := []) (w1 := mkC 1 rb 1 re rf rg q5.2) (pc2 := 58) (L2 := [some (.ref 0), some (.int x1), some (.int x2), some (.int x3)]) (J2 := []) (st2 := []) (w2 := mkC 1 rb 1 re rf rg q5.2) (fun _ _ => rfl) h (fun h => ?_) (fun h => ?_)
      · refine bfr_run 2 73 [some (.ref 0), some (.int x1), some (.int x2), some (.int x3)] [] [(.int cs_m1000)] (mkC 1 rb 1 re rf rg q5.2) (fun _ _ => rfl) ?_
        exact k_cTop_best_b73 n d q _ _ _ _ _ _ _ _ _ _ h
      · refine bfr_call 3 (d1 := d + 4) (M1 := M_X0_mostWorth) (vs := [(.ref 68)]) (w1 := mkC 1 rb 1 re rf rg q5.2) (pc2 := 65) (L2 := [some (.ref 0), some (.int x1), some (.int x2), some (.int x3)]) (J2 := []) (rest := []) (fun a => some (.int a.1)) (fun a => mkC 1 rb 1 re rf rg a.2) (fun _ _ => rfl) h (fun a ha => k_cGame_mostWorth n (d + 2) _ _ _ _ _ _ _ _ ha) (fun q6 _ h => ?_)
        refine bfr_call 3 (d1 := d + 4) (M1 := M_X0_leastRestingWorth) (vs := [(.ref 68)]) (w1 := mkC 1 rb 1 re rf rg q6.2) (pc2 := 72) (L2 := [some (.ref 0), some (.int x1), some (.int x2), some (.int x3)]) (J2 := []) (rest := [(.int q6.1)]) (fun a => some (.int a.1)) (fun a => mkC 1 rb 1 re rf rg a.2) (fun _ _ => rfl) h (fun a ha => k_cGame_leastRestingWorth n (d + 2) _ _ _ _ _ _ _ _ ha) (fun q7 _ h => ?_)
        refine bfr_run 1 73 [some (.ref 0), some (.int x1), some (.int x2), some (.int x3)] [] [(.int (q6.1 - q7.1))] (mkC 1 rb 1 re rf rg q7.2) (fun _ _ => rfl) ?_
        exact k_cTop_best_b73 n d q _ _ _ _ _ _ _ _ _ _ h
set_option maxRecDepth 100000 in
theorem k_cMarket_lineUp_b42 (n d : Nat) (r7 : Int32 → Int32 → bS → Option bS) (q : bS) (hr7 : ∀ (x1 : Int32) (x2 : Int32) (ra : Nat) (rb : Nat) (rc : Nat) (re : Nat) (rf : Value) (rg : Value) (σ : bS), r7 x1 x2 σ = some q → bfr MT (d + 0) M_X3_lineUp 7 [some (.ref 71), some (.int x1), some (.int x2)] [] [] (mkC ra rb rc re rf rg σ) (none, mkC ra rb rc re rf rg q)) (x1 : Int32) (x2 : Int32) (ra : Nat) (rb : Nat) (rc : Nat) (re : Nat) (rf : Value) (rg : Value) (σ : bS) (h : cMarket_lineUp_b42 n r7 x1 x2 σ = some q) : bfr MT (d + 0) M_X3_lineUp 42 [some (.ref 71), some (.int x1), some (.int x2)] [] [] (mkC ra rb rc re rf rg σ) (none, mkC ra rb rc re rf rg q) := by
  unfold cMarket_lineUp_b42 at h
  refine bfr_run 1 45 [some (.ref 71), some (.int x1), some (.int (x2 + ci_1))] [] [] (mkC ra rb rc re rf rg σ) (fun _ _ => rfl) ?_
  refine bfr_run 1 7 [some (.ref 71), some (.int x1), some (.int (x2 + ci_1))] [] [] (mkC ra rb rc re rf rg σ) (fun _ _ => rfl) ?_
  exact hr7 _ _ _ _ _ _ _ _ _ h
set_option maxRecDepth 100000 in
theorem k_cMarket_lineUp_b7 (n d : Nat) (q : bS) : ∀ (k : Nat) (x1 : Int32) (x2 : Int32) (ra : Nat) (rb : Nat) (rc : Nat) (re : Nat) (rf : Value) (rg : Value) (σ : bS), cMarket_lineUp_b7 n k x1 x2 σ = some q → bfr MT (d + 0) M_X3_lineUp 7 [some (.ref 71), some (.int x1), some (.int x2)] [] [] (mkC ra rb rc re rf rg σ) (none, mkC ra rb rc re rf rg q) := by
  intro k
  induction k with
  | zero => intro x1 x2 ra rb rc re rf rg σ h; exact bno h
  | succ k ih =>
    intro x1 x2 ra rb rc re rf rg σ h
    unfold cMarket_lineUp_b7 at h
    refine bfr_br 3 (pc1 := 48) (L1 := [some (.ref 71), some (.int x1), some (.int x2)]) (J1 := []) (st1 := []) (w1 := mkC ra rb rc re rf rg σ) (pc2 := 13) (L2 := [some (.ref 71), some (.int x1), some (.int x2)]) (J2 := []) (st2 := []) (w2 := mkC ra rb rc re rf rg σ) (fun _ _ => rfl) h (fun h => ?_) (fun h => ?_)
    · cases h
      exact bfr_ret 1 (fun _ _ => rfl)
    · refine bfr_run 6 19 [some (.ref 71), some (.int x1), some (.int x2)] [] [(.int ci_1), (.int ((x1 >>> (x2 &&& 31)) &&& ci_1))] (mkC ra rb rc re rf rg σ) (fun _ _ => rfl) ?_
      refine bfr_br 1 (pc1 := 22) (L1 := [some (.ref 71), some (.int x1), some (.int x2)]) (J1 := []) (st1 := []) (w1 := mkC ra rb rc re rf rg σ) (pc2 := 42) (L2 := [some (.ref 71), some (.int x1), some (.int x2)]) (J2 := []) (st2 := []) (w2 := mkC ra rb rc re rf rg σ) (fun _ _ => rfl) h (fun h => ?_) (fun h => ?_)
      · refine bfr_in (i := (sI σ 71 5)) (m := 7) 6 (pc1 := 32) (L1 := [some (.ref 71), some (.int x1), some (.int x2)]) (J1 := []) (st1 := []) (w1 := ((mkC ra rb rc re rf rg σ).set 74 (.inl (0, 7, upd (σ.2.1 74) ((sI σ 71 5)).toNatClampNeg x2)))) (fun _ _ => rfl) h (fun h => ?_)
        rw [mkC_A74]
        refine bfr_run 6 42 [some (.ref 71), some (.int x1), some (.int x2)] [] [] ((mkC ra rb rc re rf rg (uA σ 74 (sI σ 71 5) x2)).set 71 (.inr (.inr (3, (mkC_71  ra rb rc re rf rg (uA σ 74 (sI σ 71 5) x2)).set 5 (.int ((sI (uA σ 74 (sI σ 71 5) x2) 71 5) + ci_1)))))) (fun _ _ => rfl) ?_
        rw [mkC_I71_5]
        exact k_cMarket_lineUp_b42 n d _ q (ih) _ _ _ _ _ _ _ _ _ h
      · exact k_cMarket_lineUp_b42 n d _ q (ih) _ _ _ _ _ _ _ _ _ h
set_option maxRecDepth 100000 in
theorem k_cMarket_lineUp (n d : Nat) (q : bS) (x1 : Int32) (ra : Nat) (rb : Nat) (rc : Nat) (re : Nat) (rf : Value) (rg : Value) (σ : bS) (h : cMarket_lineUp n x1 σ = some q) : bfr MT (d + 0) M_X3_lineUp 0 [some (.ref 71), some (.int x1), none] [] [] (mkC ra rb rc re rf rg σ) (none, mkC ra rb rc re rf rg q) := by
  unfold cMarket_lineUp at h
  refine bfr_run 3 5 [some (.ref 71), some (.int x1), none] [] [] ((mkC ra rb rc re rf rg σ).set 71 (.inr (.inr (3, (mkC_71  ra rb rc re rf rg σ).set 5 (.int ci_0))))) (fun _ _ => rfl) ?_
  rw [mkC_I71_5]
  refine bfr_run 2 7 [some (.ref 71), some (.int x1), some (.int ci_0)] [] [] (mkC ra rb rc re rf rg (uI σ 71 5 ci_0)) (fun _ _ => rfl) ?_
  exact k_cMarket_lineUp_b7 n d q _ _ _ _ _ _ _ _ _ _ h
set_option maxRecDepth 100000 in
theorem k_cMarket_findNeeds_b98 (n d : Nat) (r61 : Int32 → bS → Option (Int32 × bS)) (q : (Int32 × bS)) (hr61 : ∀ (x3 : Int32) (o1 : Option Value) (ra : Nat) (rb : Nat) (re : Nat) (rf : Value) (rg : Value) (σ : bS), r61 x3 σ = some q → bfr MT (d + 0) M_X3_findNeeds 61 [some (.ref 71), o1, some (.ref 6), some (.int x3)] [] [] (mkC ra rb 1 re rf rg σ) (some (.int q.1), mkC ra rb 1 re rf rg q.2)) (x3 : Int32) (s1 : Int32) (s2 : Int32) (o1 : Option Value) (ra : Nat) (rb : Nat) (re : Nat) (rf : Value) (rg : Value) (σ : bS) (h : cMarket_findNeeds_b98 n r61 x3 s1 s2 σ = some q) : bfr MT (d + 0) M_X3_findNeeds 98 [some (.ref 71), o1, some (.ref 6), some (.int x3)] [] [(.int s2), (.int s1), (.ref 73)] (mkC ra rb 1 re rf rg σ) (some (.int q.1), mkC ra rb 1 re rf rg q.2) := by
  unfold cMarket_findNeeds_b98 at h
  refine bfr_in (i := s1) (m := 7) 1 (pc1 := 99) (L1 := [some (.ref 71), o1, some (.ref 6), some (.int x3)]) (J1 := []) (st1 := []) (w1 := ((mkC ra rb 1 re rf rg σ).set 73 (.inl (0, 7, upd (σ.2.1 73) (s1).toNatClampNeg s2)))) (fun _ _ => rfl) h (fun h => ?_)
  rw [mkC_A73]
  refine bfr_run 1 102 [some (.ref 71), o1, some (.ref 6), some (.int (x3 + ci_1))] [] [] (mkC ra rb 1 re rf rg (uA σ 73 s1 s2)) (fun _ _ => rfl) ?_
  refine bfr_run 1 61 [some (.ref 71), o1, some (.ref 6), some (.int (x3 + ci_1))] [] [] (mkC ra rb 1 re rf rg (uA σ 73 s1 s2)) (fun _ _ => rfl) ?_
  exact hr61 _ _ _ _ _ _ _ _ h
set_option maxRecDepth 100000 in
theorem k_cMarket_findNeeds_b61 (n d : Nat) (q : (Int32 × bS)) : ∀ (k : Nat) (x3 : Int32) (o1 : Option Value) (ra : Nat) (rb : Nat) (re : Nat) (rf : Value) (rg : Value) (σ : bS), cMarket_findNeeds_b61 n k x3 σ = some q → bfr MT (d + 0) M_X3_findNeeds 61 [some (.ref 71), o1, some (.ref 6), some (.int x3)] [] [] (mkC ra rb 1 re rf rg σ) (some (.int q.1), mkC ra rb 1 re rf rg q.2) := by
  intro k
  induction k with
  | zero => intro x3 o1 ra rb re rf rg σ h; exact bno h
  | succ k ih =>
    intro x3 o1 ra rb re rf rg σ h
    unfold cMarket_findNeeds_b61 at h
    refine bfr_br 4 (pc1 := 105) (L1 := [some (.ref 71), o1, some (.ref 6), some (.int x3)]) (J1 := []) (st1 := []) (w1 := mkC ra rb 1 re rf rg σ) (pc2 := 69) (L2 := [some (.ref 71), o1, some (.ref 6), some (.int x3)]) (J2 := []) (st2 := []) (w2 := mkC ra rb 1 re rf rg σ) (fun _ _ => rfl) h (fun h => ?_) (fun h => ?_)
    · exact bfr_bz (mk := mkC ra rb 1 re rf rg) 2 (fun _ _ => rfl) h
    · refine bfr_run 6 77 [some (.ref 71), o1, some (.ref 6), some (.int x3)] [] [(.int (x3 + ci_1)), (.int x3), (.ref 73)] (mkC ra rb 1 re rf rg σ) (fun _ _ => rfl) ?_
      refine bfr_br 3 (pc1 := 97) (L1 := [some (.ref 71), o1, some (.ref 6), some (.int x3)]) (J1 := []) (st1 := [(.int x3), (.ref 73)]) (w1 := mkC ra rb 1 re rf rg σ) (pc2 := 84) (L2 := [some (.ref 71), o1, some (.ref 6), some (.int x3)]) (J2 := []) (st2 := [(.int x3), (.ref 73)]) (w2 := mkC ra rb 1 re rf rg σ) (fun _ _ => rfl) h (fun h => ?_) (fun h => ?_)
      · refine bfr_run 1 98 [some (.ref 71), o1, some (.ref 6), some (.int x3)] [] [(.int ci_m1), (.int x3), (.ref 73)] (mkC ra rb 1 re rf rg σ) (fun _ _ => rfl) ?_
        exact k_cMarket_findNeeds_b98 n d _ q (ih) _ _ _ _ _ _ _ _ _ _ h
      · refine bfr_run 6 92 [some (.ref 71), o1, some (.ref 6), some (.int x3)] [] [(.int (x3 + ci_1)), (.ref 74), (.ref 6), (.int x3), (.ref 73)] (mkC ra rb 1 re rf rg σ) (fun _ _ => rfl) ?_
        refine bfr_in (i := (x3 + ci_1)) (m := 7) 1 (pc1 := 93) (L1 := [some (.ref 71), o1, some (.ref 6), some (.int x3)]) (J1 := []) (st1 := [(.int (sA σ 74 (x3 + ci_1))), (.ref 6), (.int x3), (.ref 73)]) (w1 := mkC ra rb 1 re rf rg σ) (fun _ _ => rfl) h (fun h => ?_)
        refine bfr_in (i := (sA σ 74 (x3 + ci_1))) (m := 7) 1 (pc1 := 94) (L1 := [some (.ref 71), o1, some (.ref 6), some (.int x3)]) (J1 := []) (st1 := [(.int (sA σ 6 (sA σ 74 (x3 + ci_1)))), (.int x3), (.ref 73)]) (w1 := mkC ra rb 1 re rf rg σ) (fun _ _ => rfl) h (fun h => ?_)
        refine bfr_run 1 98 [some (.ref 71), o1, some (.ref 6), some (.int x3)] [] [(.int (sA σ 6 (sA σ 74 (x3 + ci_1)))), (.int x3), (.ref 73)] (mkC ra rb 1 re rf rg σ) (fun _ _ => rfl) ?_
        exact k_cMarket_findNeeds_b98 n d _ q (ih) _ _ _ _ _ _ _ _ _ _ h
set_option maxRecDepth 100000 in
theorem k_cMarket_findNeeds_b59 (n d : Nat) (q : (Int32 × bS)) (o1 : Option Value) (o3 : Option Value) (ra : Nat) (rb : Nat) (re : Nat) (rf : Value) (rg : Value) (σ : bS) (h : cMarket_findNeeds_b59 n σ = some q) : bfr MT (d + 0) M_X3_findNeeds 59 [some (.ref 71), o1, some (.ref 6), o3] [] [] (mkC ra rb 1 re rf rg σ) (some (.int q.1), mkC ra rb 1 re rf rg q.2) := by
  unfold cMarket_findNeeds_b59 at h
  refine bfr_run 2 61 [some (.ref 71), o1, some (.ref 6), some (.int ci_0)] [] [] (mkC ra rb 1 re rf rg σ) (fun _ _ => rfl) ?_
  exact k_cMarket_findNeeds_b61 n d q _ _ _ _ _ _ _ _ _ h
set_option maxRecDepth 100000 in
theorem k_cMarket_findNeeds_b57 (n d : Nat) (q : (Int32 × bS)) (o0 : Option Value) (o1 : Option Value) (o2 : Option Value) (o3 : Option Value) (ra : Nat) (rb : Nat) (re : Nat) (rf : Value) (rg : Value) (σ : bS) (h : cMarket_findNeeds_b57 n σ = some q) : bfr MT (d + 0) M_X3_findNeeds 57 [o0, o1, o2, o3] [] [] (mkC ra rb 1 re rf rg σ) (some (.int q.1), mkC ra rb 1 re rf rg q.2) := by
  unfold cMarket_findNeeds_b57 at h
  exact bfr_bz (mk := mkC ra rb 1 re rf rg) 2 (fun _ _ => rfl) h
set_option maxRecDepth 100000 in
theorem k_cMarket_findNeeds (n d : Nat) (q : (Int32 × bS)) (x1 : Int32) (ra : Nat) (rb : Nat) (re : Nat) (rf : Value) (rg : Value) (σ : bS) (h : cMarket_findNeeds n x1 σ = some q) : bfr MT (d + 0) M_X3_findNeeds 0 [some (.ref 71), some (.int x1), none, none] [] [] (mkC ra rb 1 re rf rg σ) (some (.int q.1), mkC ra rb 1 re rf rg q.2) := by
  unfold cMarket_findNeeds at h
  refine bfr_run 6 12 [some (.ref 71), some (.int x1), some (.ref 6), none] [] [(.int x1)] (mkC ra rb 1 re rf rg σ) (fun _ _ => rfl) ?_
  refine bfr_br 1 (pc1 := 45) (L1 := [some (.ref 71), some (.int x1), some (.ref 6), none]) (J1 := []) (st1 := []) (w1 := mkC ra rb 1 re rf rg σ) (pc2 := 15) (L2 := [some (.ref 71), some (.int x1), some (.ref 6), none]) (J2 := []) (st2 := []) (w2 := mkC ra rb 1 re rf rg σ) (fun _ _ => rfl) h (fun h => ?_) (fun h => ?_)
  · refine bfr_in (i := ci_0) (m := 7) 5 (pc1 := 52) (L1 := [some (.ref 71), some (.int x1), some (.ref 6), none]) (J1 := []) (st1 := [(.int (sA σ 74 ci_0)), (.ref 6)]) (w1 := mkC ra rb 1 re rf rg σ) (fun _ _ => rfl) h (fun h => ?_)
    refine bfr_in (i := (sA σ 74 ci_0)) (m := 7) 1 (pc1 := 53) (L1 := [some (.ref 71), some (.int x1), some (.ref 6), none]) (J1 := []) (st1 := [(.int (sA σ 6 (sA σ 74 ci_0)))]) (w1 := mkC ra rb 1 re rf rg σ) (fun _ _ => rfl) h (fun h => ?_)
    refine bfr_br 2 (pc1 := 59) (L1 := [some (.ref 71), some (.int x1), some (.ref 6), none]) (J1 := []) (st1 := []) (w1 := mkC ra rb 1 re rf rg σ) (pc2 := 57) (L2 := [some (.ref 71), some (.int x1), some (.ref 6), none]) (J2 := []) (st2 := []) (w2 := mkC ra rb 1 re rf rg σ) (fun _ _ => rfl) h (fun h => ?_) (fun h => ?_)
    · exact k_cMarket_findNeeds_b59 n d q _ _ _ _ _ _ _ _ h
    · exact k_cMarket_findNeeds_b57 n d q _ _ _ _ _ _ _ _ _ _ h
  · refine bfr_br 4 (pc1 := 57) (L1 := [some (.ref 71), some (.int x1), some (.ref 6), none]) (J1 := []) (st1 := []) (w1 := mkC ra rb 1 re rf rg σ) (pc2 := 23) (L2 := [some (.ref 71), some (.int x1), some (.ref 6), none]) (J2 := []) (st2 := []) (w2 := mkC ra rb 1 re rf rg σ) (fun _ _ => rfl) h (fun h => ?_) (fun h => ?_)
    · exact k_cMarket_findNeeds_b57 n d q _ _ _ _ _ _ _ _ _ _ h
    · refine bfr_in (i := ci_0) (m := 7) 5 (pc1 := 30) (L1 := [some (.ref 71), some (.int x1), some (.ref 6), none]) (J1 := []) (st1 := [(.int (sA σ 74 ci_0)), (.ref 6)]) (w1 := mkC ra rb 1 re rf rg σ) (fun _ _ => rfl) h (fun h => ?_)
      refine bfr_in (i := (sA σ 74 ci_0)) (m := 7) 1 (pc1 := 31) (L1 := [some (.ref 71), some (.int x1), some (.ref 6), none]) (J1 := []) (st1 := [(.int (sA σ 6 (sA σ 74 ci_0)))]) (w1 := mkC ra rb 1 re rf rg σ) (fun _ _ => rfl) h (fun h => ?_)
      refine bfr_in (i := ci_1) (m := 7) 5 (pc1 := 38) (L1 := [some (.ref 71), some (.int x1), some (.ref 6), none]) (J1 := []) (st1 := [(.int (sA σ 74 ci_1)), (.ref 6), (.int (sA σ 6 (sA σ 74 ci_0)))]) (w1 := mkC ra rb 1 re rf rg σ) (fun _ _ => rfl) h (fun h => ?_)
      refine bfr_in (i := (sA σ 74 ci_1)) (m := 7) 1 (pc1 := 39) (L1 := [some (.ref 71), some (.int x1), some (.ref 6), none]) (J1 := []) (st1 := [(.int (sA σ 6 (sA σ 74 ci_1))), (.int (sA σ 6 (sA σ 74 ci_0)))]) (w1 := mkC ra rb 1 re rf rg σ) (fun _ _ => rfl) h (fun h => ?_)
      refine bfr_br 1 (pc1 := 59) (L1 := [some (.ref 71), some (.int x1), some (.ref 6), none]) (J1 := []) (st1 := []) (w1 := mkC ra rb 1 re rf rg σ) (pc2 := 42) (L2 := [some (.ref 71), some (.int x1), some (.ref 6), none]) (J2 := []) (st2 := []) (w2 := mkC ra rb 1 re rf rg σ) (fun _ _ => rfl) h (fun h => ?_) (fun h => ?_)
      · exact k_cMarket_findNeeds_b59 n d q _ _ _ _ _ _ _ _ h
      · refine bfr_run 1 57 [some (.ref 71), some (.int x1), some (.ref 6), none] [] [] (mkC ra rb 1 re rf rg σ) (fun _ _ => rfl) ?_
        exact k_cMarket_findNeeds_b57 n d q _ _ _ _ _ _ _ _ _ _ h
set_option maxRecDepth 100000 in
theorem k_cGoing_fancyAs (n d : Nat) (q : (Int32 × bS)) (x1 : Int32) (x2 : Int32) (x3 : Int32) (ra : Nat) (rb : Nat) (re : Nat) (rf : Value) (rg : Value) (σ : bS) (h : cGoing_fancyAs n x1 x2 x3 σ = some q) : bfr MT (d + 2) M_X1_fancyAs 0 [some (.ref 27), some (.int x1), some (.int x2), some (.int x3)] [] [] (mkC ra rb 1 re rf rg σ) (some (.int q.1), mkC ra rb 1 re rf rg q.2) := by
  unfold cGoing_fancyAs at h
  refine bfr_br 4 (pc1 := 12) (L1 := [some (.ref 27), some (.int x1), some (.int x2), some (.int x3)]) (J1 := []) (st1 := []) (w1 := mkC ra rb 1 re rf rg σ) (pc2 := 10) (L2 := [some (.ref 27), some (.int x1), some (.int x2), some (.int x3)]) (J2 := []) (st2 := []) (w2 := mkC ra rb 1 re rf rg σ) (fun _ _ => rfl) h (fun h => ?_) (fun h => ?_)
  · refine bfr_call 5 (d1 := d + 1) (M1 := M_X1_look) (vs := [(.ref 27), (.int x1), (.int x2), (.int x3)]) (w1 := mkC ra rb 1 re rf rg σ) (pc2 := 19) (L2 := [some (.ref 27), some (.int x1), some (.int x2), some (.int x3)]) (J2 := []) (rest := []) (fun _ => none) (fun a => mkC ra rb 1 re rf rg a) (fun _ _ => rfl) h (fun a ha => k_cGoing_look n (d + 0) _ _ _ _ _ _ _ _ _ _ ha) (fun q1 _ h => ?_)
    refine bfr_run 6 33 [some (.ref 27), some (.int x1), some (.int x2), some (.int x3)] [] [(.int (sI q1 1 14)), (.ref 10)] (mkC ra rb 1 re rf rg q1) (fun _ _ => rfl) ?_
    refine bfr_call 1 (d1 := d + 1) (M1 := M_X2_valueOf) (vs := [(.ref 10), (.int (sI q1 1 14))]) (w1 := mkC ra rb 1 re rf rg q1) (pc2 := 36) (L2 := [some (.ref 27), some (.int x1), some (.int x2), some (.int x3)]) (J2 := []) (rest := []) (fun a => some (.int a.1)) (fun a => mkC ra rb 1 re rf rg a.2) (fun _ _ => rfl) h (fun a ha => k_cLaws_valueOf n (d + 0) _ _ _ _ _ _ _ _ _ ha) (fun q2 _ h => ?_)
    refine bfr_call 3 (d1 := d + 1) (M1 := M_X1_held) (vs := [(.int q2.1), (.int cb_m99), (.int cb_99)]) (w1 := mkC ra rb 1 re rf rg q2.2) (pc2 := 43) (L2 := [some (.ref 27), some (.int x1), some (.int x2), some (.int x3)]) (J2 := []) (rest := []) (fun a => some (.int a.1)) (fun a => mkC ra rb 1 re rf rg a.2) (fun _ _ => rfl) h (fun a ha => k_cGoing_held n (d + 0) _ _ _ _ _ _ _ _ _ _ _ ha) (fun q3 _ h => ?_)
    cases h
    exact bfr_ret 1 (fun _ _ => rfl)
  · cases h
    exact bfr_ret 2 (fun _ _ => rfl)
set_option maxRecDepth 100000 in
theorem k_cMarket_askFancies_b12 (n d : Nat) (r2 : Int32 → bS → Option bS) (q : bS) (hr2 : ∀ (x1 : Int32) (o2 : Option Value) (ra : Nat) (rb : Nat) (re : Nat) (rf : Value) (rg : Value) (σ : bS), r2 x1 σ = some q → bfr MT (d + 3) M_X3_askFancies 2 [some (.ref 71), some (.int x1), o2] [] [] (mkC ra rb 1 re rf rg σ) (none, mkC ra rb 1 re rf rg q)) : ∀ (k : Nat) (x1 : Int32) (x2 : Int32) (ra : Nat) (rb : Nat) (re : Nat) (rf : Value) (rg : Value) (σ : bS), cMarket_askFancies_b12 n r2 k x1 x2 σ = some q → bfr MT (d + 3) M_X3_askFancies 12 [some (.ref 71), some (.int x1), some (.int x2)] [] [] (mkC ra rb 1 re rf rg σ) (none, mkC ra rb 1 re rf rg q) := by
  intro k
  induction k with
  | zero => intro x1 x2 ra rb re rf rg σ h; exact bno h
  | succ k ih =>
    intro x1 x2 ra rb re rf rg σ h
    unfold cMarket_askFancies_b12 at h
    refine bfr_br 4 (pc1 := 60) (L1 := [some (.ref 71), some (.int x1), some (.int x2)]) (J1 := []) (st1 := []) (w1 := mkC ra rb 1 re rf rg σ) (pc2 := 20) (L2 := [some (.ref 71), some (.int x1), some (.int x2)]) (J2 := []) (st2 := []) (w2 := mkC ra rb 1 re rf rg σ) (fun _ _ => rfl) h (fun h => ?_) (fun h => ?_)
    · refine bfr_run 1 63 [some (.ref 71), some (.int (x1 + ci_1)), some (.int x2)] [] [] (mkC ra rb 1 re rf rg σ) (fun _ _ => rfl) ?_
      refine bfr_run 1 2 [some (.ref 71), some (.int (x1 + ci_1)), some (.int x2)] [] [] (mkC ra rb 1 re rf rg σ) (fun _ _ => rfl) ?_
      exact hr2 _ _ _ _ _ _ _ _ h
    · refine bfr_run 6 29 [some (.ref 71), some (.int x1), some (.int x2)] [] [(.int x2), (.int (x1 * cb_6)), (.ref 72)] (mkC ra rb 1 re rf rg σ) (fun _ _ => rfl) ?_
      refine bfr_run 6 39 [some (.ref 71), some (.int x1), some (.int x2)] [] [(.int x1), (.ref 74), (.ref 27), (.int ((x1 * cb_6) + x2)), (.ref 72)] (mkC ra rb 1 re rf rg σ) (fun _ _ => rfl) ?_
      refine bfr_in (i := x1) (m := 7) 1 (pc1 := 40) (L1 := [some (.ref 71), some (.int x1), some (.int x2)]) (J1 := []) (st1 := [(.int (sA σ 74 x1)), (.ref 27), (.int ((x1 * cb_6) + x2)), (.ref 72)]) (w1 := mkC ra rb 1 re rf rg σ) (fun _ _ => rfl) h (fun h => ?_)
      refine bfr_run 6 50 [some (.ref 71), some (.int x1), some (.int x2)] [] [(.int ((sI σ 27 2) + x1)), (.int x2), (.int (sA σ 74 x1)), (.ref 27), (.int ((x1 * cb_6) + x2)), (.ref 72)] (mkC ra rb 1 re rf rg σ) (fun _ _ => rfl) ?_
      refine bfr_call 1 (d1 := d + 2) (M1 := M_X1_fancyAs) (vs := [(.ref 27), (.int (sA σ 74 x1)), (.int x2), (.int ((sI σ 27 2) + x1))]) (w1 := mkC ra rb 1 re rf rg σ) (pc2 := 53) (L2 := [some (.ref 71), some (.int x1), some (.int x2)]) (J2 := []) (rest := [(.int ((x1 * cb_6) + x2)), (.ref 72)]) (fun a => some (.int a.1)) (fun a => mkC ra rb 1 re rf rg a.2) (fun _ _ => rfl) h (fun a ha => k_cGoing_fancyAs n (d + 0) _ _ _ _ _ _ _ _ _ _ ha) (fun q1 _ h => ?_)
      refine bfr_in (i := ((x1 * cb_6) + x2)) (m := 42) 1 (pc1 := 54) (L1 := [some (.ref 71), some (.int x1), some (.int x2)]) (J1 := []) (st1 := []) (w1 := ((mkC ra rb 1 re rf rg q1.2).set 72 (.inl (0, 42, upd (q1.2.2.1 72) (((x1 * cb_6) + x2)).toNatClampNeg q1.1)))) (fun _ _ => rfl) h (fun h => ?_)
      rw [mkC_A72]
      refine bfr_run 1 57 [some (.ref 71), some (.int x1), some (.int (x2 + ci_1))] [] [] (mkC ra rb 1 re rf rg (uA q1.2 72 ((x1 * cb_6) + x2) q1.1)) (fun _ _ => rfl) ?_
      refine bfr_run 1 12 [some (.ref 71), some (.int x1), some (.int (x2 + ci_1))] [] [] (mkC ra rb 1 re rf rg (uA q1.2 72 ((x1 * cb_6) + x2) q1.1)) (fun _ _ => rfl) ?_
      exact ih _ _ _ _ _ _ _ _ h
set_option maxRecDepth 100000 in
theorem k_cMarket_askFancies_b2 (n d : Nat) (q : bS) : ∀ (k : Nat) (x1 : Int32) (o2 : Option Value) (ra : Nat) (rb : Nat) (re : Nat) (rf : Value) (rg : Value) (σ : bS), cMarket_askFancies_b2 n k x1 σ = some q → bfr MT (d + 3) M_X3_askFancies 2 [some (.ref 71), some (.int x1), o2] [] [] (mkC ra rb 1 re rf rg σ) (none, mkC ra rb 1 re rf rg q) := by
  intro k
  induction k with
  | zero => intro x1 o2 ra rb re rf rg σ h; exact bno h
  | succ k ih =>
    intro x1 o2 ra rb re rf rg σ h
    unfold cMarket_askFancies_b2 at h
    refine bfr_br 4 (pc1 := 66) (L1 := [some (.ref 71), some (.int x1), o2]) (J1 := []) (st1 := []) (w1 := mkC ra rb 1 re rf rg σ) (pc2 := 10) (L2 := [some (.ref 71), some (.int x1), o2]) (J2 := []) (st2 := []) (w2 := mkC ra rb 1 re rf rg σ) (fun _ _ => rfl) h (fun h => ?_) (fun h => ?_)
    · cases h
      exact bfr_ret 1 (fun _ _ => rfl)
    · refine bfr_run 2 12 [some (.ref 71), some (.int x1), some (.int ci_0)] [] [] (mkC ra rb 1 re rf rg σ) (fun _ _ => rfl) ?_
      exact k_cMarket_askFancies_b12 n d _ q (ih) _ _ _ _ _ _ _ _ _ h
set_option maxRecDepth 100000 in
theorem k_cMarket_askFancies (n d : Nat) (q : bS) (ra : Nat) (rb : Nat) (re : Nat) (rf : Value) (rg : Value) (σ : bS) (h : cMarket_askFancies n σ = some q) : bfr MT (d + 3) M_X3_askFancies 0 [some (.ref 71), none, none] [] [] (mkC ra rb 1 re rf rg σ) (none, mkC ra rb 1 re rf rg q) := by
  unfold cMarket_askFancies at h
  refine bfr_run 2 2 [some (.ref 71), some (.int ci_0), none] [] [] (mkC ra rb 1 re rf rg σ) (fun _ _ => rfl) ?_
  exact k_cMarket_askFancies_b2 n d q _ _ _ _ _ _ _ _ _ h
set_option maxRecDepth 100000 in
theorem k_cj_fill_75_b5 (n d : Nat) (q : bS) : ∀ (k : Nat) (x1 : Int32) (x2 : Int32) (x3 : Int32) (ra : Nat) (rb : Nat) (rc : Nat) (re : Nat) (rf : Value) (rg : Value) (σ : bS), cj_fill_75_b5 n k x1 x2 x3 σ = some q → bfr MT (d + 0) M_J7_fill_53178 5 [some (.ref 75), some (.int x1), some (.int x2), some (.int x3)] [] [] (mkC ra rb rc re rf rg σ) (none, mkC ra rb rc re rf rg q) := by
  intro k
  induction k with
  | zero => intro x1 x2 x3 ra rb rc re rf rg σ h; exact bno h
  | succ k ih =>
    intro x1 x2 x3 ra rb rc re rf rg σ h
    unfold cj_fill_75_b5 at h
    refine bfr_br 3 (pc1 := 20) (L1 := [some (.ref 75), some (.int x1), some (.int x2), some (.int x3)]) (J1 := []) (st1 := []) (w1 := mkC ra rb rc re rf rg σ) (pc2 := 10) (L2 := [some (.ref 75), some (.int x1), some (.int x2), some (.int x3)]) (J2 := []) (st2 := []) (w2 := mkC ra rb rc re rf rg σ) (fun _ _ => rfl) h (fun h => ?_) (fun h => ?_)
    · cases h
      exact bfr_ret 1 (fun _ _ => rfl)
    · refine bfr_in (i := x2) (m := 6) 4 (pc1 := 14) (L1 := [some (.ref 75), some (.int x1), some (.int x2), some (.int x3)]) (J1 := []) (st1 := []) (w1 := ((mkC ra rb rc re rf rg σ).set 75 (.inl (0, 6, upd (σ.2.1 75) (x2).toNatClampNeg x1)))) (fun _ _ => rfl) h (fun h => ?_)
      rw [mkC_A75]
      refine bfr_run 1 17 [some (.ref 75), some (.int x1), some (.int (x2 + ci_1)), some (.int x3)] [] [] (mkC ra rb rc re rf rg (uA σ 75 x2 x1)) (fun _ _ => rfl) ?_
      refine bfr_run 1 5 [some (.ref 75), some (.int x1), some (.int (x2 + ci_1)), some (.int x3)] [] [] (mkC ra rb rc re rf rg (uA σ 75 x2 x1)) (fun _ _ => rfl) ?_
      exact ih _ _ _ _ _ _ _ _ _ _ h
set_option maxRecDepth 100000 in
theorem k_cj_fill_75 (n d : Nat) (q : bS) (x1 : Int32) (ra : Nat) (rb : Nat) (rc : Nat) (re : Nat) (rf : Value) (rg : Value) (σ : bS) (h : cj_fill_75 n x1 σ = some q) : bfr MT (d + 0) M_J7_fill_53178 0 [some (.ref 75), some (.int x1), none, none] [] [] (mkC ra rb rc re rf rg σ) (none, mkC ra rb rc re rf rg q) := by
  unfold cj_fill_75 at h
  refine bfr_run 5 5 [some (.ref 75), some (.int x1), some (.int ci_0), some (.int cn_6)] [] [] (mkC ra rb rc re rf rg σ) (fun _ _ => rfl) ?_
  exact k_cj_fill_75_b5 n d q _ _ _ _ _ _ _ _ _ _ _ h
set_option maxRecDepth 100000 in
theorem k_cMarket_liking_b18 (n d : Nat) (q : (Int32 × bS)) (s0 : Int32) (o0 : Option Value) (o1 : Option Value) (o2 : Option Value) (ra : Nat) (rb : Nat) (rc : Nat) (re : Nat) (rf : Value) (rg : Value) (σ : bS) (h : cMarket_liking_b18 n s0 σ = some q) : bfr MT (d + 0) M_X3_liking 18 [o0, o1, o2] [] [(.int s0)] (mkC ra rb rc re rf rg σ) (some (.int q.1), mkC ra rb rc re rf rg q.2) := by
  unfold cMarket_liking_b18 at h
  cases h
  exact bfr_ret 1 (fun _ _ => rfl)
set_option maxRecDepth 100000 in
theorem k_cMarket_liking (n d : Nat) (q : (Int32 × bS)) (x1 : Int32) (x2 : Int32) (ra : Nat) (rb : Nat) (rc : Nat) (re : Nat) (rf : Value) (rg : Value) (σ : bS) (h : cMarket_liking n x1 x2 σ = some q) : bfr MT (d + 0) M_X3_liking 0 [some (.ref 71), some (.int x1), some (.int x2)] [] [] (mkC ra rb rc re rf rg σ) (some (.int q.1), mkC ra rb rc re rf rg q.2) := by
  unfold cMarket_liking at h
  refine bfr_run 6 9 [some (.ref 71), some (.int x1), some (.int x2)] [] [(.int x2), (.int (x1 * cb_6)), (.ref 72)] (mkC ra rb rc re rf rg σ) (fun _ _ => rfl) ?_
  refine bfr_in (i := ((x1 * cb_6) + x2)) (m := 42) 2 (pc1 := 11) (L1 := [some (.ref 71), some (.int x1), some (.int x2)]) (J1 := []) (st1 := [(.int (sA σ 72 ((x1 * cb_6) + x2)))]) (w1 := mkC ra rb rc re rf rg σ) (fun _ _ => rfl) h (fun h => ?_)
  refine bfr_in (i := x2) (m := 6) 4 (pc1 := 17) (L1 := [some (.ref 71), some (.int x1), some (.int x2)]) (J1 := []) (st1 := [(.int (sA σ 75 x2)), (.int (sA σ 72 ((x1 * cb_6) + x2)))]) (w1 := mkC ra rb rc re rf rg σ) (fun _ _ => rfl) h (fun h => ?_)
  refine bfr_run 1 18 [some (.ref 71), some (.int x1), some (.int x2)] [] [(.int ((sA σ 72 ((x1 * cb_6) + x2)) - (sA σ 75 x2)))] (mkC ra rb rc re rf rg σ) (fun _ _ => rfl) ?_
  exact k_cMarket_liking_b18 n d q _ _ _ _ _ _ _ _ _ _ _ h
set_option maxRecDepth 100000 in
theorem k_cMarket_favourite_b29 (n d : Nat) (r4 : Int32 → Int32 → Int32 → bS → Option (Int32 × bS)) (q : (Int32 × bS)) (hr4 : ∀ (x1 : Int32) (x2 : Int32) (x3 : Int32) (ra : Nat) (rb : Nat) (rc : Nat) (re : Nat) (rf : Value) (rg : Value) (σ : bS), r4 x1 x2 x3 σ = some q → bfr MT (d + 1) M_X3_favourite 4 [some (.ref 71), some (.int x1), some (.int x2), some (.int x3)] [] [] (mkC ra rb rc re rf rg σ) (some (.int q.1), mkC ra rb rc re rf rg q.2)) (x1 : Int32) (x2 : Int32) (x3 : Int32) (ra : Nat) (rb : Nat) (rc : Nat) (re : Nat) (rf : Value) (rg : Value) (σ : bS) (h : cMarket_favourite_b29 n r4 x1 x2 x3 σ = some q) : bfr MT (d + 1) M_X3_favourite 29 [some (.ref 71), some (.int x1), some (.int x2), some (.int x3)] [] [] (mkC ra rb rc re rf rg σ) (some (.int q.1), mkC ra rb rc re rf rg q.2) := by
  unfold cMarket_favourite_b29 at h
  refine bfr_run 1 32 [some (.ref 71), some (.int x1), some (.int x2), some (.int (x3 + ci_1))] [] [] (mkC ra rb rc re rf rg σ) (fun _ _ => rfl) ?_
  refine bfr_run 1 4 [some (.ref 71), some (.int x1), some (.int x2), some (.int (x3 + ci_1))] [] [] (mkC ra rb rc re rf rg σ) (fun _ _ => rfl) ?_
  exact hr4 _ _ _ _ _ _ _ _ _ _ h
set_option maxRecDepth 100000 in
theorem k_cMarket_favourite_b4 (n d : Nat) (q : (Int32 × bS)) : ∀ (k : Nat) (x1 : Int32) (x2 : Int32) (x3 : Int32) (ra : Nat) (rb : Nat) (rc : Nat) (re : Nat) (rf : Value) (rg : Value) (σ : bS), cMarket_favourite_b4 n k x1 x2 x3 σ = some q → bfr MT (d + 1) M_X3_favourite 4 [some (.ref 71), some (.int x1), some (.int x2), some (.int x3)] [] [] (mkC ra rb rc re rf rg σ) (some (.int q.1), mkC ra rb rc re rf rg q.2) := by
  intro k
  induction k with
  | zero => intro x1 x2 x3 ra rb rc re rf rg σ h; exact bno h
  | succ k ih =>
    intro x1 x2 x3 ra rb rc re rf rg σ h
    unfold cMarket_favourite_b4 at h
    refine bfr_br 4 (pc1 := 35) (L1 := [some (.ref 71), some (.int x1), some (.int x2), some (.int x3)]) (J1 := []) (st1 := []) (w1 := mkC ra rb rc re rf rg σ) (pc2 := 12) (L2 := [some (.ref 71), some (.int x1), some (.int x2), some (.int x3)]) (J2 := []) (st2 := []) (w2 := mkC ra rb rc re rf rg σ) (fun _ _ => rfl) h (fun h => ?_) (fun h => ?_)
    · cases h
      exact bfr_ret 2 (fun _ _ => rfl)
    · refine bfr_call 4 (d1 := d + 0) (M1 := M_X3_liking) (vs := [(.ref 71), (.int x1), (.int x3)]) (w1 := mkC ra rb rc re rf rg σ) (pc2 := 18) (L2 := [some (.ref 71), some (.int x1), some (.int x2), some (.int x3)]) (J2 := []) (rest := []) (fun a => some (.int a.1)) (fun a => mkC ra rb rc re rf rg a.2) (fun _ _ => rfl) h (fun a ha => k_cMarket_liking n (d + 0) _ _ _ _ _ _ _ _ _ _ ha) (fun q1 _ h => ?_)
      refine bfr_call 4 (d1 := d + 0) (M1 := M_X3_liking) (vs := [(.ref 71), (.int x1), (.int x2)]) (w1 := mkC ra rb rc re rf rg q1.2) (pc2 := 24) (L2 := [some (.ref 71), some (.int x1), some (.int x2), some (.int x3)]) (J2 := []) (rest := [(.int q1.1)]) (fun a => some (.int a.1)) (fun a => mkC ra rb rc re rf rg a.2) (fun _ _ => rfl) h (fun a ha => k_cMarket_liking n (d + 0) _ _ _ _ _ _ _ _ _ _ ha) (fun q2 _ h => ?_)
      refine bfr_br 1 (pc1 := 29) (L1 := [some (.ref 71), some (.int x1), some (.int x2), some (.int x3)]) (J1 := []) (st1 := []) (w1 := mkC ra rb rc re rf rg q2.2) (pc2 := 27) (L2 := [some (.ref 71), some (.int x1), some (.int x2), some (.int x3)]) (J2 := []) (st2 := []) (w2 := mkC ra rb rc re rf rg q2.2) (fun _ _ => rfl) h (fun h => ?_) (fun h => ?_)
      · exact k_cMarket_favourite_b29 n d _ q (ih) _ _ _ _ _ _ _ _ _ _ h
      · refine bfr_run 2 29 [some (.ref 71), some (.int x1), some (.int x3), some (.int x3)] [] [] (mkC ra rb rc re rf rg q2.2) (fun _ _ => rfl) ?_
        exact k_cMarket_favourite_b29 n d _ q (ih) _ _ _ _ _ _ _ _ _ _ h
set_option maxRecDepth 100000 in
theorem k_cMarket_favourite (n d : Nat) (q : (Int32 × bS)) (x1 : Int32) (ra : Nat) (rb : Nat) (rc : Nat) (re : Nat) (rf : Value) (rg : Value) (σ : bS) (h : cMarket_favourite n x1 σ = some q) : bfr MT (d + 1) M_X3_favourite 0 [some (.ref 71), some (.int x1), none, none] [] [] (mkC ra rb rc re rf rg σ) (some (.int q.1), mkC ra rb rc re rf rg q.2) := by
  unfold cMarket_favourite at h
  refine bfr_run 4 4 [some (.ref 71), some (.int x1), some (.int ci_0), some (.int ci_1)] [] [] (mkC ra rb rc re rf rg σ) (fun _ _ => rfl) ?_
  exact k_cMarket_favourite_b4 n d q _ _ _ _ _ _ _ _ _ _ _ h
set_option maxRecDepth 100000 in
theorem k_cMarket_allLeaveWhatIsNeeded_b35 (n d : Nat) (r2 : Int32 → bS → Option (Int32 × bS)) (q : (Int32 × bS)) (hr2 : ∀ (x1 : Int32) (ra : Nat) (rb : Nat) (rc : Nat) (re : Nat) (rf : Value) (rg : Value) (σ : bS), r2 x1 σ = some q → bfr MT (d + 2) M_X3_allLeaveWhatIsNeeded 2 [some (.ref 71), some (.int x1)] [] [] (mkC ra rb rc re rf rg σ) (some (.int q.1), mkC ra rb rc re rf rg q.2)) (x1 : Int32) (ra : Nat) (rb : Nat) (rc : Nat) (re : Nat) (rf : Value) (rg : Value) (σ : bS) (h : cMarket_allLeaveWhatIsNeeded_b35 n r2 x1 σ = some q) : bfr MT (d + 2) M_X3_allLeaveWhatIsNeeded 35 [some (.ref 71), some (.int x1)] [] [] (mkC ra rb rc re rf rg σ) (some (.int q.1), mkC ra rb rc re rf rg q.2) := by
  unfold cMarket_allLeaveWhatIsNeeded_b35 at h
  refine bfr_run 1 38 [some (.ref 71), some (.int (x1 + ci_1))] [] [] (mkC ra rb rc re rf rg σ) (fun _ _ => rfl) ?_
  refine bfr_run 1 2 [some (.ref 71), some (.int (x1 + ci_1))] [] [] (mkC ra rb rc re rf rg σ) (fun _ _ => rfl) ?_
  exact hr2 _ _ _ _ _ _ _ _ h
set_option maxRecDepth 100000 in
theorem k_cMarket_allLeaveWhatIsNeeded_b2 (n d : Nat) (q : (Int32 × bS)) : ∀ (k : Nat) (x1 : Int32) (ra : Nat) (rb : Nat) (rc : Nat) (re : Nat) (rf : Value) (rg : Value) (σ : bS), cMarket_allLeaveWhatIsNeeded_b2 n k x1 σ = some q → bfr MT (d + 2) M_X3_allLeaveWhatIsNeeded 2 [some (.ref 71), some (.int x1)] [] [] (mkC ra rb rc re rf rg σ) (some (.int q.1), mkC ra rb rc re rf rg q.2) := by
  intro k
  induction k with
  | zero => intro x1 ra rb rc re rf rg σ h; exact bno h
  | succ k ih =>
    intro x1 ra rb rc re rf rg σ h
    unfold cMarket_allLeaveWhatIsNeeded_b2 at h
    refine bfr_br 4 (pc1 := 41) (L1 := [some (.ref 71), some (.int x1)]) (J1 := []) (st1 := []) (w1 := mkC ra rb rc re rf rg σ) (pc2 := 10) (L2 := [some (.ref 71), some (.int x1)]) (J2 := []) (st2 := []) (w2 := mkC ra rb rc re rf rg σ) (fun _ _ => rfl) h (fun h => ?_) (fun h => ?_)
    · exact bfr_bz (mk := mkC ra rb rc re rf rg) 2 (fun _ _ => rfl) h
    · refine bfr_in (i := x1) (m := 7) 4 (pc1 := 16) (L1 := [some (.ref 71), some (.int x1)]) (J1 := []) (st1 := [(.int (sA σ 73 x1))]) (w1 := mkC ra rb rc re rf rg σ) (fun _ _ => rfl) h (fun h => ?_)
      refine bfr_br 1 (pc1 := 35) (L1 := [some (.ref 71), some (.int x1)]) (J1 := []) (st1 := []) (w1 := mkC ra rb rc re rf rg σ) (pc2 := 19) (L2 := [some (.ref 71), some (.int x1)]) (J2 := []) (st2 := []) (w2 := mkC ra rb rc re rf rg σ) (fun _ _ => rfl) h (fun h => ?_) (fun h => ?_)
      · exact k_cMarket_allLeaveWhatIsNeeded_b35 n d _ q (ih) _ _ _ _ _ _ _ _ h
      · refine bfr_call 3 (d1 := d + 1) (M1 := M_X3_favourite) (vs := [(.ref 71), (.int x1)]) (w1 := mkC ra rb rc re rf rg σ) (pc2 := 24) (L2 := [some (.ref 71), some (.int x1)]) (J2 := []) (rest := []) (fun a => some (.int a.1)) (fun a => mkC ra rb rc re rf rg a.2) (fun _ _ => rfl) h (fun a ha => k_cMarket_favourite n (d + 0) _ _ _ _ _ _ _ _ _ ha) (fun q1 _ h => ?_)
        refine bfr_in (i := x1) (m := 7) 4 (pc1 := 30) (L1 := [some (.ref 71), some (.int x1)]) (J1 := []) (st1 := [(.int (sA q1.2 73 x1)), (.int q1.1)]) (w1 := mkC ra rb rc re rf rg q1.2) (fun _ _ => rfl) h (fun h => ?_)
        refine bfr_br 1 (pc1 := 35) (L1 := [some (.ref 71), some (.int x1)]) (J1 := []) (st1 := []) (w1 := mkC ra rb rc re rf rg q1.2) (pc2 := 33) (L2 := [some (.ref 71), some (.int x1)]) (J2 := []) (st2 := []) (w2 := mkC ra rb rc re rf rg q1.2) (fun _ _ => rfl) h (fun h => ?_) (fun h => ?_)
        · exact k_cMarket_allLeaveWhatIsNeeded_b35 n d _ q (ih) _ _ _ _ _ _ _ _ h
        · exact bfr_bz (mk := mkC ra rb rc re rf rg) 2 (fun _ _ => rfl) h
set_option maxRecDepth 100000 in
theorem k_cMarket_allLeaveWhatIsNeeded (n d : Nat) (q : (Int32 × bS)) (ra : Nat) (rb : Nat) (rc : Nat) (re : Nat) (rf : Value) (rg : Value) (σ : bS) (h : cMarket_allLeaveWhatIsNeeded n σ = some q) : bfr MT (d + 2) M_X3_allLeaveWhatIsNeeded 0 [some (.ref 71), none] [] [] (mkC ra rb rc re rf rg σ) (some (.int q.1), mkC ra rb rc re rf rg q.2) := by
  unfold cMarket_allLeaveWhatIsNeeded at h
  refine bfr_run 2 2 [some (.ref 71), some (.int ci_0)] [] [] (mkC ra rb rc re rf rg σ) (fun _ _ => rfl) ?_
  exact k_cMarket_allLeaveWhatIsNeeded_b2 n d q _ _ _ _ _ _ _ _ _ h
set_option maxRecDepth 100000 in
theorem k_cMarket_tryPrices_b62 (n d : Nat) (q : bS) (o0 : Option Value) (o1 : Option Value) (o2 : Option Value) (ra : Nat) (rb : Nat) (rc : Nat) (re : Nat) (rf : Value) (rg : Value) (σ : bS) (h : cMarket_tryPrices_b62 n σ = some q) : bfr MT (d + 3) M_X3_tryPrices 62 [o0, o1, o2] [] [] (mkC ra rb rc re rf rg σ) (none, mkC ra rb rc re rf rg q) := by
  unfold cMarket_tryPrices_b62 at h
  cases h
  exact bfr_ret 1 (fun _ _ => rfl)
set_option maxRecDepth 100000 in
theorem k_cMarket_tryPrices_b4 (n d : Nat) (q : bS) : ∀ (k : Nat) (x1 : Int32) (x2 : Int32) (ra : Nat) (rb : Nat) (rc : Nat) (re : Nat) (rf : Value) (rg : Value) (σ : bS), cMarket_tryPrices_b4 n k x1 x2 σ = some q → bfr MT (d + 3) M_X3_tryPrices 4 [some (.ref 71), some (.int x1), some (.int x2)] [] [] (mkC ra rb rc re rf rg σ) (none, mkC ra rb rc re rf rg q) := by
  intro k
  induction k with
  | zero => intro x1 x2 ra rb rc re rf rg σ h; exact bno h
  | succ k ih =>
    intro x1 x2 ra rb rc re rf rg σ h
    unfold cMarket_tryPrices_b4 at h
    refine bfr_br 4 (pc1 := 27) (L1 := [some (.ref 71), some (.int x1), some (.int x2)]) (J1 := []) (st1 := []) (w1 := mkC ra rb rc re rf rg σ) (pc2 := 12) (L2 := [some (.ref 71), some (.int x1), some (.int x2)]) (J2 := []) (st2 := []) (w2 := mkC ra rb rc re rf rg σ) (fun _ _ => rfl) h (fun h => ?_) (fun h => ?_)
    · refine bfr_br 4 (pc1 := 62) (L1 := [some (.ref 71), some (.int x1), some (.int x2)]) (J1 := []) (st1 := []) (w1 := mkC ra rb rc re rf rg σ) (pc2 := 35) (L2 := [some (.ref 71), some (.int x1), some (.int x2)]) (J2 := []) (st2 := []) (w2 := mkC ra rb rc re rf rg σ) (fun _ _ => rfl) h (fun h => ?_) (fun h => ?_)
      · exact k_cMarket_tryPrices_b62 n d q _ _ _ _ _ _ _ _ _ _ h
      · refine bfr_call 2 (d1 := d + 2) (M1 := M_X3_allLeaveWhatIsNeeded) (vs := [(.ref 71)]) (w1 := mkC ra rb rc re rf rg σ) (pc2 := 39) (L2 := [some (.ref 71), some (.int x1), some (.int x2)]) (J2 := []) (rest := []) (fun a => some (.int a.1)) (fun a => mkC ra rb rc re rf rg a.2) (fun _ _ => rfl) h (fun a ha => k_cMarket_allLeaveWhatIsNeeded n (d + 0) _ _ _ _ _ _ _ _ ha) (fun q1 _ h => ?_)
        refine bfr_br 1 (pc1 := 62) (L1 := [some (.ref 71), some (.int x1), some (.int x2)]) (J1 := []) (st1 := []) (w1 := mkC ra rb rc re rf rg q1.2) (pc2 := 42) (L2 := [some (.ref 71), some (.int x1), some (.int x2)]) (J2 := []) (st2 := []) (w2 := mkC ra rb rc re rf rg q1.2) (fun _ _ => rfl) h (fun h => ?_) (fun h => ?_)
        · exact k_cMarket_tryPrices_b62 n d q _ _ _ _ _ _ _ _ _ _ h
        · refine bfr_run 3 47 [some (.ref 71), some (.int x1), some (.int x2)] [] [] ((mkC ra rb rc re rf rg q1.2).set 71 (.inr (.inr (3, (mkC_71  ra rb rc re rf rg q1.2).set 8 (.int x1))))) (fun _ _ => rfl) ?_
          rw [mkC_I71_8]
          refine bfr_run 6 57 [some (.ref 71), some (.int x1), some (.int x2)] [] [(.int ci_0), (.ref 76), (.int ci_0), (.ref 75)] (mkC ra rb rc re rf rg (uI q1.2 71 8 x1)) (fun _ _ => rfl) ?_
          refine bfr_chk 2 (pc1 := 62) (L1 := [some (.ref 71), some (.int x1), some (.int x2)]) (J1 := []) (st1 := []) (w1 := ((mkC ra rb rc re rf rg (uI q1.2 71 8 x1)).set 76 (.inl (0, 6, va_cpy ((uI q1.2 71 8 x1).2.1 75) ((uI q1.2 71 8 x1).2.1 76) (ci_0).toNatClampNeg (ci_0).toNatClampNeg (cb_6).toNatClampNeg)))) (fun _ _ => rfl) h (fun h => ?_)
          rw [mkC_C76]
          exact k_cMarket_tryPrices_b62 n d q _ _ _ _ _ _ _ _ _ _ h
    · refine bfr_in (i := x2) (m := 6) 5 (pc1 := 19) (L1 := [some (.ref 71), some (.int x1), some (.int x2)]) (J1 := []) (st1 := [(.int (sA σ 75 x2)), (.int x1)]) (w1 := mkC ra rb rc re rf rg σ) (fun _ _ => rfl) h (fun h => ?_)
      refine bfr_run 3 24 [some (.ref 71), some (.int (x1 + (sA σ 75 x2))), some (.int (x2 + ci_1))] [] [] (mkC ra rb rc re rf rg σ) (fun _ _ => rfl) ?_
      refine bfr_run 1 4 [some (.ref 71), some (.int (x1 + (sA σ 75 x2))), some (.int (x2 + ci_1))] [] [] (mkC ra rb rc re rf rg σ) (fun _ _ => rfl) ?_
      exact ih _ _ _ _ _ _ _ _ _ h
set_option maxRecDepth 100000 in
theorem k_cMarket_tryPrices (n d : Nat) (q : bS) (ra : Nat) (rb : Nat) (rc : Nat) (re : Nat) (rf : Value) (rg : Value) (σ : bS) (h : cMarket_tryPrices n σ = some q) : bfr MT (d + 3) M_X3_tryPrices 0 [some (.ref 71), none, none] [] [] (mkC ra rb rc re rf rg σ) (none, mkC ra rb rc re rf rg q) := by
  unfold cMarket_tryPrices at h
  refine bfr_run 4 4 [some (.ref 71), some (.int ci_0), some (.int ci_0)] [] [] (mkC ra rb rc re rf rg σ) (fun _ _ => rfl) ?_
  exact k_cMarket_tryPrices_b4 n d q _ _ _ _ _ _ _ _ _ _ h
set_option maxRecDepth 100000 in
theorem k_cMarket_nextPrices_b42 (n d : Nat) (r7 : Int32 → Int32 → bS → Option bS) (q : bS) (hr7 : ∀ (x1 : Int32) (x2 : Int32) (ra : Nat) (rb : Nat) (rc : Nat) (re : Nat) (rf : Value) (rg : Value) (σ : bS), r7 x1 x2 σ = some q → bfr MT (d + 0) M_X3_nextPrices 7 [some (.ref 71), some (.int x1), some (.int x2)] [] [] (mkC ra rb rc re rf rg σ) (none, mkC ra rb rc re rf rg q)) (x1 : Int32) (x2 : Int32) (ra : Nat) (rb : Nat) (rc : Nat) (re : Nat) (rf : Value) (rg : Value) (σ : bS) (h : cMarket_nextPrices_b42 n r7 x1 x2 σ = some q) : bfr MT (d + 0) M_X3_nextPrices 42 [some (.ref 71), some (.int x1), some (.int x2)] [] [] (mkC ra rb rc re rf rg σ) (none, mkC ra rb rc re rf rg q) := by
  unfold cMarket_nextPrices_b42 at h
  refine bfr_run 1 7 [some (.ref 71), some (.int x1), some (.int x2)] [] [] (mkC ra rb rc re rf rg σ) (fun _ _ => rfl) ?_
  exact hr7 _ _ _ _ _ _ _ _ _ h
set_option maxRecDepth 100000 in
theorem k_cMarket_nextPrices_b7 (n d : Nat) (q : bS) : ∀ (k : Nat) (x1 : Int32) (x2 : Int32) (ra : Nat) (rb : Nat) (rc : Nat) (re : Nat) (rf : Value) (rg : Value) (σ : bS), cMarket_nextPrices_b7 n k x1 x2 σ = some q → bfr MT (d + 0) M_X3_nextPrices 7 [some (.ref 71), some (.int x1), some (.int x2)] [] [] (mkC ra rb rc re rf rg σ) (none, mkC ra rb rc re rf rg q) := by
  intro k
  induction k with
  | zero => intro x1 x2 ra rb rc re rf rg σ h; exact bno h
  | succ k ih =>
    intro x1 x2 ra rb rc re rf rg σ h
    unfold cMarket_nextPrices_b7 at h
    refine bfr_br 2 (pc1 := 45) (L1 := [some (.ref 71), some (.int x1), some (.int x2)]) (J1 := []) (st1 := []) (w1 := mkC ra rb rc re rf rg σ) (pc2 := 11) (L2 := [some (.ref 71), some (.int x1), some (.int x2)]) (J2 := []) (st2 := []) (w2 := mkC ra rb rc re rf rg σ) (fun _ _ => rfl) h (fun h => ?_) (fun h => ?_)
    · cases h
      exact bfr_ret 1 (fun _ _ => rfl)
    · refine bfr_in (i := x2) (m := 6) 4 (pc1 := 17) (L1 := [some (.ref 71), some (.int x1), some (.int x2)]) (J1 := []) (st1 := [(.int (sA σ 75 x2))]) (w1 := mkC ra rb rc re rf rg σ) (fun _ _ => rfl) h (fun h => ?_)
      refine bfr_br 2 (pc1 := 32) (L1 := [some (.ref 71), some (.int x1), some (.int x2)]) (J1 := []) (st1 := []) (w1 := mkC ra rb rc re rf rg σ) (pc2 := 21) (L2 := [some (.ref 71), some (.int x1), some (.int x2)]) (J2 := []) (st2 := []) (w2 := mkC ra rb rc re rf rg σ) (fun _ _ => rfl) h (fun h => ?_) (fun h => ?_)
      · refine bfr_in (i := x2) (m := 6) 5 (pc1 := 39) (L1 := [some (.ref 71), some (.int x1), some (.int x2)]) (J1 := []) (st1 := []) (w1 := ((mkC ra rb rc re rf rg σ).set 75 (.inl (0, 6, upd (σ.2.1 75) (x2).toNatClampNeg ci_0)))) (fun _ _ => rfl) h (fun h => ?_)
        rw [mkC_A75]
        refine bfr_run 1 42 [some (.ref 71), some (.int x1), some (.int (x2 + ci_m1))] [] [] (mkC ra rb rc re rf rg (uA σ 75 x2 ci_0)) (fun _ _ => rfl) ?_
        exact k_cMarket_nextPrices_b42 n d _ q (ih) _ _ _ _ _ _ _ _ _ h
      · refine bfr_in (i := x2) (m := 6) 5 (pc1 := 28) (L1 := [some (.ref 71), some (.int x1), some (.int x2)]) (J1 := []) (st1 := [(.int (sA σ 75 x2)), (.int x2), (.ref 75)]) (w1 := mkC ra rb rc re rf rg σ) (fun _ _ => rfl) h (fun h => ?_)
        refine bfr_in (i := x2) (m := 6) 3 (pc1 := 31) (L1 := [some (.ref 71), some (.int x1), some (.int x2)]) (J1 := []) (st1 := []) (w1 := ((mkC ra rb rc re rf rg σ).set 75 (.inl (0, 6, upd (σ.2.1 75) (x2).toNatClampNeg ((sA σ 75 x2) + ci_1))))) (fun _ _ => rfl) h (fun h => ?_)
        rw [mkC_A75]
        cases h
        exact bfr_ret 1 (fun _ _ => rfl)
set_option maxRecDepth 100000 in
theorem k_cMarket_nextPrices_b6 (n d : Nat) (q : bS) (x1 : Int32) (s0 : Int32) (o2 : Option Value) (ra : Nat) (rb : Nat) (rc : Nat) (re : Nat) (rf : Value) (rg : Value) (σ : bS) (h : cMarket_nextPrices_b6 n x1 s0 σ = some q) : bfr MT (d + 0) M_X3_nextPrices 6 [some (.ref 71), some (.int x1), o2] [] [(.int s0)] (mkC ra rb rc re rf rg σ) (none, mkC ra rb rc re rf rg q) := by
  unfold cMarket_nextPrices_b6 at h
  refine bfr_run 1 7 [some (.ref 71), some (.int x1), some (.int s0)] [] [] (mkC ra rb rc re rf rg σ) (fun _ _ => rfl) ?_
  exact k_cMarket_nextPrices_b7 n d q _ _ _ _ _ _ _ _ _ _ h
set_option maxRecDepth 100000 in
theorem k_cMarket_nextPrices (n d : Nat) (q : bS) (x1 : Int32) (ra : Nat) (rb : Nat) (rc : Nat) (re : Nat) (rf : Value) (rg : Value) (σ : bS) (h : cMarket_nextPrices n x1 σ = some q) : bfr MT (d + 0) M_X3_nextPrices 0 [some (.ref 71), some (.int x1), none] [] [] (mkC ra rb rc re rf rg σ) (none, mkC ra rb rc re rf rg q) := by
  unfold cMarket_nextPrices at h
  refine bfr_run 4 6 [some (.ref 71), some (.int x1), none] [] [(.int ((sI σ 71 6) - ci_1))] (mkC ra rb rc re rf rg σ) (fun _ _ => rfl) ?_
  exact k_cMarket_nextPrices_b6 n d q _ _ _ _ _ _ _ _ _ _ h
set_option maxRecDepth 100000 in
theorem k_cMarket_search_b123 (n d : Nat) (q : (Int32 × bS)) (s0 : Int32) (o0 : Option Value) (o1 : Option Value) (o2 : Option Value) (o3 : Option Value) (o4 : Option Value) (o5 : Option Value) (ra : Nat) (rb : Nat) (re : Nat) (rf : Value) (rg : Value) (σ : bS) (h : cMarket_search_b123 n s0 σ = some q) : bfr MT (d + 4) M_X3_search 123 [o0, o1, o2, o3, o4, o5] [] [(.int s0)] (mkC ra rb 1 re rf rg σ) (some (.int q.1), mkC ra rb 1 re rf rg q.2) := by
  unfold cMarket_search_b123 at h
  exact bfr_bz (mk := mkC ra rb 1 re rf rg) 1 (fun _ _ => rfl) h
set_option maxRecDepth 100000 in
theorem k_cMarket_search_b87 (n d : Nat) (q : (Int32 × bS)) : ∀ (k : Nat) (x3 : Int32) (x4 : Int32) (x5 : Int32) (o1 : Option Value) (o2 : Option Value) (ra : Nat) (rb : Nat) (re : Nat) (rf : Value) (rg : Value) (σ : bS), cMarket_search_b87 n k x3 x4 x5 σ = some q → bfr MT (d + 4) M_X3_search 87 [some (.ref 71), o1, o2, some (.int x3), some (.int x4), some (.int x5)] [] [] (mkC ra rb 1 re rf rg σ) (some (.int q.1), mkC ra rb 1 re rf rg q.2) := by
  intro k
  induction k with
  | zero => intro x3 x4 x5 o1 o2 ra rb re rf rg σ h; exact bno h
  | succ k ih =>
    intro x3 x4 x5 o1 o2 ra rb re rf rg σ h
    unfold cMarket_search_b87 at h
    refine bfr_br 3 (pc1 := 109) (L1 := [some (.ref 71), o1, o2, some (.int x3), some (.int x4), some (.int x5)]) (J1 := []) (st1 := []) (w1 := mkC ra rb 1 re rf rg σ) (pc2 := 94) (L2 := [some (.ref 71), o1, o2, some (.int x3), some (.int x4), some (.int x5)]) (J2 := []) (st2 := []) (w2 := mkC ra rb 1 re rf rg σ) (fun _ _ => rfl) h (fun h => ?_) (fun h => ?_)
    · refine bfr_br 4 (pc1 := 122) (L1 := [some (.ref 71), o1, o2, some (.int x3), some (.int x4), some (.int x5)]) (J1 := []) (st1 := []) (w1 := mkC ra rb 1 re rf rg σ) (pc2 := 118) (L2 := [some (.ref 71), o1, o2, some (.int x3), some (.int x4), some (.int x5)]) (J2 := []) (st2 := []) (w2 := mkC ra rb 1 re rf rg σ) (fun _ _ => rfl) h (fun h => ?_) (fun h => ?_)
      · refine bfr_run 1 123 [some (.ref 71), o1, o2, some (.int x3), some (.int x4), some (.int x5)] [] [(.int ci_0)] (mkC ra rb 1 re rf rg σ) (fun _ _ => rfl) ?_
        exact k_cMarket_search_b123 n d q _ _ _ _ _ _ _ _ _ _ _ _ _ h
      · refine bfr_run 2 123 [some (.ref 71), o1, o2, some (.int x3), some (.int x4), some (.int x5)] [] [(.int ci_1)] (mkC ra rb 1 re rf rg σ) (fun _ _ => rfl) ?_
        exact k_cMarket_search_b123 n d q _ _ _ _ _ _ _ _ _ _ _ _ _ h
    · refine bfr_call 2 (d1 := d + 3) (M1 := M_X3_tryPrices) (vs := [(.ref 71)]) (w1 := mkC ra rb 1 re rf rg σ) (pc2 := 98) (L2 := [some (.ref 71), o1, o2, some (.int x3), some (.int x4), some (.int x5)]) (J2 := []) (rest := []) (fun _ => none) (fun a => mkC ra rb 1 re rf rg a) (fun _ _ => rfl) h (fun a ha => k_cMarket_tryPrices n (d + 0) _ _ _ _ _ _ _ _ ha) (fun q1 _ h => ?_)
      refine bfr_call 3 (d1 := d + 3) (M1 := M_X3_nextPrices) (vs := [(.ref 71), (.int x3)]) (w1 := mkC ra rb 1 re rf rg q1) (pc2 := 103) (L2 := [some (.ref 71), o1, o2, some (.int x3), some (.int x4), some (.int x5)]) (J2 := []) (rest := []) (fun _ => none) (fun a => mkC ra rb 1 re rf rg a) (fun _ _ => rfl) h (fun a ha => k_cMarket_nextPrices n (d + 3) _ _ _ _ _ _ _ _ _ ha) (fun q2 _ h => ?_)
      refine bfr_run 1 106 [some (.ref 71), o1, o2, some (.int x3), some (.int x4), some (.int (x5 + ci_1))] [] [] (mkC ra rb 1 re rf rg q2) (fun _ _ => rfl) ?_
      refine bfr_run 1 87 [some (.ref 71), o1, o2, some (.int x3), some (.int x4), some (.int (x5 + ci_1))] [] [] (mkC ra rb 1 re rf rg q2) (fun _ _ => rfl) ?_
      exact ih _ _ _ _ _ _ _ _ _ _ _ h
set_option maxRecDepth 100000 in
theorem k_cMarket_search_b61 (n d : Nat) (q : (Int32 × bS)) : ∀ (k : Nat) (x3 : Int32) (x4 : Int32) (x5 : Int32) (o1 : Option Value) (o2 : Option Value) (ra : Nat) (rb : Nat) (re : Nat) (rf : Value) (rg : Value) (σ : bS), cMarket_search_b61 n k x3 x4 x5 σ = some q → bfr MT (d + 4) M_X3_search 61 [some (.ref 71), o1, o2, some (.int x3), some (.int x4), some (.int x5)] [] [] (mkC ra rb 1 re rf rg σ) (some (.int q.1), mkC ra rb 1 re rf rg q.2) := by
  intro k
  induction k with
  | zero => intro x3 x4 x5 o1 o2 ra rb re rf rg σ h; exact bno h
  | succ k ih =>
    intro x3 x4 x5 o1 o2 ra rb re rf rg σ h
    unfold cMarket_search_b61 at h
    refine bfr_br 4 (pc1 := 84) (L1 := [some (.ref 71), o1, o2, some (.int x3), some (.int x4), some (.int x5)]) (J1 := []) (st1 := []) (w1 := mkC ra rb 1 re rf rg σ) (pc2 := 70) (L2 := [some (.ref 71), o1, o2, some (.int x3), some (.int x4), some (.int x5)]) (J2 := []) (st2 := []) (w2 := mkC ra rb 1 re rf rg σ) (fun _ _ => rfl) h (fun h => ?_) (fun h => ?_)
    · refine bfr_run 2 87 [some (.ref 71), o1, o2, some (.int x3), some (.int x4), some (.int ci_0)] [] [] (mkC ra rb 1 re rf rg σ) (fun _ _ => rfl) ?_
      exact k_cMarket_search_b87 n d q _ _ _ _ _ _ _ _ _ _ _ _ h
    · refine bfr_run 6 78 [some (.ref 71), o1, o2, some (.int x3), some (.int (x4 * (x3 + ci_1))), some (.int x5)] [] [] (mkC ra rb 1 re rf rg σ) (fun _ _ => rfl) ?_
      refine bfr_run 1 81 [some (.ref 71), o1, o2, some (.int x3), some (.int (x4 * (x3 + ci_1))), some (.int (x5 + ci_1))] [] [] (mkC ra rb 1 re rf rg σ) (fun _ _ => rfl) ?_
      refine bfr_run 1 61 [some (.ref 71), o1, o2, some (.int x3), some (.int (x4 * (x3 + ci_1))), some (.int (x5 + ci_1))] [] [] (mkC ra rb 1 re rf rg σ) (fun _ _ => rfl) ?_
      exact ih _ _ _ _ _ _ _ _ _ _ _ h
set_option maxRecDepth 100000 in
theorem k_cMarket_search (n d : Nat) (q : (Int32 × bS)) (x1 : Int32) (x2 : Int32) (x3 : Int32) (ra : Nat) (rb : Nat) (re : Nat) (rf : Value) (rg : Value) (σ : bS) (h : cMarket_search n x1 x2 x3 σ = some q) : bfr MT (d + 4) M_X3_search 0 [some (.ref 71), some (.int x1), some (.int x2), some (.int x3), none, none] [] [] (mkC ra rb 1 re rf rg σ) (some (.int q.1), mkC ra rb 1 re rf rg q.2) := by
  unfold cMarket_search at h
  refine bfr_call 3 (d1 := d + 3) (M1 := M_X3_lineUp) (vs := [(.ref 71), (.int x2)]) (w1 := mkC ra rb 1 re rf rg σ) (pc2 := 5) (L2 := [some (.ref 71), some (.int x1), some (.int x2), some (.int x3), none, none]) (J2 := []) (rest := []) (fun _ => none) (fun a => mkC ra rb 1 re rf rg a) (fun _ _ => rfl) h (fun a ha => k_cMarket_lineUp n (d + 3) _ _ _ _ _ _ _ _ _ ha) (fun q3 _ h => ?_)
  refine bfr_run 6 19 [some (.ref 71), some (.int x1), some (.int x2), some (.int x3), none, none] [] [] ((mkC ra rb 1 re rf rg q3).set 71 (.inr (.inr (3, (mkC_71  ra rb 1 re rf rg q3).set 6 (.int (sI q3 1 0)))))) (fun _ _ => rfl) ?_
  rw [mkC_I71_6]
  refine bfr_in (i := x1) (m := 4) 6 (pc1 := 29) (L1 := [some (.ref 71), some (.int x1), some (.int x2), some (.int x3), none, none]) (J1 := []) (st1 := [(.int (sA (uI q3 71 6 (sI q3 1 0)) 28 x1)), (.ref 71)]) (w1 := mkC ra rb 1 re rf rg (uI q3 71 6 (sI q3 1 0))) (fun _ _ => rfl) h (fun h => ?_)
  refine bfr_call 1 (d1 := d + 3) (M1 := M_X3_findNeeds) (vs := [(.ref 71), (.int (sA (uI q3 71 6 (sI q3 1 0)) 28 x1))]) (w1 := mkC ra rb 1 re rf rg (uI q3 71 6 (sI q3 1 0))) (pc2 := 32) (L2 := [some (.ref 71), some (.int x1), some (.int x2), some (.int x3), none, none]) (J2 := []) (rest := []) (fun a => some (.int a.1)) (fun a => mkC ra rb 1 re rf rg a.2) (fun _ _ => rfl) h (fun a ha => k_cMarket_findNeeds n (d + 3) _ _ _ _ _ _ _ _ ha) (fun q4 _ h => ?_)
  refine bfr_br 1 (pc1 := 35) (L1 := [some (.ref 71), some (.int x1), some (.int x2), some (.int x3), none, none]) (J1 := []) (st1 := []) (w1 := mkC ra rb 1 re rf rg q4.2) (pc2 := 37) (L2 := [some (.ref 71), some (.int x1), some (.int x2), some (.int x3), none, none]) (J2 := []) (st2 := []) (w2 := mkC ra rb 1 re rf rg q4.2) (fun _ _ => rfl) h (fun h => ?_) (fun h => ?_)
  · exact bfr_bz (mk := mkC ra rb 1 re rf rg) 2 (fun _ _ => rfl) h
  · refine bfr_call 2 (d1 := d + 3) (M1 := M_X3_askFancies) (vs := [(.ref 71)]) (w1 := mkC ra rb 1 re rf rg q4.2) (pc2 := 41) (L2 := [some (.ref 71), some (.int x1), some (.int x2), some (.int x3), none, none]) (J2 := []) (rest := []) (fun _ => none) (fun a => mkC ra rb 1 re rf rg a) (fun _ _ => rfl) h (fun a ha => k_cMarket_askFancies n (d + 0) _ _ _ _ _ _ _ ha) (fun q5 _ h => ?_)
    refine bfr_call 4 (d1 := d + 3) (M1 := M_J7_fill_53178) (vs := [(.ref 75), (.int ci_0)]) (w1 := mkC ra rb 1 re rf rg q5) (pc2 := 49) (L2 := [some (.ref 71), some (.int x1), some (.int x2), some (.int x3), none, none]) (J2 := []) (rest := []) (fun _ => none) (fun a => mkC ra rb 1 re rf rg a) (fun _ _ => rfl) h (fun a ha => k_cj_fill_75 n (d + 3) _ _ _ _ _ _ _ _ _ ha) (fun q6 _ h => ?_)
    refine bfr_run 3 55 [some (.ref 71), some (.int x1), some (.int x2), some (.int x3), none, none] [] [] ((mkC ra rb 1 re rf rg q6).set 71 (.inr (.inr (3, (mkC_71  ra rb 1 re rf rg q6).set 8 (.int (1073741824 : Int32)))))) (fun _ _ => rfl) ?_
    rw [mkC_I71_8]
    refine bfr_run 4 61 [some (.ref 71), some (.int x1), some (.int x2), some (.int x3), some (.int ci_1), some (.int ci_0)] [] [] (mkC ra rb 1 re rf rg (uI q6 71 8 (1073741824 : Int32))) (fun _ _ => rfl) ?_
    exact k_cMarket_search_b61 n d q _ _ _ _ _ _ _ _ _ _ _ _ h
