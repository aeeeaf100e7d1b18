set_option maxRecDepth 100000 in
theorem k_cTop_wishers (n d : Nat) (q : (Int32 × bS)) (x1 : Int32) (x2 : Int32) (rb : Nat) (re : Nat) (rf : Value) (rg : Value) (σ : bS) (h : cTop_wishers n x1 x2 σ = some q) : bfr MT (d + 6) M_X11_wishers 0 [some (.ref 0), some (.int x1), some (.int x2), none] [] [] (mkC 1 rb 1 re rf rg σ) (some (.int q.1), mkC 1 rb 1 re rf rg q.2) := by
  unfold cTop_wishers at h
  refine bfr_call 4 (d1 := d + 5) (M1 := M_X11_rowFault) (vs := [(.ref 0), (.int x1), (.int x2)]) (w1 := mkC 1 rb 1 re rf rg σ) (pc2 := 6) (L2 := [some (.ref 0), some (.int x1), some (.int x2), none]) (J2 := []) (rest := []) (fun a => some (.int a.1)) (fun a => mkC 1 rb 1 re rf rg a.2) (fun _ _ => rfl) h (fun a ha => k_cTop_rowFault n (d + 4) _ _ _ _ _ _ _ _ ha) (fun q1 _ h => ?_)
  refine bfr_br 3 (pc1 := 13) (L1 := [some (.ref 0), some (.int x1), some (.int x2), some (.int q1.1)]) (J1 := []) (st1 := []) (w1 := mkC 1 rb 1 re rf rg q1.2) (pc2 := 11) (L2 := [some (.ref 0), some (.int x1), some (.int x2), some (.int q1.1)]) (J2 := []) (st2 := []) (w2 := mkC 1 rb 1 re rf rg q1.2) (fun _ _ => rfl) h (fun h => ?_) (fun h => ?_)
  · refine bfr_call 6 (d1 := d + 5) (M1 := M_X5_prepare) (vs := [(.ref 59), (.int x1), (.int x2), (.int ci_2)]) (w1 := mkC 1 rb 1 re rf rg q1.2) (pc2 := 23) (L2 := [some (.ref 0), some (.int x1), some (.int x2), some (.int q1.1)]) (J2 := []) (rest := []) (fun _ => none) (fun a => mkC 1 rb 1 re rf rg a) (fun _ _ => rfl) h (fun a ha => k_cRows_prepare n (d + 2) _ _ _ _ _ _ _ _ _ _ ha) (fun q2 _ h => ?_)
    refine bfr_call 6 (d1 := d + 5) (M1 := M_X5_fewestWishers) (vs := [(.ref 59), (.int (sI q2 59 11))]) (w1 := mkC 1 rb 1 re rf rg q2) (pc2 := 37) (L2 := [some (.ref 0), some (.int x1), some (.int x2), some (.int q1.1)]) (J2 := []) (rest := []) (fun a => some (.int a.1)) (fun a => mkC 1 rb 1 re rf rg a.2) (fun _ _ => rfl) h (fun a ha => k_cRows_fewestWishers n (d + 0) _ _ _ _ _ _ _ _ ha) (fun q3 _ h => ?_)
    cases h
    exact bfr_ret 1 (fun _ _ => rfl)
  · cases h
    exact bfr_ret 2 (fun _ _ => rfl)
set_option maxRecDepth 100000 in
theorem k_cTop_wisherAt_b98 (n d : Nat) (q : (Int32 × bS)) (s0 : Int32) (s1 : Int32) (o0 : Option Value) (o1 : Option Value) (o2 : Option Value) (o3 : Option Value) (o4 : Option Value) (rb : Nat) (re : Nat) (rf : Value) (rg : Value) (σ : bS) (h : cTop_wisherAt_b98 n s0 s1 σ = some q) : bfr MT (d + 7) M_X11_wisherAt 98 [o0, o1, o2, o3, o4] [] [(.int s1), (.int s0)] (mkC 1 rb 1 re rf rg σ) (some (.int q.1), mkC 1 rb 1 re rf rg q.2) := by
  unfold cTop_wisherAt_b98 at h
  cases h
  exact bfr_ret 2 (fun _ _ => rfl)
set_option maxRecDepth 100000 in
theorem k_cTop_wisherAt_b14 (n d : Nat) (q : (Int32 × bS)) (x1 : Int32) (x2 : Int32) (x3 : Int32) (s0 : Int32) (o4 : Option Value) (rb : Nat) (re : Nat) (rf : Value) (rg : Value) (σ : bS) (h : cTop_wisherAt_b14 n x1 x2 x3 s0 σ = some q) : bfr MT (d + 7) M_X11_wisherAt 14 [some (.ref 0), some (.int x1), some (.int x2), some (.int x3), o4] [] [(.int s0)] (mkC 1 rb 1 re rf rg σ) (some (.int q.1), mkC 1 rb 1 re rf rg q.2) := by
  unfold cTop_wisherAt_b14 at h
  refine bfr_br 3 (pc1 := 24) (L1 := [some (.ref 0), some (.int x1), some (.int x2), some (.int x3), some (.int s0)]) (J1 := []) (st1 := []) (w1 := mkC 1 rb 1 re rf rg σ) (pc2 := 21) (L2 := [some (.ref 0), some (.int x1), some (.int x2), some (.int x3), some (.int s0)]) (J2 := []) (st2 := []) (w2 := mkC 1 rb 1 re rf rg σ) (fun _ _ => rfl) h (fun h => ?_) (fun h => ?_)
  · refine bfr_call 6 (d1 := d + 6) (M1 := M_X5_prepare) (vs := [(.ref 59), (.int x1), (.int x2), (.int ci_2)]) (w1 := mkC 1 rb 1 re rf rg σ) (pc2 := 34) (L2 := [some (.ref 0), some (.int x1), some (.int x2), some (.int x3), some (.int s0)]) (J2 := []) (rest := []) (fun _ => none) (fun a => mkC 1 rb 1 re rf rg a) (fun _ _ => rfl) h (fun a ha => k_cRows_prepare n (d + 3) _ _ _ _ _ _ _ _ _ _ ha) (fun q1 _ h => ?_)
    refine bfr_br 5 (pc1 := 47) (L1 := [some (.ref 0), some (.int x1), some (.int x2), some (.int x3), some (.int s0)]) (J1 := []) (st1 := []) (w1 := mkC 1 rb 1 re rf rg q1) (pc2 := 45) (L2 := [some (.ref 0), some (.int x1), some (.int x2), some (.int x3), some (.int s0)]) (J2 := []) (st2 := []) (w2 := mkC 1 rb 1 re rf rg q1) (fun _ _ => rfl) h (fun h => ?_) (fun h => ?_)
    · refine bfr_run 6 59 [some (.ref 0), some (.int x1), some (.int x2), some (.int x3), some (.int s0)] [] [(.ref 59), (.ref 59), (.ref 59)] (mkC 1 rb 1 re rf rg q1) (fun _ _ => rfl) ?_
      refine bfr_call 2 (d1 := d + 6) (M1 := M_X5_fewestWishers) (vs := [(.ref 59), (.int (sI q1 59 11))]) (w1 := mkC 1 rb 1 re rf rg q1) (pc2 := 65) (L2 := [some (.ref 0), some (.int x1), some (.int x2), some (.int x3), some (.int s0)]) (J2 := []) (rest := [(.ref 59)]) (fun a => some (.int a.1)) (fun a => mkC 1 rb 1 re rf rg a.2) (fun _ _ => rfl) h (fun a ha => k_cRows_fewestWishers n (d + 1) _ _ _ _ _ _ _ _ ha) (fun q2 _ h => ?_)
      refine bfr_call 1 (d1 := d + 6) (M1 := M_X5_findRow) (vs := [(.ref 59), (.int q2.1)]) (w1 := mkC 1 rb 1 re rf rg q2.2) (pc2 := 68) (L2 := [some (.ref 0), some (.int x1), some (.int x2), some (.int x3), some (.int s0)]) (J2 := []) (rest := []) (fun _ => none) (fun a => mkC 1 rb 1 re rf rg a) (fun _ _ => rfl) h (fun a ha => k_cRows_findRow n (d + 0) _ _ _ _ _ _ _ _ ha) (fun q3 _ h => ?_)
      refine bfr_in (i := x3) (m := 7) 5 (pc1 := 77) (L1 := [some (.ref 0), some (.int x1), some (.int x2), some (.int x3), some (.int s0)]) (J1 := []) (st1 := [(.int (sA q3 67 x3))]) (w1 := mkC 1 rb 1 re rf rg q3) (fun _ _ => rfl) h (fun h => ?_)
      refine bfr_run 6 87 [some (.ref 0), some (.int x1), some (.int x2), some (.int x3), some (.int s0)] [] [(.int ci_1), (.int ((sI q3 59 9) >>> (x3 &&& 31))), (.int (sA q3 67 x3))] (mkC 1 rb 1 re rf rg q3) (fun _ _ => rfl) ?_
      refine bfr_br 3 (pc1 := 92) (L1 := [some (.ref 0), some (.int x1), some (.int x2), some (.int x3), some (.int s0)]) (J1 := []) (st1 := [(.int (sA q3 67 x3))]) (w1 := mkC 1 rb 1 re rf rg q3) (pc2 := 97) (L2 := [some (.ref 0), some (.int x1), some (.int x2), some (.int x3), some (.int s0)]) (J2 := []) (st2 := [(.int (sA q3 67 x3))]) (w2 := mkC 1 rb 1 re rf rg q3) (fun _ _ => rfl) h (fun h => ?_) (fun h => ?_)
      · refine bfr_run 2 98 [some (.ref 0), some (.int x1), some (.int x2), some (.int x3), some (.int s0)] [] [(.int cb_100), (.int (sA q3 67 x3))] (mkC 1 rb 1 re rf rg q3) (fun _ _ => rfl) ?_
        exact k_cTop_wisherAt_b98 n d q _ _ _ _ _ _ _ _ _ _ _ _ h
      · refine bfr_run 1 98 [some (.ref 0), some (.int x1), some (.int x2), some (.int x3), some (.int s0)] [] [(.int ci_0), (.int (sA q3 67 x3))] (mkC 1 rb 1 re rf rg q3) (fun _ _ => rfl) ?_
        exact k_cTop_wisherAt_b98 n d q _ _ _ _ _ _ _ _ _ _ _ _ h
    · cases h
      exact bfr_ret 2 (fun _ _ => rfl)
  · cases h
    exact bfr_ret 2 (fun _ _ => rfl)
set_option maxRecDepth 100000 in
theorem k_cTop_wisherAt (n d : Nat) (q : (Int32 × bS)) (x1 : Int32) (x2 : Int32) (x3 : Int32) (rb : Nat) (re : Nat) (rf : Value) (rg : Value) (σ : bS) (h : cTop_wisherAt n x1 x2 x3 σ = some q) : bfr MT (d + 7) M_X11_wisherAt 0 [some (.ref 0), some (.int x1), some (.int x2), some (.int x3), none] [] [] (mkC 1 rb 1 re rf rg σ) (some (.int q.1), mkC 1 rb 1 re rf rg q.2) := by
  unfold cTop_wisherAt at h
  refine bfr_br 2 (pc1 := 8) (L1 := [some (.ref 0), some (.int x1), some (.int x2), some (.int x3), none]) (J1 := []) (st1 := []) (w1 := mkC 1 rb 1 re rf rg σ) (pc2 := 4) (L2 := [some (.ref 0), some (.int x1), some (.int x2), some (.int x3), none]) (J2 := []) (st2 := []) (w2 := mkC 1 rb 1 re rf rg σ) (fun _ _ => rfl) h (fun h => ?_) (fun h => ?_)
  · refine bfr_call 4 (d1 := d + 6) (M1 := M_X11_rowFault) (vs := [(.ref 0), (.int x1), (.int x2)]) (w1 := mkC 1 rb 1 re rf rg σ) (pc2 := 14) (L2 := [some (.ref 0), some (.int x1), some (.int x2), some (.int x3), none]) (J2 := []) (rest := []) (fun a => some (.int a.1)) (fun a => mkC 1 rb 1 re rf rg a.2) (fun _ _ => rfl) h (fun a ha => k_cTop_rowFault n (d + 5) _ _ _ _ _ _ _ _ ha) (fun q4 _ h => ?_)
    exact k_cTop_wisherAt_b14 n d q _ _ _ _ _ _ _ _ _ _ h
  · refine bfr_run 2 14 [some (.ref 0), some (.int x1), some (.int x2), some (.int x3), none] [] [(.int ci_m1)] (mkC 1 rb 1 re rf rg σ) (fun _ _ => rfl) ?_
    exact k_cTop_wisherAt_b14 n d q _ _ _ _ _ _ _ _ _ _ h
set_option maxRecDepth 100000 in
theorem k_cRows_join_b25 (n d : Nat) (r2 : Int32 → Int32 → Int32 → bS → Option bS) (q : bS) (hr2 : ∀ (x1 : Int32) (x2 : Int32) (x3 : Int32) (ra : Nat) (rb : Nat) (rc : Nat) (re : Nat) (rf : Value) (rg : Value) (σ : bS), r2 x1 x2 x3 σ = some q → bfr MT (d + 0) M_X5_join 2 [some (.ref 59), some (.int x1), some (.int x2), some (.int x3)] [] [] (mkC ra rb rc re rf rg σ) (none, mkC ra rb rc re rf rg q)) (x1 : Int32) (x2 : Int32) (x3 : Int32) (ra : Nat) (rb : Nat) (rc : Nat) (re : Nat) (rf : Value) (rg : Value) (σ : bS) (h : cRows_join_b25 n r2 x1 x2 x3 σ = some q) : bfr MT (d + 0) M_X5_join 25 [some (.ref 59), some (.int x1), some (.int x2), some (.int x3)] [] [] (mkC ra rb rc re rf rg σ) (none, mkC ra rb rc re rf rg q) := by
  unfold cRows_join_b25 at h
  refine bfr_run 1 28 [some (.ref 59), some (.int x1), some (.int x2), some (.int (x3 + ci_1))] [] [] (mkC ra rb rc re rf rg σ) (fun _ _ => rfl) ?_
  refine bfr_run 1 2 [some (.ref 59), some (.int x1), some (.int x2), some (.int (x3 + ci_1))] [] [] (mkC ra rb rc re rf rg σ) (fun _ _ => rfl) ?_
  exact hr2 _ _ _ _ _ _ _ _ _ _ h
set_option maxRecDepth 100000 in
theorem k_cRows_join_b2 (n d : Nat) (q : bS) : ∀ (k : Nat) (x1 : Int32) (x2 : Int32) (x3 : Int32) (ra : Nat) (rb : Nat) (rc : Nat) (re : Nat) (rf : Value) (rg : Value) (σ : bS), cRows_join_b2 n k x1 x2 x3 σ = some q → bfr MT (d + 0) M_X5_join 2 [some (.ref 59), some (.int x1), some (.int x2), some (.int x3)] [] [] (mkC ra rb rc re rf rg σ) (none, mkC ra rb rc re rf rg q) := by
  intro k
  induction k with
  | zero => intro x1 x2 x3 ra rb rc re rf rg σ h; exact bno h
  | succ k ih =>
    intro x1 x2 x3 ra rb rc re rf rg σ h
    unfold cRows_join_b2 at h
    refine bfr_br 3 (pc1 := 31) (L1 := [some (.ref 59), some (.int x1), some (.int x2), some (.int x3)]) (J1 := []) (st1 := []) (w1 := mkC ra rb rc re rf rg σ) (pc2 := 8) (L2 := [some (.ref 59), some (.int x1), some (.int x2), some (.int x3)]) (J2 := []) (st2 := []) (w2 := mkC ra rb rc re rf rg σ) (fun _ _ => rfl) h (fun h => ?_) (fun h => ?_)
    · cases h
      exact bfr_ret 1 (fun _ _ => rfl)
    · refine bfr_in (i := x3) (m := 6) 4 (pc1 := 14) (L1 := [some (.ref 59), some (.int x1), some (.int x2), some (.int x3)]) (J1 := []) (st1 := [(.int (sA σ 66 x3))]) (w1 := mkC ra rb rc re rf rg σ) (fun _ _ => rfl) h (fun h => ?_)
      refine bfr_br 2 (pc1 := 18) (L1 := [some (.ref 59), some (.int x1), some (.int x2), some (.int x3)]) (J1 := []) (st1 := []) (w1 := mkC ra rb rc re rf rg σ) (pc2 := 25) (L2 := [some (.ref 59), some (.int x1), some (.int x2), some (.int x3)]) (J2 := []) (st2 := []) (w2 := mkC ra rb rc re rf rg σ) (fun _ _ => rfl) h (fun h => ?_) (fun h => ?_)
      · refine bfr_in (i := x3) (m := 6) 5 (pc1 := 25) (L1 := [some (.ref 59), some (.int x1), some (.int x2), some (.int x3)]) (J1 := []) (st1 := []) (w1 := ((mkC ra rb rc re rf rg σ).set 66 (.inl (0, 6, upd (σ.2.1 66) (x3).toNatClampNeg x1)))) (fun _ _ => rfl) h (fun h => ?_)
        rw [mkC_A66]
        exact k_cRows_join_b25 n d _ q (ih) _ _ _ _ _ _ _ _ _ _ h
      · exact k_cRows_join_b25 n d _ q (ih) _ _ _ _ _ _ _ _ _ _ h
set_option maxRecDepth 100000 in
theorem k_cRows_join (n d : Nat) (q : bS) (x1 : Int32) (x2 : Int32) (ra : Nat) (rb : Nat) (rc : Nat) (re : Nat) (rf : Value) (rg : Value) (σ : bS) (h : cRows_join n x1 x2 σ = some q) : bfr MT (d + 0) M_X5_join 0 [some (.ref 59), some (.int x1), some (.int x2), none] [] [] (mkC ra rb rc re rf rg σ) (none, mkC ra rb rc re rf rg q) := by
  unfold cRows_join at h
  refine bfr_run 2 2 [some (.ref 59), some (.int x1), some (.int x2), some (.int ci_0)] [] [] (mkC ra rb rc re rf rg σ) (fun _ _ => rfl) ?_
  exact k_cRows_join_b2 n d q _ _ _ _ _ _ _ _ _ _ _ h
set_option maxRecDepth 100000 in
theorem k_cRows_drawArcs_b121 (n d : Nat) (r37 : Int32 → bS → Option bS) (q : bS) (hr37 : ∀ (x1 : Int32) (o2 : Option Value) (o3 : Option Value) (o4 : Option Value) (ra : Nat) (rb : Nat) (re : Nat) (rf : Value) (rg : Value) (σ : bS), r37 x1 σ = some q → bfr MT (d + 2) M_X5_drawArcs 37 [some (.ref 59), some (.int x1), o2, o3, o4] [] [] (mkC ra rb 1 re rf rg σ) (none, mkC ra rb 1 re rf rg q)) (x1 : Int32) (o2 : Option Value) (o3 : Option Value) (o4 : Option Value) (ra : Nat) (rb : Nat) (re : Nat) (rf : Value) (rg : Value) (σ : bS) (h : cRows_drawArcs_b121 n r37 x1 σ = some q) : bfr MT (d + 2) M_X5_drawArcs 121 [some (.ref 59), some (.int x1), o2, o3, o4] [] [] (mkC ra rb 1 re rf rg σ) (none, mkC ra rb 1 re rf rg q) := by
  unfold cRows_drawArcs_b121 at h
  refine bfr_run 1 124 [some (.ref 59), some (.int (x1 + ci_1)), o2, o3, o4] [] [] (mkC ra rb 1 re rf rg σ) (fun _ _ => rfl) ?_
  refine bfr_run 1 37 [some (.ref 59), some (.int (x1 + ci_1)), o2, o3, o4] [] [] (mkC ra rb 1 re rf rg σ) (fun _ _ => rfl) ?_
  exact hr37 _ _ _ _ _ _ _ _ _ _ h
set_option maxRecDepth 100000 in
theorem k_cRows_drawArcs_b81 (n d : Nat) (r37 : Int32 → bS → Option bS) (q : bS) (hr37 : ∀ (x1 : Int32) (o2 : Option Value) (o3 : Option Value) (o4 : Option Value) (ra : Nat) (rb : Nat) (re : Nat) (rf : Value) (rg : Value) (σ : bS), r37 x1 σ = some q → bfr MT (d + 2) M_X5_drawArcs 37 [some (.ref 59), some (.int x1), o2, o3, o4] [] [] (mkC ra rb 1 re rf rg σ) (none, mkC ra rb 1 re rf rg q)) (x1 : Int32) (x2 : Int32) (s0 : Int32) (o3 : Option Value) (o4 : Option Value) (ra : Nat) (rb : Nat) (re : Nat) (rf : Value) (rg : Value) (σ : bS) (h : cRows_drawArcs_b81 n r37 x1 x2 s0 σ = some q) : bfr MT (d + 2) M_X5_drawArcs 81 [some (.ref 59), some (.int x1), some (.int x2), o3, o4] [] [(.int s0)] (mkC ra rb 1 re rf rg σ) (none, mkC ra rb 1 re rf rg q) := by
  unfold cRows_drawArcs_b81 at h
  refine bfr_in (i := x2) (m := 6) 6 (pc1 := 90) (L1 := [some (.ref 59), some (.int x1), some (.int x2), o3, some (.int s0)]) (J1 := []) (st1 := [(.int (sA σ 64 x2)), (.int x2), (.ref 64)]) (w1 := mkC ra rb 1 re rf rg σ) (fun _ _ => rfl) h (fun h => ?_)
  refine bfr_in (i := x2) (m := 6) 3 (pc1 := 93) (L1 := [some (.ref 59), some (.int x1), some (.int x2), o3, some (.int s0)]) (J1 := []) (st1 := []) (w1 := ((mkC ra rb 1 re rf rg σ).set 64 (.inl (0, 6, upd (σ.2.1 64) (x2).toNatClampNeg ((sA σ 64 x2) + ci_1))))) (fun _ _ => rfl) h (fun h => ?_)
  rw [mkC_A64]
  refine bfr_in (i := s0) (m := 6) 5 (pc1 := 101) (L1 := [some (.ref 59), some (.int x1), some (.int x2), o3, some (.int s0)]) (J1 := []) (st1 := [(.int (sA (uA σ 64 x2 ((sA σ 64 x2) + ci_1)) 65 s0)), (.int s0), (.ref 65)]) (w1 := mkC ra rb 1 re rf rg (uA σ 64 x2 ((sA σ 64 x2) + ci_1))) (fun _ _ => rfl) h (fun h => ?_)
  refine bfr_in (i := s0) (m := 6) 3 (pc1 := 104) (L1 := [some (.ref 59), some (.int x1), some (.int x2), o3, some (.int s0)]) (J1 := []) (st1 := []) (w1 := ((mkC ra rb 1 re rf rg (uA σ 64 x2 ((sA σ 64 x2) + ci_1))).set 65 (.inl (0, 6, upd ((uA σ 64 x2 ((sA σ 64 x2) + ci_1)).2.1 65) (s0).toNatClampNeg ((sA (uA σ 64 x2 ((sA σ 64 x2) + ci_1)) 65 s0) + ci_1))))) (fun _ _ => rfl) h (fun h => ?_)
  rw [mkC_A65]
  refine bfr_in (i := x2) (m := 6) 5 (pc1 := 111) (L1 := [some (.ref 59), some (.int x1), some (.int x2), o3, some (.int s0)]) (J1 := []) (st1 := [(.int (sA (uA (uA σ 64 x2 ((sA σ 64 x2) + ci_1)) 65 s0 ((sA (uA σ 64 x2 ((sA σ 64 x2) + ci_1)) 65 s0) + ci_1)) 66 x2)), (.ref 59)]) (w1 := mkC ra rb 1 re rf rg (uA (uA σ 64 x2 ((sA σ 64 x2) + ci_1)) 65 s0 ((sA (uA σ 64 x2 ((sA σ 64 x2) + ci_1)) 65 s0) + ci_1))) (fun _ _ => rfl) h (fun h => ?_)
  refine bfr_in (i := s0) (m := 6) 4 (pc1 := 118) (L1 := [some (.ref 59), some (.int x1), some (.int x2), o3, some (.int s0)]) (J1 := []) (st1 := [(.int (sA (uA (uA σ 64 x2 ((sA σ 64 x2) + ci_1)) 65 s0 ((sA (uA σ 64 x2 ((sA σ 64 x2) + ci_1)) 65 s0) + ci_1)) 66 s0)), (.int (sA (uA (uA σ 64 x2 ((sA σ 64 x2) + ci_1)) 65 s0 ((sA (uA σ 64 x2 ((sA σ 64 x2) + ci_1)) 65 s0) + ci_1)) 66 x2)), (.ref 59)]) (w1 := mkC ra rb 1 re rf rg (uA (uA σ 64 x2 ((sA σ 64 x2) + ci_1)) 65 s0 ((sA (uA σ 64 x2 ((sA σ 64 x2) + ci_1)) 65 s0) + ci_1))) (fun _ _ => rfl) h (fun h => ?_)
  refine bfr_call 1 (d1 := d + 1) (M1 := M_X5_join) (vs := [(.ref 59), (.int (sA (uA (uA σ 64 x2 ((sA σ 64 x2) + ci_1)) 65 s0 ((sA (uA σ 64 x2 ((sA σ 64 x2) + ci_1)) 65 s0) + ci_1)) 66 x2)), (.int (sA (uA (uA σ 64 x2 ((sA σ 64 x2) + ci_1)) 65 s0 ((sA (uA σ 64 x2 ((sA σ 64 x2) + ci_1)) 65 s0) + ci_1)) 66 s0))]) (w1 := mkC ra rb 1 re rf rg (uA (uA σ 64 x2 ((sA σ 64 x2) + ci_1)) 65 s0 ((sA (uA σ 64 x2 ((sA σ 64 x2) + ci_1)) 65 s0) + ci_1))) (pc2 := 121) (L2 := [some (.ref 59), some (.int x1), some (.int x2), o3, some (.int s0)]) (J2 := []) (rest := []) (fun _ => none) (fun a => mkC ra rb 1 re rf rg a) (fun _ _ => rfl) h (fun a ha => k_cRows_join n (d + 1) _ _ _ _ _ _ _ _ _ _ ha) (fun q1 _ h => ?_)
  exact k_cRows_drawArcs_b121 n d _ q hr37 _ _ _ _ _ _ _ _ _ _ h
set_option maxRecDepth 100000 in
theorem k_cRows_drawArcs_b37 (n d : Nat) (q : bS) : ∀ (k : Nat) (x1 : Int32) (o2 : Option Value) (o3 : Option Value) (o4 : Option Value) (ra : Nat) (rb : Nat) (re : Nat) (rf : Value) (rg : Value) (σ : bS), cRows_drawArcs_b37 n k x1 σ = some q → bfr MT (d + 2) M_X5_drawArcs 37 [some (.ref 59), some (.int x1), o2, o3, o4] [] [] (mkC ra rb 1 re rf rg σ) (none, mkC ra rb 1 re rf rg q) := by
  intro k
  induction k with
  | zero => intro x1 o2 o3 o4 ra rb re rf rg σ h; exact bno h
  | succ k ih =>
    intro x1 o2 o3 o4 ra rb re rf rg σ h
    unfold cRows_drawArcs_b37 at h
    refine bfr_br 3 (pc1 := 127) (L1 := [some (.ref 59), some (.int x1), o2, o3, o4]) (J1 := []) (st1 := []) (w1 := mkC ra rb 1 re rf rg σ) (pc2 := 43) (L2 := [some (.ref 59), some (.int x1), o2, o3, o4]) (J2 := []) (st2 := []) (w2 := mkC ra rb 1 re rf rg σ) (fun _ _ => rfl) h (fun h => ?_) (fun h => ?_)
    · cases h
      exact bfr_ret 1 (fun _ _ => rfl)
    · refine bfr_run 6 51 [some (.ref 59), some (.int x1), o2, o3, o4] [] [(.int (((sI σ 59 10) >>> (x1 &&& 31)) &&& ci_1))] (mkC ra rb 1 re rf rg σ) (fun _ _ => rfl) ?_
      refine bfr_br 2 (pc1 := 55) (L1 := [some (.ref 59), some (.int x1), o2, o3, o4]) (J1 := []) (st1 := []) (w1 := mkC ra rb 1 re rf rg σ) (pc2 := 121) (L2 := [some (.ref 59), some (.int x1), o2, o3, o4]) (J2 := []) (st2 := []) (w2 := mkC ra rb 1 re rf rg σ) (fun _ _ => rfl) h (fun h => ?_) (fun h => ?_)
      · refine bfr_call 3 (d1 := d + 1) (M1 := M_X5_homeOf) (vs := [(.ref 59), (.int x1)]) (w1 := mkC ra rb 1 re rf rg σ) (pc2 := 60) (L2 := [some (.ref 59), some (.int x1), o2, o3, o4]) (J2 := []) (rest := []) (fun a => some (.int a.1)) (fun a => mkC ra rb 1 re rf rg a.2) (fun _ _ => rfl) h (fun a ha => k_cRows_homeOf n (d + 1) _ _ _ _ _ _ _ _ ha) (fun q2 _ h => ?_)
        refine bfr_run 6 68 [some (.ref 59), some (.int x1), some (.int q2.1), o3, o4] [] [(.int ci_0), (.int (sI q2.2 59 12)), (.int x1), (.ref 59)] (mkC ra rb 1 re rf rg q2.2) (fun _ _ => rfl) ?_
        refine bfr_call 1 (d1 := d + 1) (M1 := M_X5_wishAt) (vs := [(.ref 59), (.int x1), (.int (sI q2.2 59 12)), (.int ci_0)]) (w1 := mkC ra rb 1 re rf rg q2.2) (pc2 := 71) (L2 := [some (.ref 59), some (.int x1), some (.int q2.1), o3, o4]) (J2 := []) (rest := []) (fun a => some (.int a.1)) (fun a => mkC ra rb 1 re rf rg a.2) (fun _ _ => rfl) h (fun a ha => k_cRows_wishAt n (d + 0) _ _ _ _ _ _ _ _ _ _ _ ha) (fun q3 _ h => ?_)
        refine bfr_br 3 (pc1 := 80) (L1 := [some (.ref 59), some (.int x1), some (.int q2.1), some (.int q3.1), o4]) (J1 := []) (st1 := []) (w1 := mkC ra rb 1 re rf rg q3.2) (pc2 := 76) (L2 := [some (.ref 59), some (.int x1), some (.int q2.1), some (.int q3.1), o4]) (J2 := []) (st2 := []) (w2 := mkC ra rb 1 re rf rg q3.2) (fun _ _ => rfl) h (fun h => ?_) (fun h => ?_)
        · refine bfr_run 1 81 [some (.ref 59), some (.int x1), some (.int q2.1), some (.int q3.1), o4] [] [(.int q3.1)] (mkC ra rb 1 re rf rg q3.2) (fun _ _ => rfl) ?_
          exact k_cRows_drawArcs_b81 n d _ q (ih) _ _ _ _ _ _ _ _ _ _ _ h
        · refine bfr_run 2 81 [some (.ref 59), some (.int x1), some (.int q2.1), some (.int q3.1), o4] [] [(.int q2.1)] (mkC ra rb 1 re rf rg q3.2) (fun _ _ => rfl) ?_
          exact k_cRows_drawArcs_b81 n d _ q (ih) _ _ _ _ _ _ _ _ _ _ _ h
      · exact k_cRows_drawArcs_b121 n d _ q (ih) _ _ _ _ _ _ _ _ _ _ h
set_option maxRecDepth 100000 in
theorem k_cRows_drawArcs_b2 (n d : Nat) (q : bS) : ∀ (k : Nat) (x1 : Int32) (o2 : Option Value) (o3 : Option Value) (o4 : Option Value) (ra : Nat) (rb : Nat) (re : Nat) (rf : Value) (rg : Value) (σ : bS), cRows_drawArcs_b2 n k x1 σ = some q → bfr MT (d + 2) M_X5_drawArcs 2 [some (.ref 59), some (.int x1), o2, o3, o4] [] [] (mkC ra rb 1 re rf rg σ) (none, mkC ra rb 1 re rf rg q) := by
  intro k
  induction k with
  | zero => intro x1 o2 o3 o4 ra rb re rf rg σ h; exact bno h
  | succ k ih =>
    intro x1 o2 o3 o4 ra rb re rf rg σ h
    unfold cRows_drawArcs_b2 at h
    refine bfr_br 3 (pc1 := 35) (L1 := [some (.ref 59), some (.int x1), o2, o3, o4]) (J1 := []) (st1 := []) (w1 := mkC ra rb 1 re rf rg σ) (pc2 := 8) (L2 := [some (.ref 59), some (.int x1), o2, o3, o4]) (J2 := []) (st2 := []) (w2 := mkC ra rb 1 re rf rg σ) (fun _ _ => rfl) h (fun h => ?_) (fun h => ?_)
    · refine bfr_run 2 37 [some (.ref 59), some (.int ci_0), o2, o3, o4] [] [] (mkC ra rb 1 re rf rg σ) (fun _ _ => rfl) ?_
      exact k_cRows_drawArcs_b37 n d q _ _ _ _ _ _ _ _ _ _ _ h
    · refine bfr_in (i := x1) (m := 6) 5 (pc1 := 15) (L1 := [some (.ref 59), some (.int x1), o2, o3, o4]) (J1 := []) (st1 := []) (w1 := ((mkC ra rb 1 re rf rg σ).set 64 (.inl (0, 6, upd (σ.2.1 64) (x1).toNatClampNeg ci_0)))) (fun _ _ => rfl) h (fun h => ?_)
      rw [mkC_A64]
      refine bfr_in (i := x1) (m := 6) 5 (pc1 := 22) (L1 := [some (.ref 59), some (.int x1), o2, o3, o4]) (J1 := []) (st1 := []) (w1 := ((mkC ra rb 1 re rf rg (uA σ 64 x1 ci_0)).set 65 (.inl (0, 6, upd ((uA σ 64 x1 ci_0).2.1 65) (x1).toNatClampNeg ci_0)))) (fun _ _ => rfl) h (fun h => ?_)
      rw [mkC_A65]
      refine bfr_in (i := x1) (m := 6) 5 (pc1 := 29) (L1 := [some (.ref 59), some (.int x1), o2, o3, o4]) (J1 := []) (st1 := []) (w1 := ((mkC ra rb 1 re rf rg (uA (uA σ 64 x1 ci_0) 65 x1 ci_0)).set 66 (.inl (0, 6, upd ((uA (uA σ 64 x1 ci_0) 65 x1 ci_0).2.1 66) (x1).toNatClampNeg x1)))) (fun _ _ => rfl) h (fun h => ?_)
      rw [mkC_A66]
      refine bfr_run 1 32 [some (.ref 59), some (.int (x1 + ci_1)), o2, o3, o4] [] [] (mkC ra rb 1 re rf rg (uA (uA (uA σ 64 x1 ci_0) 65 x1 ci_0) 66 x1 x1)) (fun _ _ => rfl) ?_
      refine bfr_run 1 2 [some (.ref 59), some (.int (x1 + ci_1)), o2, o3, o4] [] [] (mkC ra rb 1 re rf rg (uA (uA (uA σ 64 x1 ci_0) 65 x1 ci_0) 66 x1 x1)) (fun _ _ => rfl) ?_
      exact ih _ _ _ _ _ _ _ _ _ _ h
set_option maxRecDepth 100000 in
theorem k_cRows_drawArcs (n d : Nat) (q : bS) (ra : Nat) (rb : Nat) (re : Nat) (rf : Value) (rg : Value) (σ : bS) (h : cRows_drawArcs n σ = some q) : bfr MT (d + 2) M_X5_drawArcs 0 [some (.ref 59), none, none, none, none] [] [] (mkC ra rb 1 re rf rg σ) (none, mkC ra rb 1 re rf rg q) := by
  unfold cRows_drawArcs at h
  refine bfr_run 2 2 [some (.ref 59), some (.int ci_0), none, none, none] [] [] (mkC ra rb 1 re rf rg σ) (fun _ _ => rfl) ?_
  exact k_cRows_drawArcs_b2 n d q _ _ _ _ _ _ _ _ _ _ _ h
set_option maxRecDepth 100000 in
theorem k_cRows_hasArcs_b36 (n d : Nat) (r2 : Int32 → Int32 → bS → Option (Int32 × bS)) (q : (Int32 × bS)) (hr2 : ∀ (x1 : Int32) (x2 : Int32) (ra : Nat) (rb : Nat) (rc : Nat) (re : Nat) (rf : Value) (rg : Value) (σ : bS), r2 x1 x2 σ = some q → bfr MT (d + 0) M_X5_hasArcs 2 [some (.ref 59), some (.int x1), some (.int x2)] [] [] (mkC ra rb rc re rf rg σ) (some (.int q.1), mkC ra rb rc re rf rg q.2)) (x1 : Int32) (x2 : Int32) (ra : Nat) (rb : Nat) (rc : Nat) (re : Nat) (rf : Value) (rg : Value) (σ : bS) (h : cRows_hasArcs_b36 n r2 x1 x2 σ = some q) : bfr MT (d + 0) M_X5_hasArcs 36 [some (.ref 59), some (.int x1), some (.int x2)] [] [] (mkC ra rb rc re rf rg σ) (some (.int q.1), mkC ra rb rc re rf rg q.2) := by
  unfold cRows_hasArcs_b36 at h
  refine bfr_run 1 39 [some (.ref 59), some (.int x1), some (.int (x2 + ci_1))] [] [] (mkC ra rb rc re rf rg σ) (fun _ _ => rfl) ?_
  refine bfr_run 1 2 [some (.ref 59), some (.int x1), some (.int (x2 + ci_1))] [] [] (mkC ra rb rc re rf rg σ) (fun _ _ => rfl) ?_
  exact hr2 _ _ _ _ _ _ _ _ _ h
set_option maxRecDepth 100000 in
theorem k_cRows_hasArcs_b2 (n d : Nat) (q : (Int32 × bS)) : ∀ (k : Nat) (x1 : Int32) (x2 : Int32) (ra : Nat) (rb : Nat) (rc : Nat) (re : Nat) (rf : Value) (rg : Value) (σ : bS), cRows_hasArcs_b2 n k x1 x2 σ = some q → bfr MT (d + 0) M_X5_hasArcs 2 [some (.ref 59), some (.int x1), some (.int x2)] [] [] (mkC ra rb rc re rf rg σ) (some (.int q.1), mkC ra rb rc re rf rg q.2) := by
  intro k
  induction k with
  | zero => intro x1 x2 ra rb rc re rf rg σ h; exact bno h
  | succ k ih =>
    intro x1 x2 ra rb rc re rf rg σ h
    unfold cRows_hasArcs_b2 at h
    refine bfr_br 3 (pc1 := 42) (L1 := [some (.ref 59), some (.int x1), some (.int x2)]) (J1 := []) (st1 := []) (w1 := mkC ra rb rc re rf rg σ) (pc2 := 8) (L2 := [some (.ref 59), some (.int x1), some (.int x2)]) (J2 := []) (st2 := []) (w2 := mkC ra rb rc re rf rg σ) (fun _ _ => rfl) h (fun h => ?_) (fun h => ?_)
    · exact bfr_bz (mk := mkC ra rb rc re rf rg) 2 (fun _ _ => rfl) h
    · refine bfr_in (i := x2) (m := 6) 4 (pc1 := 14) (L1 := [some (.ref 59), some (.int x1), some (.int x2)]) (J1 := []) (st1 := [(.int (sA σ 66 x2))]) (w1 := mkC ra rb rc re rf rg σ) (fun _ _ => rfl) h (fun h => ?_)
      refine bfr_br 2 (pc1 := 18) (L1 := [some (.ref 59), some (.int x1), some (.int x2)]) (J1 := []) (st1 := []) (w1 := mkC ra rb rc re rf rg σ) (pc2 := 36) (L2 := [some (.ref 59), some (.int x1), some (.int x2)]) (J2 := []) (st2 := []) (w2 := mkC ra rb rc re rf rg σ) (fun _ _ => rfl) h (fun h => ?_) (fun h => ?_)
      · refine bfr_in (i := x2) (m := 6) 4 (pc1 := 24) (L1 := [some (.ref 59), some (.int x1), some (.int x2)]) (J1 := []) (st1 := [(.int (sA σ 64 x2))]) (w1 := mkC ra rb rc re rf rg σ) (fun _ _ => rfl) h (fun h => ?_)
        refine bfr_in (i := x2) (m := 6) 4 (pc1 := 30) (L1 := [some (.ref 59), some (.int x1), some (.int x2)]) (J1 := []) (st1 := [(.int (sA σ 65 x2)), (.int (sA σ 64 x2))]) (w1 := mkC ra rb rc re rf rg σ) (fun _ _ => rfl) h (fun h => ?_)
        refine bfr_br 2 (pc1 := 36) (L1 := [some (.ref 59), some (.int x1), some (.int x2)]) (J1 := []) (st1 := []) (w1 := mkC ra rb rc re rf rg σ) (pc2 := 34) (L2 := [some (.ref 59), some (.int x1), some (.int x2)]) (J2 := []) (st2 := []) (w2 := mkC ra rb rc re rf rg σ) (fun _ _ => rfl) h (fun h => ?_) (fun h => ?_)
        · exact k_cRows_hasArcs_b36 n d _ q (ih) _ _ _ _ _ _ _ _ _ h
        · exact bfr_bz (mk := mkC ra rb rc re rf rg) 2 (fun _ _ => rfl) h
      · exact k_cRows_hasArcs_b36 n d _ q (ih) _ _ _ _ _ _ _ _ _ h
set_option maxRecDepth 100000 in
theorem k_cRows_hasArcs (n d : Nat) (q : (Int32 × bS)) (x1 : Int32) (ra : Nat) (rb : Nat) (rc : Nat) (re : Nat) (rf : Value) (rg : Value) (σ : bS) (h : cRows_hasArcs n x1 σ = some q) : bfr MT (d + 0) M_X5_hasArcs 0 [some (.ref 59), some (.int x1), none] [] [] (mkC ra rb rc re rf rg σ) (some (.int q.1), mkC ra rb rc re rf rg q.2) := by
  unfold cRows_hasArcs at h
  refine bfr_run 2 2 [some (.ref 59), some (.int x1), some (.int ci_0)] [] [] (mkC ra rb rc re rf rg σ) (fun _ _ => rfl) ?_
  exact k_cRows_hasArcs_b2 n d q _ _ _ _ _ _ _ _ _ _ h
set_option maxRecDepth 100000 in
theorem k_cRows_moreOut_b40 (n d : Nat) (r4 : Int32 → Int32 → Int32 → bS → Option (Int32 × bS)) (q : (Int32 × bS)) (hr4 : ∀ (x1 : Int32) (x2 : Int32) (x3 : Int32) (ra : Nat) (rb : Nat) (rc : Nat) (re : Nat) (rf : Value) (rg : Value) (σ : bS), r4 x1 x2 x3 σ = some q → bfr MT (d + 1) M_X5_moreOut 4 [some (.ref 59), some (.int x1), some (.int x2), some (.int x3)] [] [] (mkC ra rb rc re rf rg σ) (some (.int q.1), mkC ra rb rc re rf rg q.2)) (x1 : Int32) (x2 : Int32) (x3 : Int32) (ra : Nat) (rb : Nat) (rc : Nat) (re : Nat) (rf : Value) (rg : Value) (σ : bS) (h : cRows_moreOut_b40 n r4 x1 x2 x3 σ = some q) : bfr MT (d + 1) M_X5_moreOut 40 [some (.ref 59), some (.int x1), some (.int x2), some (.int x3)] [] [] (mkC ra rb rc re rf rg σ) (some (.int q.1), mkC ra rb rc re rf rg q.2) := by
  unfold cRows_moreOut_b40 at h
  refine bfr_run 1 43 [some (.ref 59), some (.int x1), some (.int x2), some (.int (x3 + ci_1))] [] [] (mkC ra rb rc re rf rg σ) (fun _ _ => rfl) ?_
  refine bfr_run 1 4 [some (.ref 59), some (.int x1), some (.int x2), some (.int (x3 + ci_1))] [] [] (mkC ra rb rc re rf rg σ) (fun _ _ => rfl) ?_
  exact hr4 _ _ _ _ _ _ _ _ _ _ h
set_option maxRecDepth 100000 in
theorem k_cRows_moreOut_b35 (n d : Nat) (r4 : Int32 → Int32 → Int32 → bS → Option (Int32 × bS)) (q : (Int32 × bS)) (hr4 : ∀ (x1 : Int32) (x2 : Int32) (x3 : Int32) (ra : Nat) (rb : Nat) (rc : Nat) (re : Nat) (rf : Value) (rg : Value) (σ : bS), r4 x1 x2 x3 σ = some q → bfr MT (d + 1) M_X5_moreOut 4 [some (.ref 59), some (.int x1), some (.int x2), some (.int x3)] [] [] (mkC ra rb rc re rf rg σ) (some (.int q.1), mkC ra rb rc re rf rg q.2)) (x1 : Int32) (x3 : Int32) (s0 : Int32) (s1 : Int32) (s2 : Int32) (o2 : Option Value) (ra : Nat) (rb : Nat) (rc : Nat) (re : Nat) (rf : Value) (rg : Value) (σ : bS) (h : cRows_moreOut_b35 n r4 x1 x3 s0 s1 s2 σ = some q) : bfr MT (d + 1) M_X5_moreOut 35 [some (.ref 59), some (.int x1), o2, some (.int x3)] [] [(.int s2), (.int s1), (.int s0)] (mkC ra rb rc re rf rg σ) (some (.int q.1), mkC ra rb rc re rf rg q.2) := by
  unfold cRows_moreOut_b35 at h
  refine bfr_call 1 (d1 := d + 0) (M1 := M_J9_max_7cf53) (vs := [(.int s1), (.int s2)]) (w1 := mkC ra rb rc re rf rg σ) (pc2 := 38) (L2 := [some (.ref 59), some (.int x1), o2, some (.int x3)]) (J2 := []) (rest := [(.int s0)]) (fun a => some (.int a.1)) (fun a => mkC ra rb rc re rf rg a.2) (fun _ _ => rfl) h (fun a ha => k_cj_max n (d + 0) _ _ _ _ _ _ _ _ _ _ ha) (fun q1 _ h => ?_)
  refine bfr_run 2 40 [some (.ref 59), some (.int x1), some (.int (s0 + q1.1)), some (.int x3)] [] [] (mkC ra rb rc re rf rg q1.2) (fun _ _ => rfl) ?_
  exact k_cRows_moreOut_b40 n d _ q hr4 _ _ _ _ _ _ _ _ _ _ h
set_option maxRecDepth 100000 in
theorem k_cRows_moreOut_b4 (n d : Nat) (q : (Int32 × bS)) : ∀ (k : Nat) (x1 : Int32) (x2 : Int32) (x3 : Int32) (ra : Nat) (rb : Nat) (rc : Nat) (re : Nat) (rf : Value) (rg : Value) (σ : bS), cRows_moreOut_b4 n k x1 x2 x3 σ = some q → bfr MT (d + 1) M_X5_moreOut 4 [some (.ref 59), some (.int x1), some (.int x2), some (.int x3)] [] [] (mkC ra rb rc re rf rg σ) (some (.int q.1), mkC ra rb rc re rf rg q.2) := by
  intro k
  induction k with
  | zero => intro x1 x2 x3 ra rb rc re rf rg σ h; exact bno h
  | succ k ih =>
    intro x1 x2 x3 ra rb rc re rf rg σ h
    unfold cRows_moreOut_b4 at h
    refine bfr_br 3 (pc1 := 46) (L1 := [some (.ref 59), some (.int x1), some (.int x2), some (.int x3)]) (J1 := []) (st1 := []) (w1 := mkC ra rb rc re rf rg σ) (pc2 := 10) (L2 := [some (.ref 59), some (.int x1), some (.int x2), some (.int x3)]) (J2 := []) (st2 := []) (w2 := mkC ra rb rc re rf rg σ) (fun _ _ => rfl) h (fun h => ?_) (fun h => ?_)
    · cases h
      exact bfr_ret 2 (fun _ _ => rfl)
    · refine bfr_in (i := x3) (m := 6) 4 (pc1 := 16) (L1 := [some (.ref 59), some (.int x1), some (.int x2), some (.int x3)]) (J1 := []) (st1 := [(.int (sA σ 66 x3))]) (w1 := mkC ra rb rc re rf rg σ) (fun _ _ => rfl) h (fun h => ?_)
      refine bfr_br 2 (pc1 := 20) (L1 := [some (.ref 59), some (.int x1), some (.int x2), some (.int x3)]) (J1 := []) (st1 := []) (w1 := mkC ra rb rc re rf rg σ) (pc2 := 40) (L2 := [some (.ref 59), some (.int x1), some (.int x2), some (.int x3)]) (J2 := []) (st2 := []) (w2 := mkC ra rb rc re rf rg σ) (fun _ _ => rfl) h (fun h => ?_) (fun h => ?_)
      · refine bfr_in (i := x3) (m := 6) 6 (pc1 := 28) (L1 := [some (.ref 59), some (.int x1), some (.int x2), some (.int x3)]) (J1 := []) (st1 := [(.int (sA σ 64 x3)), (.int ci_0), (.int x2)]) (w1 := mkC ra rb rc re rf rg σ) (fun _ _ => rfl) h (fun h => ?_)
        refine bfr_in (i := x3) (m := 6) 4 (pc1 := 34) (L1 := [some (.ref 59), some (.int x1), some (.int x2), some (.int x3)]) (J1 := []) (st1 := [(.int (sA σ 65 x3)), (.int (sA σ 64 x3)), (.int ci_0), (.int x2)]) (w1 := mkC ra rb rc re rf rg σ) (fun _ _ => rfl) h (fun h => ?_)
        refine bfr_run 1 35 [some (.ref 59), some (.int x1), some (.int x2), some (.int x3)] [] [(.int ((sA σ 64 x3) - (sA σ 65 x3))), (.int ci_0), (.int x2)] (mkC ra rb rc re rf rg σ) (fun _ _ => rfl) ?_
        exact k_cRows_moreOut_b35 n d _ q (ih) _ _ _ _ _ _ _ _ _ _ _ _ _ h
      · exact k_cRows_moreOut_b40 n d _ q (ih) _ _ _ _ _ _ _ _ _ _ h
set_option maxRecDepth 100000 in
theorem k_cRows_moreOut (n d : Nat) (q : (Int32 × bS)) (x1 : Int32) (ra : Nat) (rb : Nat) (rc : Nat) (re : Nat) (rf : Value) (rg : Value) (σ : bS) (h : cRows_moreOut n x1 σ = some q) : bfr MT (d + 1) M_X5_moreOut 0 [some (.ref 59), some (.int x1), none, none] [] [] (mkC ra rb rc re rf rg σ) (some (.int q.1), mkC ra rb rc re rf rg q.2) := by
  unfold cRows_moreOut at h
  refine bfr_run 4 4 [some (.ref 59), some (.int x1), some (.int ci_0), some (.int ci_0)] [] [] (mkC ra rb rc re rf rg σ) (fun _ _ => rfl) ?_
  exact k_cRows_moreOut_b4 n d q _ _ _ _ _ _ _ _ _ _ _ h
set_option maxRecDepth 100000 in
theorem k_cRows_lastHelps_b73 (n d : Nat) (q : (Int32 × bS)) (s0 : Int32) (o0 : Option Value) (ra : Nat) (rb : Nat) (rc : Nat) (re : Nat) (rf : Value) (rg : Value) (σ : bS) (h : cRows_lastHelps_b73 n s0 σ = some q) : bfr MT (d + 2) M_X5_lastHelps 73 [o0] [] [(.int s0)] (mkC ra rb rc re rf rg σ) (some (.int q.1), mkC ra rb rc re rf rg q.2) := by
  unfold cRows_lastHelps_b73 at h
  exact bfr_bz (mk := mkC ra rb rc re rf rg) 1 (fun _ _ => rfl) h
set_option maxRecDepth 100000 in
theorem k_cRows_lastHelps_b68 (n d : Nat) (q : (Int32 × bS)) (o0 : Option Value) (ra : Nat) (rb : Nat) (rc : Nat) (re : Nat) (rf : Value) (rg : Value) (σ : bS) (h : cRows_lastHelps_b68 n σ = some q) : bfr MT (d + 2) M_X5_lastHelps 68 [o0] [] [] (mkC ra rb rc re rf rg σ) (some (.int q.1), mkC ra rb rc re rf rg q.2) := by
  unfold cRows_lastHelps_b68 at h
  refine bfr_run 2 73 [o0] [] [(.int ci_1)] (mkC ra rb rc re rf rg σ) (fun _ _ => rfl) ?_
  exact k_cRows_lastHelps_b73 n d q _ _ _ _ _ _ _ _ _ h
set_option maxRecDepth 100000 in
theorem k_cRows_lastHelps_b29 (n d : Nat) (q : (Int32 × bS)) (o0 : Option Value) (ra : Nat) (rb : Nat) (rc : Nat) (re : Nat) (rf : Value) (rg : Value) (σ : bS) (h : cRows_lastHelps_b29 n σ = some q) : bfr MT (d + 2) M_X5_lastHelps 29 [o0] [] [] (mkC ra rb rc re rf rg σ) (some (.int q.1), mkC ra rb rc re rf rg q.2) := by
  unfold cRows_lastHelps_b29 at h
  exact bfr_bz (mk := mkC ra rb rc re rf rg) 2 (fun _ _ => rfl) h
set_option maxRecDepth 100000 in
theorem k_cRows_lastHelps (n d : Nat) (q : (Int32 × bS)) (ra : Nat) (rb : Nat) (rc : Nat) (re : Nat) (rf : Value) (rg : Value) (σ : bS) (h : cRows_lastHelps n σ = some q) : bfr MT (d + 2) M_X5_lastHelps 0 [some (.ref 59)] [] [] (mkC ra rb rc re rf rg σ) (some (.int q.1), mkC ra rb rc re rf rg q.2) := by
  unfold cRows_lastHelps at h
  refine bfr_br 3 (pc1 := 29) (L1 := [some (.ref 59)]) (J1 := []) (st1 := []) (w1 := mkC ra rb rc re rf rg σ) (pc2 := 7) (L2 := [some (.ref 59)]) (J2 := []) (st2 := []) (w2 := mkC ra rb rc re rf rg σ) (fun _ _ => rfl) h (fun h => ?_) (fun h => ?_)
  · exact k_cRows_lastHelps_b29 n d q _ _ _ _ _ _ _ _ h
  · refine bfr_in (i := (sI σ 59 12)) (m := 6) 5 (pc1 := 16) (L1 := [some (.ref 59)]) (J1 := []) (st1 := [(.int (sA σ 64 (sI σ 59 12)))]) (w1 := mkC ra rb rc re rf rg σ) (fun _ _ => rfl) h (fun h => ?_)
    refine bfr_in (i := (sI σ 59 12)) (m := 6) 5 (pc1 := 25) (L1 := [some (.ref 59)]) (J1 := []) (st1 := [(.int (sA σ 65 (sI σ 59 12))), (.int (sA σ 64 (sI σ 59 12)))]) (w1 := mkC ra rb rc re rf rg σ) (fun _ _ => rfl) h (fun h => ?_)
    refine bfr_br 2 (pc1 := 29) (L1 := [some (.ref 59)]) (J1 := []) (st1 := []) (w1 := mkC ra rb rc re rf rg σ) (pc2 := 31) (L2 := [some (.ref 59)]) (J2 := []) (st2 := []) (w2 := mkC ra rb rc re rf rg σ) (fun _ _ => rfl) h (fun h => ?_) (fun h => ?_)
    · exact k_cRows_lastHelps_b29 n d q _ _ _ _ _ _ _ _ h
    · refine bfr_in (i := (sI σ 59 12)) (m := 6) 6 (pc1 := 41) (L1 := [some (.ref 59)]) (J1 := []) (st1 := [(.int (sA σ 66 (sI σ 59 12))), (.ref 59)]) (w1 := mkC ra rb rc re rf rg σ) (fun _ _ => rfl) h (fun h => ?_)
      refine bfr_call 1 (d1 := d + 1) (M1 := M_X5_moreOut) (vs := [(.ref 59), (.int (sA σ 66 (sI σ 59 12)))]) (w1 := mkC ra rb rc re rf rg σ) (pc2 := 44) (L2 := [some (.ref 59)]) (J2 := []) (rest := []) (fun a => some (.int a.1)) (fun a => mkC ra rb rc re rf rg a.2) (fun _ _ => rfl) h (fun a ha => k_cRows_moreOut n (d + 0) _ _ _ _ _ _ _ _ _ ha) (fun q1 _ h => ?_)
      refine bfr_br 1 (pc1 := 68) (L1 := [some (.ref 59)]) (J1 := []) (st1 := []) (w1 := mkC ra rb rc re rf rg q1.2) (pc2 := 47) (L2 := [some (.ref 59)]) (J2 := []) (st2 := []) (w2 := mkC ra rb rc re rf rg q1.2) (fun _ _ => rfl) h (fun h => ?_) (fun h => ?_)
      · exact k_cRows_lastHelps_b68 n d q _ _ _ _ _ _ _ _ h
      · refine bfr_in (i := (sI q1.2 59 12)) (m := 6) 5 (pc1 := 56) (L1 := [some (.ref 59)]) (J1 := []) (st1 := [(.int (sA q1.2 64 (sI q1.2 59 12)))]) (w1 := mkC ra rb rc re rf rg q1.2) (fun _ _ => rfl) h (fun h => ?_)
        refine bfr_in (i := (sI q1.2 59 12)) (m := 6) 5 (pc1 := 65) (L1 := [some (.ref 59)]) (J1 := []) (st1 := [(.int (sA q1.2 65 (sI q1.2 59 12))), (.int (sA q1.2 64 (sI q1.2 59 12)))]) (w1 := mkC ra rb rc re rf rg q1.2) (fun _ _ => rfl) h (fun h => ?_)
        refine bfr_br 1 (pc1 := 72) (L1 := [some (.ref 59)]) (J1 := []) (st1 := []) (w1 := mkC ra rb rc re rf rg q1.2) (pc2 := 68) (L2 := [some (.ref 59)]) (J2 := []) (st2 := []) (w2 := mkC ra rb rc re rf rg q1.2) (fun _ _ => rfl) h (fun h => ?_) (fun h => ?_)
        · refine bfr_run 1 73 [some (.ref 59)] [] [(.int ci_0)] (mkC ra rb rc re rf rg q1.2) (fun _ _ => rfl) ?_
          exact k_cRows_lastHelps_b73 n d q _ _ _ _ _ _ _ _ _ h
        · exact k_cRows_lastHelps_b68 n d q _ _ _ _ _ _ _ _ h
set_option maxRecDepth 100000 in
theorem k_cRows_ringsOf_b104 (n d : Nat) (q : (Int32 × bS)) (s0 : Int32) (o0 : Option Value) (o1 : Option Value) (o2 : Option Value) (o3 : Option Value) (o4 : Option Value) (o5 : Option Value) (o6 : Option Value) (ra : Nat) (rb : Nat) (re : Nat) (rf : Value) (rg : Value) (σ : bS) (h : cRows_ringsOf_b104 n s0 σ = some q) : bfr MT (d + 3) M_X5_ringsOf 104 [o0, o1, o2, o3, o4, o5, o6] [] [(.int s0)] (mkC ra rb 1 re rf rg σ) (some (.int q.1), mkC ra rb 1 re rf rg q.2) := by
  unfold cRows_ringsOf_b104 at h
  cases h
  exact bfr_ret 1 (fun _ _ => rfl)
set_option maxRecDepth 100000 in
theorem k_cRows_ringsOf_b94 (n d : Nat) (q : (Int32 × bS)) (s0 : Int32) (o0 : Option Value) (o1 : Option Value) (o2 : Option Value) (o3 : Option Value) (o4 : Option Value) (o5 : Option Value) (o6 : Option Value) (ra : Nat) (rb : Nat) (re : Nat) (rf : Value) (rg : Value) (σ : bS) (h : cRows_ringsOf_b94 n s0 σ = some q) : bfr MT (d + 3) M_X5_ringsOf 94 [o0, o1, o2, o3, o4, o5, o6] [] [(.int s0)] (mkC ra rb 1 re rf rg σ) (some (.int q.1), mkC ra rb 1 re rf rg q.2) := by
  unfold cRows_ringsOf_b94 at h
  cases h
  exact bfr_ret 1 (fun _ _ => rfl)
set_option maxRecDepth 100000 in
theorem k_cRows_ringsOf_b93 (n d : Nat) (q : (Int32 × bS)) (s0 : Int32) (s1 : Int32) (o0 : Option Value) (o1 : Option Value) (o2 : Option Value) (o3 : Option Value) (o4 : Option Value) (o5 : Option Value) (o6 : Option Value) (ra : Nat) (rb : Nat) (re : Nat) (rf : Value) (rg : Value) (σ : bS) (h : cRows_ringsOf_b93 n s0 s1 σ = some q) : bfr MT (d + 3) M_X5_ringsOf 93 [o0, o1, o2, o3, o4, o5, o6] [] [(.int s1), (.int s0)] (mkC ra rb 1 re rf rg σ) (some (.int q.1), mkC ra rb 1 re rf rg q.2) := by
  unfold cRows_ringsOf_b93 at h
  refine bfr_run 1 94 [o0, o1, o2, o3, o4, o5, o6] [] [(.int (s0 - s1))] (mkC ra rb 1 re rf rg σ) (fun _ _ => rfl) ?_
  exact k_cRows_ringsOf_b94 n d q _ _ _ _ _ _ _ _ _ _ _ _ _ _ h
set_option maxRecDepth 100000 in
theorem k_cRows_ringsOf_b68 (n d : Nat) (r14 : Int32 → Int32 → Int32 → Int32 → Int32 → bS → Option (Int32 × bS)) (q : (Int32 × bS)) (hr14 : ∀ (x1 : Int32) (x2 : Int32) (x3 : Int32) (x4 : Int32) (x5 : Int32) (o6 : Option Value) (ra : Nat) (rb : Nat) (re : Nat) (rf : Value) (rg : Value) (σ : bS), r14 x1 x2 x3 x4 x5 σ = some q → bfr MT (d + 3) M_X5_ringsOf 14 [some (.ref 59), some (.int x1), some (.int x2), some (.int x3), some (.int x4), some (.int x5), o6] [] [] (mkC ra rb 1 re rf rg σ) (some (.int q.1), mkC ra rb 1 re rf rg q.2)) (x1 : Int32) (x2 : Int32) (x3 : Int32) (x4 : Int32) (x5 : Int32) (o6 : Option Value) (ra : Nat) (rb : Nat) (re : Nat) (rf : Value) (rg : Value) (σ : bS) (h : cRows_ringsOf_b68 n r14 x1 x2 x3 x4 x5 σ = some q) : bfr MT (d + 3) M_X5_ringsOf 68 [some (.ref 59), some (.int x1), some (.int x2), some (.int x3), some (.int x4), some (.int x5), o6] [] [] (mkC ra rb 1 re rf rg σ) (some (.int q.1), mkC ra rb 1 re rf rg q.2) := by
  unfold cRows_ringsOf_b68 at h
  refine bfr_run 1 71 [some (.ref 59), some (.int x1), some (.int x2), some (.int x3), some (.int x4), some (.int (x5 + ci_1)), o6] [] [] (mkC ra rb 1 re rf rg σ) (fun _ _ => rfl) ?_
  refine bfr_run 1 14 [some (.ref 59), some (.int x1), some (.int x2), some (.int x3), some (.int x4), some (.int (x5 + ci_1)), o6] [] [] (mkC ra rb 1 re rf rg σ) (fun _ _ => rfl) ?_
  exact hr14 _ _ _ _ _ _ _ _ _ _ _ _ h
set_option maxRecDepth 100000 in
theorem k_cRows_ringsOf_b55 (n d : Nat) (r14 : Int32 → Int32 → Int32 → Int32 → Int32 → bS → Option (Int32 × bS)) (q : (Int32 × bS)) (hr14 : ∀ (x1 : Int32) (x2 : Int32) (x3 : Int32) (x4 : Int32) (x5 : Int32) (o6 : Option Value) (ra : Nat) (rb : Nat) (re : Nat) (rf : Value) (rg : Value) (σ : bS), r14 x1 x2 x3 x4 x5 σ = some q → bfr MT (d + 3) M_X5_ringsOf 14 [some (.ref 59), some (.int x1), some (.int x2), some (.int x3), some (.int x4), some (.int x5), o6] [] [] (mkC ra rb 1 re rf rg σ) (some (.int q.1), mkC ra rb 1 re rf rg q.2)) (x1 : Int32) (x2 : Int32) (x4 : Int32) (x5 : Int32) (x6 : Int32) (s0 : Int32) (s1 : Int32) (o3 : Option Value) (ra : Nat) (rb : Nat) (re : Nat) (rf : Value) (rg : Value) (σ : bS) (h : cRows_ringsOf_b55 n r14 x1 x2 x4 x5 x6 s0 s1 σ = some q) : bfr MT (d + 3) M_X5_ringsOf 55 [some (.ref 59), some (.int x1), some (.int x2), o3, some (.int x4), some (.int x5), some (.int x6)] [] [(.int s1), (.int s0)] (mkC ra rb 1 re rf rg σ) (some (.int q.1), mkC ra rb 1 re rf rg q.2) := by
  unfold cRows_ringsOf_b55 at h
  refine bfr_call 6 (d1 := d + 2) (M1 := M_J9_max_7cf53) (vs := [(.int ci_1), (.int x6)]) (w1 := mkC ra rb 1 re rf rg σ) (pc2 := 65) (L2 := [some (.ref 59), some (.int x1), some (.int x2), some (.int (s0 + s1)), some (.int x4), some (.int x5), some (.int x6)]) (J2 := []) (rest := [(.int x4)]) (fun a => some (.int a.1)) (fun a => mkC ra rb 1 re rf rg a.2) (fun _ _ => rfl) h (fun a ha => k_cj_max n (d + 2) _ _ _ _ _ _ _ _ _ _ ha) (fun q1 _ h => ?_)
  refine bfr_run 2 68 [some (.ref 59), some (.int x1), some (.int x2), some (.int (s0 + s1)), some (.int (x4 + q1.1)), some (.int x5), some (.int x6)] [] [] (mkC ra rb 1 re rf rg q1.2) (fun _ _ => rfl) ?_
  exact k_cRows_ringsOf_b68 n d _ q hr14 _ _ _ _ _ _ _ _ _ _ _ _ h
set_option maxRecDepth 100000 in
theorem k_cRows_ringsOf_b14 (n d : Nat) (q : (Int32 × bS)) : ∀ (k : Nat) (x1 : Int32) (x2 : Int32) (x3 : Int32) (x4 : Int32) (x5 : Int32) (o6 : Option Value) (ra : Nat) (rb : Nat) (re : Nat) (rf : Value) (rg : Value) (σ : bS), cRows_ringsOf_b14 n k x1 x2 x3 x4 x5 σ = some q → bfr MT (d + 3) M_X5_ringsOf 14 [some (.ref 59), some (.int x1), some (.int x2), some (.int x3), some (.int x4), some (.int x5), o6] [] [] (mkC ra rb 1 re rf rg σ) (some (.int q.1), mkC ra rb 1 re rf rg q.2) := by
  intro k
  induction k with
  | zero => intro x1 x2 x3 x4 x5 o6 ra rb re rf rg σ h; exact bno h
  | succ k ih =>
    intro x1 x2 x3 x4 x5 o6 ra rb re rf rg σ h
    unfold cRows_ringsOf_b14 at h
    refine bfr_br 3 (pc1 := 74) (L1 := [some (.ref 59), some (.int x1), some (.int x2), some (.int x3), some (.int x4), some (.int x5), o6]) (J1 := []) (st1 := []) (w1 := mkC ra rb 1 re rf rg σ) (pc2 := 21) (L2 := [some (.ref 59), some (.int x1), some (.int x2), some (.int x3), some (.int x4), some (.int x5), o6]) (J2 := []) (st2 := []) (w2 := mkC ra rb 1 re rf rg σ) (fun _ _ => rfl) h (fun h => ?_) (fun h => ?_)
    · refine bfr_br 3 (pc1 := 79) (L1 := [some (.ref 59), some (.int x1), some (.int x2), some (.int x3), some (.int x4), some (.int x5), o6]) (J1 := []) (st1 := []) (w1 := mkC ra rb 1 re rf rg σ) (pc2 := 95) (L2 := [some (.ref 59), some (.int x1), some (.int x2), some (.int x3), some (.int x4), some (.int x5), o6]) (J2 := []) (st2 := []) (w2 := mkC ra rb 1 re rf rg σ) (fun _ _ => rfl) h (fun h => ?_) (fun h => ?_)
      · refine bfr_call 3 (d1 := d + 2) (M1 := M_X5_lastHelps) (vs := [(.ref 59)]) (w1 := mkC ra rb 1 re rf rg σ) (pc2 := 85) (L2 := [some (.ref 59), some (.int x1), some (.int x2), some (.int x3), some (.int x4), some (.int x5), o6]) (J2 := []) (rest := [(.int x4)]) (fun a => some (.int a.1)) (fun a => mkC ra rb 1 re rf rg a.2) (fun _ _ => rfl) h (fun a ha => k_cRows_lastHelps n (d + 0) _ _ _ _ _ _ _ _ ha) (fun q2 _ h => ?_)
        refine bfr_br 1 (pc1 := 92) (L1 := [some (.ref 59), some (.int x1), some (.int x2), some (.int x3), some (.int x4), some (.int x5), o6]) (J1 := []) (st1 := [(.int x4)]) (w1 := mkC ra rb 1 re rf rg q2.2) (pc2 := 88) (L2 := [some (.ref 59), some (.int x1), some (.int x2), some (.int x3), some (.int x4), some (.int x5), o6]) (J2 := []) (st2 := [(.int x4)]) (w2 := mkC ra rb 1 re rf rg q2.2) (fun _ _ => rfl) h (fun h => ?_) (fun h => ?_)
        · refine bfr_run 1 93 [some (.ref 59), some (.int x1), some (.int x2), some (.int x3), some (.int x4), some (.int x5), o6] [] [(.int ci_0), (.int x4)] (mkC ra rb 1 re rf rg q2.2) (fun _ _ => rfl) ?_
          exact k_cRows_ringsOf_b93 n d q _ _ _ _ _ _ _ _ _ _ _ _ _ _ _ h
        · refine bfr_run 2 93 [some (.ref 59), some (.int x1), some (.int x2), some (.int x3), some (.int x4), some (.int x5), o6] [] [(.int ci_1), (.int x4)] (mkC ra rb 1 re rf rg q2.2) (fun _ _ => rfl) ?_
          exact k_cRows_ringsOf_b93 n d q _ _ _ _ _ _ _ _ _ _ _ _ _ _ _ h
      · refine bfr_br 2 (pc1 := 99) (L1 := [some (.ref 59), some (.int x1), some (.int x2), some (.int x3), some (.int x4), some (.int x5), o6]) (J1 := []) (st1 := []) (w1 := mkC ra rb 1 re rf rg σ) (pc2 := 103) (L2 := [some (.ref 59), some (.int x1), some (.int x2), some (.int x3), some (.int x4), some (.int x5), o6]) (J2 := []) (st2 := []) (w2 := mkC ra rb 1 re rf rg σ) (fun _ _ => rfl) h (fun h => ?_) (fun h => ?_)
        · refine bfr_run 2 104 [some (.ref 59), some (.int x1), some (.int x2), some (.int x3), some (.int x4), some (.int x5), o6] [] [(.int x2)] (mkC ra rb 1 re rf rg σ) (fun _ _ => rfl) ?_
          exact k_cRows_ringsOf_b104 n d q _ _ _ _ _ _ _ _ _ _ _ _ _ _ h
        · refine bfr_run 1 104 [some (.ref 59), some (.int x1), some (.int x2), some (.int x3), some (.int x4), some (.int x5), o6] [] [(.int x3)] (mkC ra rb 1 re rf rg σ) (fun _ _ => rfl) ?_
          exact k_cRows_ringsOf_b104 n d q _ _ _ _ _ _ _ _ _ _ _ _ _ _ h
    · refine bfr_call 3 (d1 := d + 2) (M1 := M_X5_hasArcs) (vs := [(.ref 59), (.int x5)]) (w1 := mkC ra rb 1 re rf rg σ) (pc2 := 27) (L2 := [some (.ref 59), some (.int x1), some (.int x2), some (.int x3), some (.int x4), some (.int x5), o6]) (J2 := []) (rest := []) (fun a => some (.int a.1)) (fun a => mkC ra rb 1 re rf rg a.2) (fun _ _ => rfl) h (fun a ha => k_cRows_hasArcs n (d + 2) _ _ _ _ _ _ _ _ _ ha) (fun q3 _ h => ?_)
      refine bfr_br 1 (pc1 := 30) (L1 := [some (.ref 59), some (.int x1), some (.int x2), some (.int x3), some (.int x4), some (.int x5), o6]) (J1 := []) (st1 := []) (w1 := mkC ra rb 1 re rf rg q3.2) (pc2 := 33) (L2 := [some (.ref 59), some (.int x1), some (.int x2), some (.int x3), some (.int x4), some (.int x5), o6]) (J2 := []) (st2 := []) (w2 := mkC ra rb 1 re rf rg q3.2) (fun _ _ => rfl) h (fun h => ?_) (fun h => ?_)
      · refine bfr_run 1 68 [some (.ref 59), some (.int x1), some (.int x2), some (.int x3), some (.int x4), some (.int x5), o6] [] [] (mkC ra rb 1 re rf rg q3.2) (fun _ _ => rfl) ?_
        exact k_cRows_ringsOf_b68 n d _ q (ih) _ _ _ _ _ _ _ _ _ _ _ _ h
      · refine bfr_call 3 (d1 := d + 2) (M1 := M_X5_moreOut) (vs := [(.ref 59), (.int x5)]) (w1 := mkC ra rb 1 re rf rg q3.2) (pc2 := 39) (L2 := [some (.ref 59), some (.int x1), some (.int x2), some (.int x3), some (.int x4), some (.int x5), o6]) (J2 := []) (rest := []) (fun a => some (.int a.1)) (fun a => mkC ra rb 1 re rf rg a.2) (fun _ _ => rfl) h (fun a ha => k_cRows_moreOut n (d + 1) _ _ _ _ _ _ _ _ _ ha) (fun q4 _ h => ?_)
        refine bfr_run 2 44 [some (.ref 59), some (.int x1), some (.int (x2 + ci_1)), some (.int x3), some (.int x4), some (.int x5), some (.int q4.1)] [] [] (mkC ra rb 1 re rf rg q4.2) (fun _ _ => rfl) ?_
        refine bfr_br 3 (pc1 := 50) (L1 := [some (.ref 59), some (.int x1), some (.int (x2 + ci_1)), some (.int x3), some (.int x4), some (.int x5), some (.int q4.1)]) (J1 := []) (st1 := [(.int x3)]) (w1 := mkC ra rb 1 re rf rg q4.2) (pc2 := 54) (L2 := [some (.ref 59), some (.int x1), some (.int (x2 + ci_1)), some (.int x3), some (.int x4), some (.int x5), some (.int q4.1)]) (J2 := []) (st2 := [(.int x3)]) (w2 := mkC ra rb 1 re rf rg q4.2) (fun _ _ => rfl) h (fun h => ?_) (fun h => ?_)
        · refine bfr_run 2 55 [some (.ref 59), some (.int x1), some (.int (x2 + ci_1)), some (.int x3), some (.int x4), some (.int x5), some (.int q4.1)] [] [(.int ci_1), (.int x3)] (mkC ra rb 1 re rf rg q4.2) (fun _ _ => rfl) ?_
          exact k_cRows_ringsOf_b55 n d _ q (ih) _ _ _ _ _ _ _ _ _ _ _ _ _ _ h
        · refine bfr_run 1 55 [some (.ref 59), some (.int x1), some (.int (x2 + ci_1)), some (.int x3), some (.int x4), some (.int x5), some (.int q4.1)] [] [(.int ci_0), (.int x3)] (mkC ra rb 1 re rf rg q4.2) (fun _ _ => rfl) ?_
          exact k_cRows_ringsOf_b55 n d _ q (ih) _ _ _ _ _ _ _ _ _ _ _ _ _ _ h
set_option maxRecDepth 100000 in
theorem k_cRows_ringsOf (n d : Nat) (q : (Int32 × bS)) (x1 : Int32) (ra : Nat) (rb : Nat) (re : Nat) (rf : Value) (rg : Value) (σ : bS) (h : cRows_ringsOf n x1 σ = some q) : bfr MT (d + 3) M_X5_ringsOf 0 [some (.ref 59), some (.int x1), none, none, none, none, none] [] [] (mkC ra rb 1 re rf rg σ) (some (.int q.1), mkC ra rb 1 re rf rg q.2) := by
  unfold cRows_ringsOf at h
  refine bfr_call 2 (d1 := d + 2) (M1 := M_X5_drawArcs) (vs := [(.ref 59)]) (w1 := mkC ra rb 1 re rf rg σ) (pc2 := 4) (L2 := [some (.ref 59), some (.int x1), none, none, none, none, none]) (J2 := []) (rest := []) (fun _ => none) (fun a => mkC ra rb 1 re rf rg a) (fun _ _ => rfl) h (fun a ha => k_cRows_drawArcs n (d + 0) _ _ _ _ _ _ _ ha) (fun q5 _ h => ?_)
  refine bfr_run 6 11 [some (.ref 59), some (.int x1), some (.int ci_0), some (.int ci_0), some (.int ci_0), none, none] [] [] (mkC ra rb 1 re rf rg q5) (fun _ _ => rfl) ?_
  refine bfr_run 2 14 [some (.ref 59), some (.int x1), some (.int ci_0), some (.int ci_0), some (.int ci_0), some (.int ci_0), none] [] [] (mkC ra rb 1 re rf rg q5) (fun _ _ => rfl) ?_
  exact k_cRows_ringsOf_b14 n d q _ _ _ _ _ _ _ _ _ _ _ _ _ h
set_option maxRecDepth 100000 in
theorem k_cTop_rings_b19 (n d : Nat) (q : (Int32 × bS)) (x1 : Int32) (x2 : Int32) (x3 : Int32) (s0 : Int32) (o4 : Option Value) (rb : Nat) (re : Nat) (rf : Value) (rg : Value) (σ : bS) (h : cTop_rings_b19 n x1 x2 x3 s0 σ = some q) : bfr MT (d + 4) M_X11_rings 19 [some (.ref 0), some (.int x1), some (.int x2), some (.int x3), o4] [] [(.int s0)] (mkC 1 rb 1 re rf rg σ) (some (.int q.1), mkC 1 rb 1 re rf rg q.2) := by
  unfold cTop_rings_b19 at h
  refine bfr_br 3 (pc1 := 29) (L1 := [some (.ref 0), some (.int x1), some (.int x2), some (.int x3), some (.int s0)]) (J1 := []) (st1 := []) (w1 := mkC 1 rb 1 re rf rg σ) (pc2 := 26) (L2 := [some (.ref 0), some (.int x1), some (.int x2), some (.int x3), some (.int s0)]) (J2 := []) (st2 := []) (w2 := mkC 1 rb 1 re rf rg σ) (fun _ _ => rfl) h (fun h => ?_) (fun h => ?_)
  · refine bfr_call 6 (d1 := d + 3) (M1 := M_X5_prepare) (vs := [(.ref 59), (.int x1), (.int x2), (.int ci_1)]) (w1 := mkC 1 rb 1 re rf rg σ) (pc2 := 39) (L2 := [some (.ref 0), some (.int x1), some (.int x2), some (.int x3), some (.int s0)]) (J2 := []) (rest := []) (fun _ => none) (fun a => mkC 1 rb 1 re rf rg a) (fun _ _ => rfl) h (fun a ha => k_cRows_prepare n (d + 0) _ _ _ _ _ _ _ _ _ _ ha) (fun q1 _ h => ?_)
    refine bfr_call 4 (d1 := d + 3) (M1 := M_X5_ringsOf) (vs := [(.ref 59), (.int x3)]) (w1 := mkC 1 rb 1 re rf rg q1) (pc2 := 47) (L2 := [some (.ref 0), some (.int x1), some (.int x2), some (.int x3), some (.int s0)]) (J2 := []) (rest := []) (fun a => some (.int a.1)) (fun a => mkC 1 rb 1 re rf rg a.2) (fun _ _ => rfl) h (fun a ha => k_cRows_ringsOf n (d + 0) _ _ _ _ _ _ _ _ ha) (fun q2 _ h => ?_)
    cases h
    exact bfr_ret 1 (fun _ _ => rfl)
  · cases h
    exact bfr_ret 2 (fun _ _ => rfl)
set_option maxRecDepth 100000 in
theorem k_cTop_rings_b9 (n d : Nat) (q : (Int32 × bS)) (x1 : Int32) (x2 : Int32) (x3 : Int32) (o4 : Option Value) (rb : Nat) (re : Nat) (rf : Value) (rg : Value) (σ : bS) (h : cTop_rings_b9 n x1 x2 x3 σ = some q) : bfr MT (d + 4) M_X11_rings 9 [some (.ref 0), some (.int x1), some (.int x2), some (.int x3), o4] [] [] (mkC 1 rb 1 re rf rg σ) (some (.int q.1), mkC 1 rb 1 re rf rg q.2) := by
  unfold cTop_rings_b9 at h
  refine bfr_run 2 19 [some (.ref 0), some (.int x1), some (.int x2), some (.int x3), o4] [] [(.int ci_m1)] (mkC 1 rb 1 re rf rg σ) (fun _ _ => rfl) ?_
  exact k_cTop_rings_b19 n d q _ _ _ _ _ _ _ _ _ _ h
set_option maxRecDepth 100000 in
theorem k_cTop_rings (n d : Nat) (q : (Int32 × bS)) (x1 : Int32) (x2 : Int32) (x3 : Int32) (rb : Nat) (re : Nat) (rf : Value) (rg : Value) (σ : bS) (h : cTop_rings n x1 x2 x3 σ = some q) : bfr MT (d + 4) M_X11_rings 0 [some (.ref 0), some (.int x1), some (.int x2), some (.int x3), none] [] [] (mkC 1 rb 1 re rf rg σ) (some (.int q.1), mkC 1 rb 1 re rf rg q.2) := by
  unfold cTop_rings at h
  refine bfr_br 2 (pc1 := 9) (L1 := [some (.ref 0), some (.int x1), some (.int x2), some (.int x3), none]) (J1 := []) (st1 := []) (w1 := mkC 1 rb 1 re rf rg σ) (pc2 := 4) (L2 := [some (.ref 0), some (.int x1), some (.int x2), some (.int x3), none]) (J2 := []) (st2 := []) (w2 := mkC 1 rb 1 re rf rg σ) (fun _ _ => rfl) h (fun h => ?_) (fun h => ?_)
  · exact k_cTop_rings_b9 n d q _ _ _ _ _ _ _ _ _ h
  · refine bfr_br 3 (pc1 := 13) (L1 := [some (.ref 0), some (.int x1), some (.int x2), some (.int x3), none]) (J1 := []) (st1 := []) (w1 := mkC 1 rb 1 re rf rg σ) (pc2 := 9) (L2 := [some (.ref 0), some (.int x1), some (.int x2), some (.int x3), none]) (J2 := []) (st2 := []) (w2 := mkC 1 rb 1 re rf rg σ) (fun _ _ => rfl) h (fun h => ?_) (fun h => ?_)
    · refine bfr_call 4 (d1 := d + 3) (M1 := M_X11_rowFault) (vs := [(.ref 0), (.int x1), (.int x2)]) (w1 := mkC 1 rb 1 re rf rg σ) (pc2 := 19) (L2 := [some (.ref 0), some (.int x1), some (.int x2), some (.int x3), none]) (J2 := []) (rest := []) (fun a => some (.int a.1)) (fun a => mkC 1 rb 1 re rf rg a.2) (fun _ _ => rfl) h (fun a ha => k_cTop_rowFault n (d + 2) _ _ _ _ _ _ _ _ ha) (fun q3 _ h => ?_)
      exact k_cTop_rings_b19 n d q _ _ _ _ _ _ _ _ _ _ h
    · exact k_cTop_rings_b9 n d q _ _ _ _ _ _ _ _ _ h
set_option maxRecDepth 100000 in
theorem k_cTop_isGame_b14 (n d : Nat) (q : (Int32 × bS)) (s0 : Int32) (o0 : Option Value) (o1 : Option Value) (o2 : Option Value) (rb : Nat) (re : Nat) (rf : Value) (rg : Value) (σ : bS) (h : cTop_isGame_b14 n s0 σ = some q) : bfr MT (d + 2) M_X11_isGame 14 [o0, o1, o2] [] [(.int s0)] (mkC 1 rb 1 re rf rg σ) (some (.int q.1), mkC 1 rb 1 re rf rg q.2) := by
  unfold cTop_isGame_b14 at h
  exact bfr_bz (mk := mkC 1 rb 1 re rf rg) 1 (fun _ _ => rfl) h
set_option maxRecDepth 100000 in
theorem k_cTop_isGame (n d : Nat) (q : (Int32 × bS)) (x1 : Int32) (x2 : Int32) (rb : Nat) (re : Nat) (rf : Value) (rg : Value) (σ : bS) (h : cTop_isGame n x1 x2 σ = some q) : bfr MT (d + 2) M_X11_isGame 0 [some (.ref 0), some (.int x1), some (.int x2)] [] [] (mkC 1 rb 1 re rf rg σ) (some (.int q.1), mkC 1 rb 1 re rf rg q.2) := by
  unfold cTop_isGame at h
  refine bfr_call 4 (d1 := d + 1) (M1 := M_X11_rowFault) (vs := [(.ref 0), (.int x1), (.int x2)]) (w1 := mkC 1 rb 1 re rf rg σ) (pc2 := 6) (L2 := [some (.ref 0), some (.int x1), some (.int x2)]) (J2 := []) (rest := []) (fun a => some (.int a.1)) (fun a => mkC 1 rb 1 re rf rg a.2) (fun _ _ => rfl) h (fun a ha => k_cTop_rowFault n (d + 0) _ _ _ _ _ _ _ _ ha) (fun q1 _ h => ?_)
  refine bfr_br 1 (pc1 := 9) (L1 := [some (.ref 0), some (.int x1), some (.int x2)]) (J1 := []) (st1 := []) (w1 := mkC 1 rb 1 re rf rg q1.2) (pc2 := 13) (L2 := [some (.ref 0), some (.int x1), some (.int x2)]) (J2 := []) (st2 := []) (w2 := mkC 1 rb 1 re rf rg q1.2) (fun _ _ => rfl) h (fun h => ?_) (fun h => ?_)
  · refine bfr_run 2 14 [some (.ref 0), some (.int x1), some (.int x2)] [] [(.int ci_1)] (mkC 1 rb 1 re rf rg q1.2) (fun _ _ => rfl) ?_
    exact k_cTop_isGame_b14 n d q _ _ _ _ _ _ _ _ _ h
  · refine bfr_run 1 14 [some (.ref 0), some (.int x1), some (.int x2)] [] [(.int ci_0)] (mkC 1 rb 1 re rf rg q1.2) (fun _ _ => rfl) ?_
    exact k_cTop_isGame_b14 n d q _ _ _ _ _ _ _ _ _ h
set_option maxRecDepth 100000 in
theorem k_cGame_landAllAt_b44 (n d : Nat) (r2 : Int32 → Int32 → bS → Option bS) (q : bS) (hr2 : ∀ (x1 : Int32) (x2 : Int32) (ra : Nat) (rb : Nat) (re : Nat) (rf : Value) (rg : Value) (σ : bS), r2 x1 x2 σ = some q → bfr MT (d + 1) M_X0_landAllAt 2 [some (.ref 68), some (.int x1), some (.int x2)] [] [] (mkC ra rb 1 re rf rg σ) (none, mkC ra rb 1 re rf rg q)) (x1 : Int32) (x2 : Int32) (ra : Nat) (rb : Nat) (re : Nat) (rf : Value) (rg : Value) (σ : bS) (h : cGame_landAllAt_b44 n r2 x1 x2 σ = some q) : bfr MT (d + 1) M_X0_landAllAt 44 [some (.ref 68), some (.int x1), some (.int x2)] [] [] (mkC ra rb 1 re rf rg σ) (none, mkC ra rb 1 re rf rg q) := by
  unfold cGame_landAllAt_b44 at h
  refine bfr_run 1 47 [some (.ref 68), some (.int x1), some (.int (x2 + ci_1))] [] [] (mkC ra rb 1 re rf rg σ) (fun _ _ => rfl) ?_
  refine bfr_run 1 2 [some (.ref 68), some (.int x1), some (.int (x2 + ci_1))] [] [] (mkC ra rb 1 re rf rg σ) (fun _ _ => rfl) ?_
  exact hr2 _ _ _ _ _ _ _ _ h
set_option maxRecDepth 100000 in
theorem k_cGame_landAllAt_b2 (n d : Nat) (q : bS) : ∀ (k : Nat) (x1 : Int32) (x2 : Int32) (ra : Nat) (rb : Nat) (re : Nat) (rf : Value) (rg : Value) (σ : bS), cGame_landAllAt_b2 n k x1 x2 σ = some q → bfr MT (d + 1) M_X0_landAllAt 2 [some (.ref 68), some (.int x1), some (.int x2)] [] [] (mkC ra rb 1 re rf rg σ) (none, mkC ra rb 1 re rf rg q) := by
  intro k
  induction k with
  | zero => intro x1 x2 ra rb re rf rg σ h; exact bno h
  | succ k ih =>
    intro x1 x2 ra rb re rf rg σ h
    unfold cGame_landAllAt_b2 at h
    refine bfr_br 3 (pc1 := 50) (L1 := [some (.ref 68), some (.int x1), some (.int x2)]) (J1 := []) (st1 := []) (w1 := mkC ra rb 1 re rf rg σ) (pc2 := 8) (L2 := [some (.ref 68), some (.int x1), some (.int x2)]) (J2 := []) (st2 := []) (w2 := mkC ra rb 1 re rf rg σ) (fun _ _ => rfl) h (fun h => ?_) (fun h => ?_)
    · refine bfr_run 3 55 [some (.ref 68), some (.int x1), some (.int x2)] [] [] ((mkC ra rb 1 re rf rg σ).set 68 (.inr (.inr (0, (mkC_68  ra rb 1 re rf rg σ).set 4 (.int ci_0))))) (fun _ _ => rfl) ?_
      rw [mkC_I68_4]
      cases h
      exact bfr_ret 1 (fun _ _ => rfl)
    · refine bfr_run 6 16 [some (.ref 68), some (.int x1), some (.int x2)] [] [(.int (((sI σ 68 4) >>> (x2 &&& 31)) &&& ci_1))] (mkC ra rb 1 re rf rg σ) (fun _ _ => rfl) ?_
      refine bfr_br 2 (pc1 := 20) (L1 := [some (.ref 68), some (.int x1), some (.int x2)]) (J1 := []) (st1 := []) (w1 := mkC ra rb 1 re rf rg σ) (pc2 := 44) (L2 := [some (.ref 68), some (.int x1), some (.int x2)]) (J2 := []) (st2 := []) (w2 := mkC ra rb 1 re rf rg σ) (fun _ _ => rfl) h (fun h => ?_) (fun h => ?_)
      · refine bfr_call 4 (d1 := d + 0) (M1 := M_X5_homeOf) (vs := [(.ref 59), (.int x2)]) (w1 := mkC ra rb 1 re rf rg σ) (pc2 := 28) (L2 := [some (.ref 68), some (.int x1), some (.int x2)]) (J2 := []) (rest := []) (fun a => some (.int a.1)) (fun a => mkC ra rb 1 re rf rg a.2) (fun _ _ => rfl) h (fun a ha => k_cRows_homeOf n (d + 0) _ _ _ _ _ _ _ _ ha) (fun q1 _ h => ?_)
        refine bfr_br 2 (pc1 := 32) (L1 := [some (.ref 68), some (.int x1), some (.int x2)]) (J1 := []) (st1 := []) (w1 := mkC ra rb 1 re rf rg q1.2) (pc2 := 44) (L2 := [some (.ref 68), some (.int x1), some (.int x2)]) (J2 := []) (st2 := []) (w2 := mkC ra rb 1 re rf rg q1.2) (fun _ _ => rfl) h (fun h => ?_) (fun h => ?_)
        · refine bfr_run 6 40 [some (.ref 68), some (.int x1), some (.int x2)] [] [(.int (ci_1 <<< (x2 &&& 31))), (.int (sI q1.2 68 5)), (.ref 68)] (mkC ra rb 1 re rf rg q1.2) (fun _ _ => rfl) ?_
          refine bfr_run 2 44 [some (.ref 68), some (.int x1), some (.int x2)] [] [] ((mkC ra rb 1 re rf rg q1.2).set 68 (.inr (.inr (0, (mkC_68  ra rb 1 re rf rg q1.2).set 5 (.int ((sI q1.2 68 5) ||| (ci_1 <<< (x2 &&& 31)))))))) (fun _ _ => rfl) ?_
          rw [mkC_I68_5]
          exact k_cGame_landAllAt_b44 n d _ q (ih) _ _ _ _ _ _ _ _ h
        · exact k_cGame_landAllAt_b44 n d _ q (ih) _ _ _ _ _ _ _ _ h
      · exact k_cGame_landAllAt_b44 n d _ q (ih) _ _ _ _ _ _ _ _ h
set_option maxRecDepth 100000 in
theorem k_cGame_landAllAt (n d : Nat) (q : bS) (x1 : Int32) (ra : Nat) (rb : Nat) (re : Nat) (rf : Value) (rg : Value) (σ : bS) (h : cGame_landAllAt n x1 σ = some q) : bfr MT (d + 1) M_X0_landAllAt 0 [some (.ref 68), some (.int x1), none] [] [] (mkC ra rb 1 re rf rg σ) (none, mkC ra rb 1 re rf rg q) := by
  unfold cGame_landAllAt at h
  refine bfr_run 2 2 [some (.ref 68), some (.int x1), some (.int ci_0)] [] [] (mkC ra rb 1 re rf rg σ) (fun _ _ => rfl) ?_
  exact k_cGame_landAllAt_b2 n d q _ _ _ _ _ _ _ _ _ h
set_option maxRecDepth 100000 in
theorem k_cGame_crossAll_b91 (n d : Nat) (r9 : Int32 → Int32 → Int32 → Int32 → bS → Option (Int32 × bS)) (q : (Int32 × bS)) (hr9 : ∀ (x1 : Int32) (x4 : Int32) (x5 : Int32) (x6 : Int32) (o2 : Option Value) (o3 : Option Value) (o7 : Option Value) (ra : Nat) (rb : Nat) (re : Nat) (rf : Value) (rg : Value) (σ : bS), r9 x1 x4 x5 x6 σ = some q → bfr MT (d + 2) M_X0_crossAll 9 [some (.ref 68), some (.int x1), o2, o3, some (.int x4), some (.int x5), some (.int x6), o7] [] [] (mkC ra rb 1 re rf rg σ) (some (.int q.1), mkC ra rb 1 re rf rg q.2)) (x1 : Int32) (x4 : Int32) (x5 : Int32) (x6 : Int32) (o2 : Option Value) (o3 : Option Value) (o7 : Option Value) (ra : Nat) (rb : Nat) (re : Nat) (rf : Value) (rg : Value) (σ : bS) (h : cGame_crossAll_b91 n r9 x1 x4 x5 x6 σ = some q) : bfr MT (d + 2) M_X0_crossAll 91 [some (.ref 68), some (.int x1), o2, o3, some (.int x4), some (.int x5), some (.int x6), o7] [] [] (mkC ra rb 1 re rf rg σ) (some (.int q.1), mkC ra rb 1 re rf rg q.2) := by
  unfold cGame_crossAll_b91 at h
  refine bfr_run 1 94 [some (.ref 68), some (.int x1), o2, o3, some (.int x4), some (.int x5), some (.int (x6 + ci_1)), o7] [] [] (mkC ra rb 1 re rf rg σ) (fun _ _ => rfl) ?_
  refine bfr_run 1 9 [some (.ref 68), some (.int x1), o2, o3, some (.int x4), some (.int x5), some (.int (x6 + ci_1)), o7] [] [] (mkC ra rb 1 re rf rg σ) (fun _ _ => rfl) ?_
  exact hr9 _ _ _ _ _ _ _ _ _ _ _ _ _ h
set_option maxRecDepth 100000 in
theorem k_cGame_crossAll_b77 (n d : Nat) (r9 : Int32 → Int32 → Int32 → Int32 → bS → Option (Int32 × bS)) (q : (Int32 × bS)) (hr9 : ∀ (x1 : Int32) (x4 : Int32) (x5 : Int32) (x6 : Int32) (o2 : Option Value) (o3 : Option Value) (o7 : Option Value) (ra : Nat) (rb : Nat) (re : Nat) (rf : Value) (rg : Value) (σ : bS), r9 x1 x4 x5 x6 σ = some q → bfr MT (d + 2) M_X0_crossAll 9 [some (.ref 68), some (.int x1), o2, o3, some (.int x4), some (.int x5), some (.int x6), o7] [] [] (mkC ra rb 1 re rf rg σ) (some (.int q.1), mkC ra rb 1 re rf rg q.2)) (x1 : Int32) (x5 : Int32) (x6 : Int32) (s0 : Int32) (o2 : Option Value) (o3 : Option Value) (o4 : Option Value) (o7 : Option Value) (ra : Nat) (rb : Nat) (re : Nat) (rf : Value) (rg : Value) (σ : bS) (h : cGame_crossAll_b77 n r9 x1 x5 x6 s0 σ = some q) : bfr MT (d + 2) M_X0_crossAll 77 [some (.ref 68), some (.int x1), o2, o3, o4, some (.int x5), some (.int x6), o7] [] [(.int s0)] (mkC ra rb 1 re rf rg σ) (some (.int q.1), mkC ra rb 1 re rf rg q.2) := by
  unfold cGame_crossAll_b77 at h
  refine bfr_in (i := x6) (m := 7) 6 (pc1 := 88) (L1 := [some (.ref 68), some (.int x1), o2, o3, some (.int s0), some (.int x5), some (.int x6), o7]) (J1 := []) (st1 := []) (w1 := ((mkC ra rb 1 re rf rg σ).set 70 (.inl (0, 7, upd (σ.2.1 70) (x6).toNatClampNeg x5)))) (fun _ _ => rfl) h (fun h => ?_)
  rw [mkC_A70]
  refine bfr_run 1 91 [some (.ref 68), some (.int x1), o2, o3, some (.int s0), some (.int (x5 + ci_1)), some (.int x6), o7] [] [] (mkC ra rb 1 re rf rg (uA σ 70 x6 x5)) (fun _ _ => rfl) ?_
  exact k_cGame_crossAll_b91 n d _ q hr9 _ _ _ _ _ _ _ _ _ _ _ _ _ h
set_option maxRecDepth 100000 in
theorem k_cGame_crossAll_b65 (n d : Nat) (r9 : Int32 → Int32 → Int32 → Int32 → bS → Option (Int32 × bS)) (q : (Int32 × bS)) (hr9 : ∀ (x1 : Int32) (x4 : Int32) (x5 : Int32) (x6 : Int32) (o2 : Option Value) (o3 : Option Value) (o7 : Option Value) (ra : Nat) (rb : Nat) (re : Nat) (rf : Value) (rg : Value) (σ : bS), r9 x1 x4 x5 x6 σ = some q → bfr MT (d + 2) M_X0_crossAll 9 [some (.ref 68), some (.int x1), o2, o3, some (.int x4), some (.int x5), some (.int x6), o7] [] [] (mkC ra rb 1 re rf rg σ) (some (.int q.1), mkC ra rb 1 re rf rg q.2)) (x1 : Int32) (x4 : Int32) (x5 : Int32) (x6 : Int32) (x7 : Int32) (o2 : Option Value) (o3 : Option Value) (ra : Nat) (rb : Nat) (re : Nat) (rf : Value) (rg : Value) (σ : bS) (h : cGame_crossAll_b65 n r9 x1 x4 x5 x6 x7 σ = some q) : bfr MT (d + 2) M_X0_crossAll 65 [some (.ref 68), some (.int x1), o2, o3, some (.int x4), some (.int x5), some (.int x6), some (.int x7)] [] [] (mkC ra rb 1 re rf rg σ) (some (.int q.1), mkC ra rb 1 re rf rg q.2) := by
  unfold cGame_crossAll_b65 at h
  refine bfr_br 2 (pc1 := 75) (L1 := [some (.ref 68), some (.int x1), o2, o3, some (.int x4), some (.int x5), some (.int x6), some (.int x7)]) (J1 := []) (st1 := []) (w1 := mkC ra rb 1 re rf rg σ) (pc2 := 70) (L2 := [some (.ref 68), some (.int x1), o2, o3, some (.int x4), some (.int x5), some (.int x6), some (.int x7)]) (J2 := []) (st2 := []) (w2 := mkC ra rb 1 re rf rg σ) (fun _ _ => rfl) h (fun h => ?_) (fun h => ?_)
  · refine bfr_run 1 77 [some (.ref 68), some (.int x1), o2, o3, some (.int x4), some (.int x5), some (.int x6), some (.int x7)] [] [(.int x7)] (mkC ra rb 1 re rf rg σ) (fun _ _ => rfl) ?_
    exact k_cGame_crossAll_b77 n d _ q hr9 _ _ _ _ _ _ _ _ _ _ _ _ _ _ h
  · refine bfr_run 2 77 [some (.ref 68), some (.int x1), o2, o3, some (.int x4), some (.int x5), some (.int x6), some (.int x7)] [] [(.int x4)] (mkC ra rb 1 re rf rg σ) (fun _ _ => rfl) ?_
    exact k_cGame_crossAll_b77 n d _ q hr9 _ _ _ _ _ _ _ _ _ _ _ _ _ _ h
set_option maxRecDepth 100000 in
theorem k_cGame_crossAll_b9 (n d : Nat) (q : (Int32 × bS)) : ∀ (k : Nat) (x1 : Int32) (x4 : Int32) (x5 : Int32) (x6 : Int32) (o2 : Option Value) (o3 : Option Value) (o7 : Option Value) (ra : Nat) (rb : Nat) (re : Nat) (rf : Value) (rg : Value) (σ : bS), cGame_crossAll_b9 n k x1 x4 x5 x6 σ = some q → bfr MT (d + 2) M_X0_crossAll 9 [some (.ref 68), some (.int x1), o2, o3, some (.int x4), some (.int x5), some (.int x6), o7] [] [] (mkC ra rb 1 re rf rg σ) (some (.int q.1), mkC ra rb 1 re rf rg q.2) := by
  intro k
  induction k with
  | zero => intro x1 x4 x5 x6 o2 o3 o7 ra rb re rf rg σ h; exact bno h
  | succ k ih =>
    intro x1 x4 x5 x6 o2 o3 o7 ra rb re rf rg σ h
    unfold cGame_crossAll_b9 at h
    refine bfr_br 3 (pc1 := 97) (L1 := [some (.ref 68), some (.int x1), o2, o3, some (.int x4), some (.int x5), some (.int x6), o7]) (J1 := []) (st1 := []) (w1 := mkC ra rb 1 re rf rg σ) (pc2 := 16) (L2 := [some (.ref 68), some (.int x1), o2, o3, some (.int x4), some (.int x5), some (.int x6), o7]) (J2 := []) (st2 := []) (w2 := mkC ra rb 1 re rf rg σ) (fun _ _ => rfl) h (fun h => ?_) (fun h => ?_)
    · cases h
      exact bfr_ret 2 (fun _ _ => rfl)
    · refine bfr_run 6 23 [some (.ref 68), some (.int x1), o2, o3, some (.int x4), some (.int x5), some (.int x6), o7] [] [(.int ci_1), (.int ((x1 >>> (x6 &&& 31)) &&& ci_1))] (mkC ra rb 1 re rf rg σ) (fun _ _ => rfl) ?_
      refine bfr_br 1 (pc1 := 26) (L1 := [some (.ref 68), some (.int x1), o2, o3, some (.int x4), some (.int x5), some (.int x6), o7]) (J1 := []) (st1 := []) (w1 := mkC ra rb 1 re rf rg σ) (pc2 := 91) (L2 := [some (.ref 68), some (.int x1), o2, o3, some (.int x4), some (.int x5), some (.int x6), o7]) (J2 := []) (st2 := []) (w2 := mkC ra rb 1 re rf rg σ) (fun _ _ => rfl) h (fun h => ?_) (fun h => ?_)
      · refine bfr_call 6 (d1 := d + 1) (M1 := M_X5_wishAt) (vs := [(.ref 59), (.int x6), (.int x4), (.int x5)]) (w1 := mkC ra rb 1 re rf rg σ) (pc2 := 39) (L2 := [some (.ref 68), some (.int x1), o2, o3, some (.int x4), some (.int x5), some (.int x6), o7]) (J2 := []) (rest := []) (fun a => some (.int a.1)) (fun a => mkC ra rb 1 re rf rg a.2) (fun _ _ => rfl) h (fun a ha => k_cRows_wishAt n (d + 0) _ _ _ _ _ _ _ _ _ _ _ ha) (fun q1 _ h => ?_)
        refine bfr_run 6 49 [some (.ref 68), some (.int x1), o2, o3, some (.int x4), some (.int x5), some (.int x6), some (.int q1.1)] [] [(.int x6), (.int ci_1), (.int (sI q1.2 68 4)), (.ref 68)] (mkC ra rb 1 re rf rg q1.2) (fun _ _ => rfl) ?_
        refine bfr_run 3 54 [some (.ref 68), some (.int x1), o2, o3, some (.int x4), some (.int x5), some (.int x6), some (.int q1.1)] [] [] ((mkC ra rb 1 re rf rg q1.2).set 68 (.inr (.inr (0, (mkC_68  ra rb 1 re rf rg q1.2).set 4 (.int ((sI q1.2 68 4) ||| (ci_1 <<< (x6 &&& 31)))))))) (fun _ _ => rfl) ?_
        rw [mkC_I68_4]
        refine bfr_br 2 (pc1 := 65) (L1 := [some (.ref 68), some (.int x1), o2, o3, some (.int x4), some (.int x5), some (.int x6), some (.int q1.1)]) (J1 := []) (st1 := []) (w1 := mkC ra rb 1 re rf rg (uI q1.2 68 4 ((sI q1.2 68 4) ||| (ci_1 <<< (x6 &&& 31))))) (pc2 := 59) (L2 := [some (.ref 68), some (.int x1), o2, o3, some (.int x4), some (.int x5), some (.int x6), some (.int q1.1)]) (J2 := []) (st2 := []) (w2 := mkC ra rb 1 re rf rg (uI q1.2 68 4 ((sI q1.2 68 4) ||| (ci_1 <<< (x6 &&& 31))))) (fun _ _ => rfl) h (fun h => ?_) (fun h => ?_)
        · exact k_cGame_crossAll_b65 n d _ q (ih) _ _ _ _ _ _ _ _ _ _ _ _ _ h
        · refine bfr_call 3 (d1 := d + 1) (M1 := M_X0_landAllAt) (vs := [(.ref 68), (.int x4)]) (w1 := mkC ra rb 1 re rf rg (uI q1.2 68 4 ((sI q1.2 68 4) ||| (ci_1 <<< (x6 &&& 31))))) (pc2 := 65) (L2 := [some (.ref 68), some (.int x1), o2, o3, some (.int x4), some (.int x5), some (.int x6), some (.int q1.1)]) (J2 := []) (rest := []) (fun _ => none) (fun a => mkC ra rb 1 re rf rg a) (fun _ _ => rfl) h (fun a ha => k_cGame_landAllAt n (d + 0) _ _ _ _ _ _ _ _ ha) (fun q2 _ h => ?_)
          exact k_cGame_crossAll_b65 n d _ q (ih) _ _ _ _ _ _ _ _ _ _ _ _ _ h
      · exact k_cGame_crossAll_b91 n d _ q (ih) _ _ _ _ _ _ _ _ _ _ _ _ _ h
set_option maxRecDepth 100000 in
theorem k_cGame_crossAll (n d : Nat) (q : (Int32 × bS)) (x1 : Int32) (x2 : Int32) (x3 : Int32) (ra : Nat) (rb : Nat) (re : Nat) (rf : Value) (rg : Value) (σ : bS) (h : cGame_crossAll n x1 x2 x3 σ = some q) : bfr MT (d + 2) M_X0_crossAll 0 [some (.ref 68), some (.int x1), some (.int x2), some (.int x3), none, none, none, none] [] [] (mkC ra rb 1 re rf rg σ) (some (.int q.1), mkC ra rb 1 re rf rg q.2) := by
  unfold cGame_crossAll at h
  refine bfr_run 6 9 [some (.ref 68), some (.int x1), some (.int x2), some (.int x3), some (.int x2), some (.int x3), some (.int ci_0), none] [] [] (mkC ra rb 1 re rf rg σ) (fun _ _ => rfl) ?_
  exact k_cGame_crossAll_b9 n d q _ _ _ _ _ _ _ _ _ _ _ _ _ _ h
set_option maxRecDepth 100000 in
theorem k_cGame_takesPart_b20 (n d : Nat) (q : (Int32 × bS)) (s0 : Int32) (o0 : Option Value) (o1 : Option Value) (ra : Nat) (rb : Nat) (rc : Nat) (re : Nat) (rf : Value) (rg : Value) (σ : bS) (h : cGame_takesPart_b20 n s0 σ = some q) : bfr MT (d + 0) M_X0_takesPart 20 [o0, o1] [] [(.int s0)] (mkC ra rb rc re rf rg σ) (some (.int q.1), mkC ra rb rc re rf rg q.2) := by
  unfold cGame_takesPart_b20 at h
  exact bfr_bz (mk := mkC ra rb rc re rf rg) 1 (fun _ _ => rfl) h
set_option maxRecDepth 100000 in
theorem k_cGame_takesPart (n d : Nat) (q : (Int32 × bS)) (x1 : Int32) (ra : Nat) (rb : Nat) (rc : Nat) (re : Nat) (rf : Value) (rg : Value) (σ : bS) (h : cGame_takesPart n x1 σ = some q) : bfr MT (d + 0) M_X0_takesPart 0 [some (.ref 68), some (.int x1)] [] [] (mkC ra rb rc re rf rg σ) (some (.int q.1), mkC ra rb rc re rf rg q.2) := by
  unfold cGame_takesPart at h
  refine bfr_run 6 10 [some (.ref 68), some (.int x1)] [] [(.int ci_1), (.int ((sI σ 59 10) >>> (x1 &&& 31)))] (mkC ra rb rc re rf rg σ) (fun _ _ => rfl) ?_
  refine bfr_br 3 (pc1 := 15) (L1 := [some (.ref 68), some (.int x1)]) (J1 := []) (st1 := []) (w1 := mkC ra rb rc re rf rg σ) (pc2 := 19) (L2 := [some (.ref 68), some (.int x1)]) (J2 := []) (st2 := []) (w2 := mkC ra rb rc re rf rg σ) (fun _ _ => rfl) h (fun h => ?_) (fun h => ?_)
  · refine bfr_run 2 20 [some (.ref 68), some (.int x1)] [] [(.int ci_1)] (mkC ra rb rc re rf rg σ) (fun _ _ => rfl) ?_
    exact k_cGame_takesPart_b20 n d q _ _ _ _ _ _ _ _ _ _ h
  · refine bfr_run 1 20 [some (.ref 68), some (.int x1)] [] [(.int ci_0)] (mkC ra rb rc re rf rg σ) (fun _ _ => rfl) ?_
    exact k_cGame_takesPart_b20 n d q _ _ _ _ _ _ _ _ _ _ h
set_option maxRecDepth 100000 in
theorem k_cGoing_gainAs_b28 (n d : Nat) (q : (Int32 × bS)) (s0 : Int32) (o0 : Option Value) (o1 : Option Value) (o2 : Option Value) (o3 : Option Value) (o4 : Option Value) (ra : Nat) (rb : Nat) (re : Nat) (rf : Value) (rg : Value) (σ : bS) (h : cGoing_gainAs_b28 n s0 σ = some q) : bfr MT (d + 2) M_X1_gainAs 28 [o0, o1, o2, o3, o4] [] [(.int s0)] (mkC ra rb 1 re rf rg σ) (some (.int q.1), mkC ra rb 1 re rf rg q.2) := by
  unfold cGoing_gainAs_b28 at h
  cases h
  exact bfr_ret 1 (fun _ _ => rfl)
set_option maxRecDepth 100000 in
theorem k_cGoing_gainAs_b9 (n d : Nat) (q : (Int32 × bS)) (x1 : Int32) (x3 : Int32) (s0 : Int32) (o2 : Option Value) (o4 : Option Value) (ra : Nat) (rb : Nat) (re : Nat) (rf : Value) (rg : Value) (σ : bS) (h : cGoing_gainAs_b9 n x1 x3 s0 σ = some q) : bfr MT (d + 2) M_X1_gainAs 9 [some (.ref 27), some (.int x1), o2, some (.int x3), o4] [] [(.int s0)] (mkC ra rb 1 re rf rg σ) (some (.int q.1), mkC ra rb 1 re rf rg q.2) := by
  unfold cGoing_gainAs_b9 at h
  refine bfr_br 5 (pc1 := 29) (L1 := [some (.ref 27), some (.int x1), o2, some (.int x3), some (.int s0)]) (J1 := []) (st1 := []) (w1 := mkC ra rb 1 re rf rg σ) (pc2 := 21) (L2 := [some (.ref 27), some (.int x1), o2, some (.int x3), some (.int s0)]) (J2 := []) (st2 := []) (w2 := mkC ra rb 1 re rf rg σ) (fun _ _ => rfl) h (fun h => ?_) (fun h => ?_)
  · refine bfr_run 6 37 [some (.ref 27), some (.int x1), o2, some (.int x3), some (.int s0)] [] [(.int x3), (.int (sI σ 27 2)), (.int ci_0), (.int x1), (.ref 27)] (mkC ra rb 1 re rf rg σ) (fun _ _ => rfl) ?_
    refine bfr_call 2 (d1 := d + 1) (M1 := M_X1_look) (vs := [(.ref 27), (.int x1), (.int ci_0), (.int ((sI σ 27 2) + x3))]) (w1 := mkC ra rb 1 re rf rg σ) (pc2 := 41) (L2 := [some (.ref 27), some (.int x1), o2, some (.int x3), some (.int s0)]) (J2 := []) (rest := []) (fun _ => none) (fun a => mkC ra rb 1 re rf rg a) (fun _ _ => rfl) h (fun a ha => k_cGoing_look n (d + 0) _ _ _ _ _ _ _ _ _ _ ha) (fun q1 _ h => ?_)
    refine bfr_run 6 54 [some (.ref 27), some (.int x1), o2, some (.int x3), some (.int s0)] [] [(.int s0), (.int ci_4), (.ref 13)] (mkC ra rb 1 re rf rg q1) (fun _ _ => rfl) ?_
    refine bfr_in (i := ci_4) (m := 8) 1 (pc1 := 55) (L1 := [some (.ref 27), some (.int x1), o2, some (.int x3), some (.int s0)]) (J1 := []) (st1 := []) (w1 := ((mkC ra rb 1 re rf rg q1).set 13 (.inl (0, 8, upd (q1.2.1 13) (ci_4).toNatClampNeg s0)))) (fun _ _ => rfl) h (fun h => ?_)
    rw [mkC_A13]
    refine bfr_run 6 68 [some (.ref 27), some (.int x1), o2, some (.int x3), some (.int s0)] [] [(.int x3), (.int cb_7), (.ref 13)] (mkC ra rb 1 re rf rg (uA q1 13 ci_4 s0)) (fun _ _ => rfl) ?_
    refine bfr_in (i := cb_7) (m := 8) 1 (pc1 := 69) (L1 := [some (.ref 27), some (.int x1), o2, some (.int x3), some (.int s0)]) (J1 := []) (st1 := []) (w1 := ((mkC ra rb 1 re rf rg (uA q1 13 ci_4 s0)).set 13 (.inl (0, 8, upd ((uA q1 13 ci_4 s0).2.1 13) (cb_7).toNatClampNeg x3)))) (fun _ _ => rfl) h (fun h => ?_)
    rw [mkC_A13]
    refine bfr_run 6 83 [some (.ref 27), some (.int x1), o2, some (.int x3), some (.int s0)] [] [(.int (sI (uA (uA q1 13 ci_4 s0) 13 cb_7 x3) 1 13)), (.ref 10)] (mkC ra rb 1 re rf rg (uA (uA q1 13 ci_4 s0) 13 cb_7 x3)) (fun _ _ => rfl) ?_
    refine bfr_call 1 (d1 := d + 1) (M1 := M_X2_valueOf) (vs := [(.ref 10), (.int (sI (uA (uA q1 13 ci_4 s0) 13 cb_7 x3) 1 13))]) (w1 := mkC ra rb 1 re rf rg (uA (uA q1 13 ci_4 s0) 13 cb_7 x3)) (pc2 := 86) (L2 := [some (.ref 27), some (.int x1), o2, some (.int x3), some (.int s0)]) (J2 := []) (rest := []) (fun a => some (.int a.1)) (fun a => mkC ra rb 1 re rf rg a.2) (fun _ _ => rfl) h (fun a ha => k_cLaws_valueOf n (d + 0) _ _ _ _ _ _ _ _ _ ha) (fun q2 _ h => ?_)
    refine bfr_call 3 (d1 := d + 1) (M1 := M_X1_held) (vs := [(.int q2.1), (.int cb_m99), (.int cb_99)]) (w1 := mkC ra rb 1 re rf rg q2.2) (pc2 := 93) (L2 := [some (.ref 27), some (.int x1), o2, some (.int x3), some (.int s0)]) (J2 := []) (rest := []) (fun a => some (.int a.1)) (fun a => mkC ra rb 1 re rf rg a.2) (fun _ _ => rfl) h (fun a ha => k_cGoing_held n (d + 0) _ _ _ _ _ _ _ _ _ _ _ ha) (fun q3 _ h => ?_)
    cases h
    exact bfr_ret 1 (fun _ _ => rfl)
  · refine bfr_run 5 28 [some (.ref 27), some (.int x1), o2, some (.int x3), some (.int s0)] [] [(.int ((cb_20 * s0) - x3))] (mkC ra rb 1 re rf rg σ) (fun _ _ => rfl) ?_
    exact k_cGoing_gainAs_b28 n d q _ _ _ _ _ _ _ _ _ _ _ _ h
set_option maxRecDepth 100000 in
theorem k_cGoing_gainAs (n d : Nat) (q : (Int32 × bS)) (x1 : Int32) (x2 : Int32) (x3 : Int32) (ra : Nat) (rb : Nat) (re : Nat) (rf : Value) (rg : Value) (σ : bS) (h : cGoing_gainAs n x1 x2 x3 σ = some q) : bfr MT (d + 2) M_X1_gainAs 0 [some (.ref 27), some (.int x1), some (.int x2), some (.int x3), none] [] [] (mkC ra rb 1 re rf rg σ) (some (.int q.1), mkC ra rb 1 re rf rg q.2) := by
  unfold cGoing_gainAs at h
  refine bfr_br 2 (pc1 := 8) (L1 := [some (.ref 27), some (.int x1), some (.int x2), some (.int x3), none]) (J1 := []) (st1 := []) (w1 := mkC ra rb 1 re rf rg σ) (pc2 := 4) (L2 := [some (.ref 27), some (.int x1), some (.int x2), some (.int x3), none]) (J2 := []) (st2 := []) (w2 := mkC ra rb 1 re rf rg σ) (fun _ _ => rfl) h (fun h => ?_) (fun h => ?_)
  · refine bfr_run 1 9 [some (.ref 27), some (.int x1), some (.int x2), some (.int x3), none] [] [(.int ci_0)] (mkC ra rb 1 re rf rg σ) (fun _ _ => rfl) ?_
    exact k_cGoing_gainAs_b9 n d q _ _ _ _ _ _ _ _ _ _ _ h
  · refine bfr_run 2 9 [some (.ref 27), some (.int x1), some (.int x2), some (.int x3), none] [] [(.int ci_1)] (mkC ra rb 1 re rf rg σ) (fun _ _ => rfl) ?_
    exact k_cGoing_gainAs_b9 n d q _ _ _ _ _ _ _ _ _ _ _ h
set_option maxRecDepth 100000 in
theorem k_cGame_play_b112 (n d : Nat) (r50 : Int32 → Int32 → bS → Option bS) (q : bS) (hr50 : ∀ (x1 : Int32) (x4 : Int32) (o2 : Option Value) (o3 : Option Value) (ra : Nat) (rb : Nat) (re : Nat) (rf : Value) (rg : Value) (σ : bS), r50 x1 x4 σ = some q → bfr MT (d + 3) M_X0_play 50 [some (.ref 68), some (.int x1), o2, o3, some (.int x4)] [] [] (mkC ra rb 1 re rf rg σ) (none, mkC ra rb 1 re rf rg q)) (x1 : Int32) (x4 : Int32) (o2 : Option Value) (o3 : Option Value) (ra : Nat) (rb : Nat) (re : Nat) (rf : Value) (rg : Value) (σ : bS) (h : cGame_play_b112 n r50 x1 x4 σ = some q) : bfr MT (d + 3) M_X0_play 112 [some (.ref 68), some (.int x1), o2, o3, some (.int x4)] [] [] (mkC ra rb 1 re rf rg σ) (none, mkC ra rb 1 re rf rg q) := by
  unfold cGame_play_b112 at h
  refine bfr_run 1 115 [some (.ref 68), some (.int x1), o2, o3, some (.int (x4 + ci_1))] [] [] (mkC ra rb 1 re rf rg σ) (fun _ _ => rfl) ?_
  refine bfr_run 1 50 [some (.ref 68), some (.int x1), o2, o3, some (.int (x4 + ci_1))] [] [] (mkC ra rb 1 re rf rg σ) (fun _ _ => rfl) ?_
  exact hr50 _ _ _ _ _ _ _ _ _ _ h
set_option maxRecDepth 100000 in
theorem k_cGame_play_b101 (n d : Nat) (r50 : Int32 → Int32 → bS → Option bS) (q : bS) (hr50 : ∀ (x1 : Int32) (x4 : Int32) (o2 : Option Value) (o3 : Option Value) (ra : Nat) (rb : Nat) (re : Nat) (rf : Value) (rg : Value) (σ : bS), r50 x1 x4 σ = some q → bfr MT (d + 3) M_X0_play 50 [some (.ref 68), some (.int x1), o2, o3, some (.int x4)] [] [] (mkC ra rb 1 re rf rg σ) (none, mkC ra rb 1 re rf rg q)) (x1 : Int32) (x4 : Int32) (s1 : Int32) (s3 : Int32) (s4 : Int32) (o2 : Option Value) (o3 : Option Value) (ra : Nat) (rb : Nat) (re : Nat) (rf : Value) (rg : Value) (σ : bS) (h : cGame_play_b101 n r50 x1 x4 s1 s3 s4 σ = some q) : bfr MT (d + 3) M_X0_play 101 [some (.ref 68), some (.int x1), o2, o3, some (.int x4)] [] [(.int s4), (.int s3), (.ref 27), (.int s1), (.ref 69)] (mkC ra rb 1 re rf rg σ) (none, mkC ra rb 1 re rf rg q) := by
  unfold cGame_play_b101 at h
  refine bfr_in (i := x4) (m := 7) 4 (pc1 := 108) (L1 := [some (.ref 68), some (.int x1), o2, o3, some (.int x4)]) (J1 := []) (st1 := [(.int (sA σ 70 x4)), (.int s4), (.int s3), (.ref 27), (.int s1), (.ref 69)]) (w1 := mkC ra rb 1 re rf rg σ) (fun _ _ => rfl) h (fun h => ?_)
  refine bfr_call 1 (d1 := d + 2) (M1 := M_X1_gainAs) (vs := [(.ref 27), (.int s3), (.int s4), (.int (sA σ 70 x4))]) (w1 := mkC ra rb 1 re rf rg σ) (pc2 := 111) (L2 := [some (.ref 68), some (.int x1), o2, o3, some (.int x4)]) (J2 := []) (rest := [(.int s1), (.ref 69)]) (fun a => some (.int a.1)) (fun a => mkC ra rb 1 re rf rg a.2) (fun _ _ => rfl) h (fun a ha => k_cGoing_gainAs n (d + 0) _ _ _ _ _ _ _ _ _ _ ha) (fun q1 _ h => ?_)
  refine bfr_in (i := s1) (m := 896) 1 (pc1 := 112) (L1 := [some (.ref 68), some (.int x1), o2, o3, some (.int x4)]) (J1 := []) (st1 := []) (w1 := ((mkC ra rb 1 re rf rg q1.2).set 69 (.inl (0, 896, upd (q1.2.2.1 69) (s1).toNatClampNeg q1.1)))) (fun _ _ => rfl) h (fun h => ?_)
  rw [mkC_A69]
  exact k_cGame_play_b112 n d _ q hr50 _ _ _ _ _ _ _ _ _ _ h
set_option maxRecDepth 100000 in
theorem k_cGame_play_b50 (n d : Nat) (q : bS) : ∀ (k : Nat) (x1 : Int32) (x4 : Int32) (o2 : Option Value) (o3 : Option Value) (ra : Nat) (rb : Nat) (re : Nat) (rf : Value) (rg : Value) (σ : bS), cGame_play_b50 n k x1 x4 σ = some q → bfr MT (d + 3) M_X0_play 50 [some (.ref 68), some (.int x1), o2, o3, some (.int x4)] [] [] (mkC ra rb 1 re rf rg σ) (none, mkC ra rb 1 re rf rg q) := by
  intro k
  induction k with
  | zero => intro x1 x4 o2 o3 ra rb re rf rg σ h; exact bno h
  | succ k ih =>
    intro x1 x4 o2 o3 ra rb re rf rg σ h
    unfold cGame_play_b50 at h
    refine bfr_br 3 (pc1 := 118) (L1 := [some (.ref 68), some (.int x1), o2, o3, some (.int x4)]) (J1 := []) (st1 := []) (w1 := mkC ra rb 1 re rf rg σ) (pc2 := 57) (L2 := [some (.ref 68), some (.int x1), o2, o3, some (.int x4)]) (J2 := []) (st2 := []) (w2 := mkC ra rb 1 re rf rg σ) (fun _ _ => rfl) h (fun h => ?_) (fun h => ?_)
    · cases h
      exact bfr_ret 1 (fun _ _ => rfl)
    · refine bfr_call 3 (d1 := d + 2) (M1 := M_X0_takesPart) (vs := [(.ref 68), (.int x4)]) (w1 := mkC ra rb 1 re rf rg σ) (pc2 := 63) (L2 := [some (.ref 68), some (.int x1), o2, o3, some (.int x4)]) (J2 := []) (rest := []) (fun a => some (.int a.1)) (fun a => mkC ra rb 1 re rf rg a.2) (fun _ _ => rfl) h (fun a ha => k_cGame_takesPart n (d + 2) _ _ _ _ _ _ _ _ _ ha) (fun q2 _ h => ?_)
      refine bfr_br 1 (pc1 := 112) (L1 := [some (.ref 68), some (.int x1), o2, o3, some (.int x4)]) (J1 := []) (st1 := []) (w1 := mkC ra rb 1 re rf rg q2.2) (pc2 := 66) (L2 := [some (.ref 68), some (.int x1), o2, o3, some (.int x4)]) (J2 := []) (st2 := []) (w2 := mkC ra rb 1 re rf rg q2.2) (fun _ _ => rfl) h (fun h => ?_) (fun h => ?_)
      · exact k_cGame_play_b112 n d _ q (ih) _ _ _ _ _ _ _ _ _ _ h
      · refine bfr_run 6 76 [some (.ref 68), some (.int x1), o2, o3, some (.int x4)] [] [(.int x4), (.int (x1 * cb_7)), (.ref 69)] (mkC ra rb 1 re rf rg q2.2) (fun _ _ => rfl) ?_
        refine bfr_run 6 87 [some (.ref 68), some (.int x1), o2, o3, some (.int x4)] [] [(.int (sI q2.2 68 5)), (.int x4), (.ref 27), (.int ((x1 * cb_7) + x4)), (.ref 69)] (mkC ra rb 1 re rf rg q2.2) (fun _ _ => rfl) ?_
        refine bfr_br 6 (pc1 := 96) (L1 := [some (.ref 68), some (.int x1), o2, o3, some (.int x4)]) (J1 := []) (st1 := [(.int x4), (.ref 27), (.int ((x1 * cb_7) + x4)), (.ref 69)]) (w1 := mkC ra rb 1 re rf rg q2.2) (pc2 := 100) (L2 := [some (.ref 68), some (.int x1), o2, o3, some (.int x4)]) (J2 := []) (st2 := [(.int x4), (.ref 27), (.int ((x1 * cb_7) + x4)), (.ref 69)]) (w2 := mkC ra rb 1 re rf rg q2.2) (fun _ _ => rfl) h (fun h => ?_) (fun h => ?_)
        · refine bfr_run 2 101 [some (.ref 68), some (.int x1), o2, o3, some (.int x4)] [] [(.int ci_1), (.int x4), (.ref 27), (.int ((x1 * cb_7) + x4)), (.ref 69)] (mkC ra rb 1 re rf rg q2.2) (fun _ _ => rfl) ?_
          exact k_cGame_play_b101 n d _ q (ih) _ _ _ _ _ _ _ _ _ _ _ _ _ h
        · refine bfr_run 1 101 [some (.ref 68), some (.int x1), o2, o3, some (.int x4)] [] [(.int ci_0), (.int x4), (.ref 27), (.int ((x1 * cb_7) + x4)), (.ref 69)] (mkC ra rb 1 re rf rg q2.2) (fun _ _ => rfl) ?_
          exact k_cGame_play_b101 n d _ q (ih) _ _ _ _ _ _ _ _ _ _ _ _ _ h
set_option maxRecDepth 100000 in
theorem k_cGame_play (n d : Nat) (q : bS) (x1 : Int32) (ra : Nat) (rb : Nat) (re : Nat) (rf : Value) (rg : Value) (σ : bS) (h : cGame_play n x1 σ = some q) : bfr MT (d + 3) M_X0_play 0 [some (.ref 68), some (.int x1), none, none, none] [] [] (mkC ra rb 1 re rf rg σ) (none, mkC ra rb 1 re rf rg q) := by
  unfold cGame_play at h
  refine bfr_run 3 5 [some (.ref 68), some (.int x1), none, none, none] [] [] ((mkC ra rb 1 re rf rg σ).set 68 (.inr (.inr (0, (mkC_68  ra rb 1 re rf rg σ).set 4 (.int ci_0))))) (fun _ _ => rfl) ?_
  rw [mkC_I68_4]
  refine bfr_run 3 10 [some (.ref 68), some (.int x1), none, none, none] [] [] ((mkC ra rb 1 re rf rg (uI σ 68 4 ci_0)).set 68 (.inr (.inr (0, (mkC_68  ra rb 1 re rf rg (uI σ 68 4 ci_0)).set 5 (.int ci_0))))) (fun _ _ => rfl) ?_
  rw [mkC_I68_5]
  refine bfr_run 6 20 [some (.ref 68), some (.int x1), none, none, none] [] [(.int (x1 ^^^ ci_m1)), (.int (sI (uI (uI σ 68 4 ci_0) 68 5 ci_0) 59 10))] (mkC ra rb 1 re rf rg (uI (uI σ 68 4 ci_0) 68 5 ci_0)) (fun _ _ => rfl) ?_
  refine bfr_run 6 28 [some (.ref 68), some (.int x1), some (.int ((sI (uI (uI σ 68 4 ci_0) 68 5 ci_0) 59 10) &&& (x1 ^^^ ci_m1))), none, none] [] [(.ref 59), (.int ((sI (uI (uI σ 68 4 ci_0) 68 5 ci_0) 59 10) &&& (x1 ^^^ ci_m1))), (.ref 68)] (mkC ra rb 1 re rf rg (uI (uI σ 68 4 ci_0) 68 5 ci_0)) (fun _ _ => rfl) ?_
  refine bfr_call 3 (d1 := d + 2) (M1 := M_X0_crossAll) (vs := [(.ref 68), (.int ((sI (uI (uI σ 68 4 ci_0) 68 5 ci_0) 59 10) &&& (x1 ^^^ ci_m1))), (.int (sI (uI (uI σ 68 4 ci_0) 68 5 ci_0) 59 12)), (.int ci_0)]) (w1 := mkC ra rb 1 re rf rg (uI (uI σ 68 4 ci_0) 68 5 ci_0)) (pc2 := 35) (L2 := [some (.ref 68), some (.int x1), some (.int ((sI (uI (uI σ 68 4 ci_0) 68 5 ci_0) 59 10) &&& (x1 ^^^ ci_m1))), none, none]) (J2 := []) (rest := []) (fun a => some (.int a.1)) (fun a => mkC ra rb 1 re rf rg a.2) (fun _ _ => rfl) h (fun a ha => k_cGame_crossAll n (d + 0) _ _ _ _ _ _ _ _ _ _ ha) (fun q3 _ h => ?_)
  refine bfr_call 6 (d1 := d + 2) (M1 := M_J6_bitCount_0f7a4) (vs := [(.int ((sI (uI (uI σ 68 4 ci_0) 68 5 ci_0) 59 10) &&& (x1 ^^^ ci_m1)))]) (w1 := mkC ra rb 1 re rf rg q3.2) (pc2 := 43) (L2 := [some (.ref 68), some (.int x1), some (.int ((sI (uI (uI σ 68 4 ci_0) 68 5 ci_0) 59 10) &&& (x1 ^^^ ci_m1))), some (.int q3.1), none]) (J2 := []) (rest := [(.int q3.1), (.int x1), (.ref 68)]) (fun a => some (.int a.1)) (fun a => mkC ra rb 1 re rf rg a.2) (fun _ _ => rfl) h (fun a ha => k_cj_bitCount n (d + 2) _ _ _ _ _ _ _ _ _ ha) (fun q4 _ h => ?_)
  refine bfr_call 1 (d1 := d + 2) (M1 := M_X0_crossAll) (vs := [(.ref 68), (.int x1), (.int q3.1), (.int q4.1)]) (w1 := mkC ra rb 1 re rf rg q4.2) (pc2 := 46) (L2 := [some (.ref 68), some (.int x1), some (.int ((sI (uI (uI σ 68 4 ci_0) 68 5 ci_0) 59 10) &&& (x1 ^^^ ci_m1))), some (.int q3.1), none]) (J2 := []) (rest := []) (fun a => some (.int a.1)) (fun a => mkC ra rb 1 re rf rg a.2) (fun _ _ => rfl) h (fun a ha => k_cGame_crossAll n (d + 0) _ _ _ _ _ _ _ _ _ _ ha) (fun q5 _ h => ?_)
  refine bfr_run 3 50 [some (.ref 68), some (.int x1), some (.int ((sI (uI (uI σ 68 4 ci_0) 68 5 ci_0) 59 10) &&& (x1 ^^^ ci_m1))), some (.int q3.1), some (.int ci_0)] [] [] (mkC ra rb 1 re rf rg q5.2) (fun _ _ => rfl) ?_
  exact k_cGame_play_b50 n d q _ _ _ _ _ _ _ _ _ _ _ h
set_option maxRecDepth 100000 in
theorem k_cGame_gainOf (n d : Nat) (q : (Int32 × bS)) (x1 : Int32) (x2 : Int32) (ra : Nat) (rb : Nat) (rc : Nat) (re : Nat) (rf : Value) (rg : Value) (σ : bS) (h : cGame_gainOf n x1 x2 σ = some q) : bfr MT (d + 0) M_X0_gainOf 0 [some (.ref 68), some (.int x1), some (.int x2)] [] [] (mkC ra rb rc re rf rg σ) (some (.int q.1), mkC ra rb rc re rf rg q.2) := by
  unfold cGame_gainOf at h
  refine bfr_run 6 9 [some (.ref 68), some (.int x1), some (.int x2)] [] [(.int x2), (.int (x1 * cb_7)), (.ref 69)] (mkC ra rb rc re rf rg σ) (fun _ _ => rfl) ?_
  refine bfr_in (i := ((x1 * cb_7) + x2)) (m := 896) 2 (pc1 := 11) (L1 := [some (.ref 68), some (.int x1), some (.int x2)]) (J1 := []) (st1 := [(.int (sA σ 69 ((x1 * cb_7) + x2)))]) (w1 := mkC ra rb rc re rf rg σ) (fun _ _ => rfl) h (fun h => ?_)
  cases h
  exact bfr_ret 1 (fun _ _ => rfl)
set_option maxRecDepth 100000 in
theorem k_cTop_gain_b35 (n d : Nat) (q : (Int32 × bS)) (o0 : Option Value) (o1 : Option Value) (o2 : Option Value) (o3 : Option Value) (o4 : Option Value) (rb : Nat) (re : Nat) (rf : Value) (rg : Value) (σ : bS) (h : cTop_gain_b35 n σ = some q) : bfr MT (d + 4) M_X11_gain 35 [o0, o1, o2, o3, o4] [] [] (mkC 1 rb 1 re rf rg σ) (some (.int q.1), mkC 1 rb 1 re rf rg q.2) := by
  unfold cTop_gain_b35 at h
  cases h
  exact bfr_ret 2 (fun _ _ => rfl)
set_option maxRecDepth 100000 in
theorem k_cTop_gain (n d : Nat) (q : (Int32 × bS)) (x1 : Int32) (x2 : Int32) (x3 : Int32) (x4 : Int32) (rb : Nat) (re : Nat) (rf : Value) (rg : Value) (σ : bS) (h : cTop_gain n x1 x2 x3 x4 σ = some q) : bfr MT (d + 4) M_X11_gain 0 [some (.ref 0), some (.int x1), some (.int x2), some (.int x3), some (.int x4)] [] [] (mkC 1 rb 1 re rf rg σ) (some (.int q.1), mkC 1 rb 1 re rf rg q.2) := by
  unfold cTop_gain at h
  refine bfr_call 4 (d1 := d + 3) (M1 := M_X11_isGame) (vs := [(.ref 0), (.int x1), (.int x2)]) (w1 := mkC 1 rb 1 re rf rg σ) (pc2 := 6) (L2 := [some (.ref 0), some (.int x1), some (.int x2), some (.int x3), some (.int x4)]) (J2 := []) (rest := []) (fun a => some (.int a.1)) (fun a => mkC 1 rb 1 re rf rg a.2) (fun _ _ => rfl) h (fun a ha => k_cTop_isGame n (d + 1) _ _ _ _ _ _ _ _ ha) (fun q1 _ h => ?_)
  refine bfr_br 1 (pc1 := 35) (L1 := [some (.ref 0), some (.int x1), some (.int x2), some (.int x3), some (.int x4)]) (J1 := []) (st1 := []) (w1 := mkC 1 rb 1 re rf rg q1.2) (pc2 := 9) (L2 := [some (.ref 0), some (.int x1), some (.int x2), some (.int x3), some (.int x4)]) (J2 := []) (st2 := []) (w2 := mkC 1 rb 1 re rf rg q1.2) (fun _ _ => rfl) h (fun h => ?_) (fun h => ?_)
  · exact k_cTop_gain_b35 n d q _ _ _ _ _ _ _ _ _ _ h
  · refine bfr_br 6 (pc1 := 17) (L1 := [some (.ref 0), some (.int x1), some (.int x2), some (.int x3), some (.int x4)]) (J1 := []) (st1 := []) (w1 := mkC 1 rb 1 re rf rg q1.2) (pc2 := 35) (L2 := [some (.ref 0), some (.int x1), some (.int x2), some (.int x3), some (.int x4)]) (J2 := []) (st2 := []) (w2 := mkC 1 rb 1 re rf rg q1.2) (fun _ _ => rfl) h (fun h => ?_) (fun h => ?_)
    · refine bfr_call 3 (d1 := d + 3) (M1 := M_X11_isMan) (vs := [(.ref 0), (.int x4)]) (w1 := mkC 1 rb 1 re rf rg q1.2) (pc2 := 23) (L2 := [some (.ref 0), some (.int x1), some (.int x2), some (.int x3), some (.int x4)]) (J2 := []) (rest := []) (fun a => some (.int a.1)) (fun a => mkC 1 rb 1 re rf rg a.2) (fun _ _ => rfl) h (fun a ha => k_cTop_isMan n (d + 3) _ _ _ _ _ _ _ _ ha) (fun q2 _ h => ?_)
      refine bfr_br 1 (pc1 := 35) (L1 := [some (.ref 0), some (.int x1), some (.int x2), some (.int x3), some (.int x4)]) (J1 := []) (st1 := []) (w1 := mkC 1 rb 1 re rf rg q2.2) (pc2 := 26) (L2 := [some (.ref 0), some (.int x1), some (.int x2), some (.int x3), some (.int x4)]) (J2 := []) (st2 := []) (w2 := mkC 1 rb 1 re rf rg q2.2) (fun _ _ => rfl) h (fun h => ?_) (fun h => ?_)
      · exact k_cTop_gain_b35 n d q _ _ _ _ _ _ _ _ _ _ h
      · refine bfr_br 6 (pc1 := 35) (L1 := [some (.ref 0), some (.int x1), some (.int x2), some (.int x3), some (.int x4)]) (J1 := []) (st1 := []) (w1 := mkC 1 rb 1 re rf rg q2.2) (pc2 := 39) (L2 := [some (.ref 0), some (.int x1), some (.int x2), some (.int x3), some (.int x4)]) (J2 := []) (st2 := []) (w2 := mkC 1 rb 1 re rf rg q2.2) (fun _ _ => rfl) h (fun h => ?_) (fun h => ?_)
        · exact k_cTop_gain_b35 n d q _ _ _ _ _ _ _ _ _ _ h
        · refine bfr_call 6 (d1 := d + 3) (M1 := M_X5_prepare) (vs := [(.ref 59), (.int x1), (.int x2), (.int ci_1)]) (w1 := mkC 1 rb 1 re rf rg q2.2) (pc2 := 49) (L2 := [some (.ref 0), some (.int x1), some (.int x2), some (.int x3), some (.int x4)]) (J2 := []) (rest := []) (fun _ => none) (fun a => mkC 1 rb 1 re rf rg a) (fun _ _ => rfl) h (fun a ha => k_cRows_prepare n (d + 0) _ _ _ _ _ _ _ _ _ _ ha) (fun q3 _ h => ?_)
          refine bfr_call 4 (d1 := d + 3) (M1 := M_X0_play) (vs := [(.ref 68), (.int x3)]) (w1 := mkC 1 rb 1 re rf rg q3) (pc2 := 57) (L2 := [some (.ref 0), some (.int x1), some (.int x2), some (.int x3), some (.int x4)]) (J2 := []) (rest := []) (fun _ => none) (fun a => mkC 1 rb 1 re rf rg a) (fun _ _ => rfl) h (fun a ha => k_cGame_play n (d + 0) _ _ _ _ _ _ _ _ ha) (fun q4 _ h => ?_)
          refine bfr_call 5 (d1 := d + 3) (M1 := M_X0_gainOf) (vs := [(.ref 68), (.int x3), (.int x4)]) (w1 := mkC 1 rb 1 re rf rg q4) (pc2 := 67) (L2 := [some (.ref 0), some (.int x1), some (.int x2), some (.int x3), some (.int x4)]) (J2 := []) (rest := []) (fun a => some (.int a.1)) (fun a => mkC 1 rb 1 re rf rg a.2) (fun _ _ => rfl) h (fun a ha => k_cGame_gainOf n (d + 3) _ _ _ _ _ _ _ _ _ _ ha) (fun q5 _ h => ?_)
          cases h
          exact bfr_ret 1 (fun _ _ => rfl)
    · exact k_cTop_gain_b35 n d q _ _ _ _ _ _ _ _ _ _ h
set_option maxRecDepth 100000 in
theorem k_cGame_worthOf_b27 (n d : Nat) (r4 : Int32 → Int32 → Int32 → bS → Option (Int32 × bS)) (q : (Int32 × bS)) (hr4 : ∀ (x1 : Int32) (x2 : Int32) (x3 : Int32) (ra : Nat) (rb : Nat) (rc : Nat) (re : Nat) (rf : Value) (rg : Value) (σ : bS), r4 x1 x2 x3 σ = some q → bfr MT (d + 1) M_X0_worthOf 4 [some (.ref 68), some (.int x1), some (.int x2), some (.int x3)] [] [] (mkC ra rb rc re rf rg σ) (some (.int q.1), mkC ra rb rc re rf rg q.2)) (x1 : Int32) (x2 : Int32) (x3 : Int32) (ra : Nat) (rb : Nat) (rc : Nat) (re : Nat) (rf : Value) (rg : Value) (σ : bS) (h : cGame_worthOf_b27 n r4 x1 x2 x3 σ = some q) : bfr MT (d + 1) M_X0_worthOf 27 [some (.ref 68), some (.int x1), some (.int x2), some (.int x3)] [] [] (mkC ra rb rc re rf rg σ) (some (.int q.1), mkC ra rb rc re rf rg q.2) := by
  unfold cGame_worthOf_b27 at h
  refine bfr_run 1 30 [some (.ref 68), some (.int x1), some (.int x2), some (.int (x3 + ci_1))] [] [] (mkC ra rb rc re rf rg σ) (fun _ _ => rfl) ?_
  refine bfr_run 1 4 [some (.ref 68), some (.int x1), some (.int x2), some (.int (x3 + ci_1))] [] [] (mkC ra rb rc re rf rg σ) (fun _ _ => rfl) ?_
  exact hr4 _ _ _ _ _ _ _ _ _ _ h
set_option maxRecDepth 100000 in
theorem k_cGame_worthOf_b4 (n d : Nat) (q : (Int32 × bS)) : ∀ (k : Nat) (x1 : Int32) (x2 : Int32) (x3 : Int32) (ra : Nat) (rb : Nat) (rc : Nat) (re : Nat) (rf : Value) (rg : Value) (σ : bS), cGame_worthOf_b4 n k x1 x2 x3 σ = some q → bfr MT (d + 1) M_X0_worthOf 4 [some (.ref 68), some (.int x1), some (.int x2), some (.int x3)] [] [] (mkC ra rb rc re rf rg σ) (some (.int q.1), mkC ra rb rc re rf rg q.2) := by
  intro k
  induction k with
  | zero => intro x1 x2 x3 ra rb rc re rf rg σ h; exact bno h
  | succ k ih =>
    intro x1 x2 x3 ra rb rc re rf rg σ h
    unfold cGame_worthOf_b4 at h
    refine bfr_br 3 (pc1 := 33) (L1 := [some (.ref 68), some (.int x1), some (.int x2), some (.int x3)]) (J1 := []) (st1 := []) (w1 := mkC ra rb rc re rf rg σ) (pc2 := 10) (L2 := [some (.ref 68), some (.int x1), some (.int x2), some (.int x3)]) (J2 := []) (st2 := []) (w2 := mkC ra rb rc re rf rg σ) (fun _ _ => rfl) h (fun h => ?_) (fun h => ?_)
    · cases h
      exact bfr_ret 2 (fun _ _ => rfl)
    · refine bfr_call 3 (d1 := d + 0) (M1 := M_X0_takesPart) (vs := [(.ref 68), (.int x3)]) (w1 := mkC ra rb rc re rf rg σ) (pc2 := 15) (L2 := [some (.ref 68), some (.int x1), some (.int x2), some (.int x3)]) (J2 := []) (rest := []) (fun a => some (.int a.1)) (fun a => mkC ra rb rc re rf rg a.2) (fun _ _ => rfl) h (fun a ha => k_cGame_takesPart n (d + 0) _ _ _ _ _ _ _ _ _ ha) (fun q1 _ h => ?_)
      refine bfr_br 1 (pc1 := 27) (L1 := [some (.ref 68), some (.int x1), some (.int x2), some (.int x3)]) (J1 := []) (st1 := []) (w1 := mkC ra rb rc re rf rg q1.2) (pc2 := 18) (L2 := [some (.ref 68), some (.int x1), some (.int x2), some (.int x3)]) (J2 := []) (st2 := []) (w2 := mkC ra rb rc re rf rg q1.2) (fun _ _ => rfl) h (fun h => ?_) (fun h => ?_)
      · exact k_cGame_worthOf_b27 n d _ q (ih) _ _ _ _ _ _ _ _ _ _ h
      · refine bfr_call 5 (d1 := d + 0) (M1 := M_X0_gainOf) (vs := [(.ref 68), (.int x1), (.int x3)]) (w1 := mkC ra rb rc re rf rg q1.2) (pc2 := 25) (L2 := [some (.ref 68), some (.int x1), some (.int x2), some (.int x3)]) (J2 := []) (rest := [(.int x2)]) (fun a => some (.int a.1)) (fun a => mkC ra rb rc re rf rg a.2) (fun _ _ => rfl) h (fun a ha => k_cGame_gainOf n (d + 0) _ _ _ _ _ _ _ _ _ _ ha) (fun q2 _ h => ?_)
        refine bfr_run 2 27 [some (.ref 68), some (.int x1), some (.int (x2 + q2.1)), some (.int x3)] [] [] (mkC ra rb rc re rf rg q2.2) (fun _ _ => rfl) ?_
        exact k_cGame_worthOf_b27 n d _ q (ih) _ _ _ _ _ _ _ _ _ _ h
set_option maxRecDepth 100000 in
theorem k_cGame_worthOf (n d : Nat) (q : (Int32 × bS)) (x1 : Int32) (ra : Nat) (rb : Nat) (rc : Nat) (re : Nat) (rf : Value) (rg : Value) (σ : bS) (h : cGame_worthOf n x1 σ = some q) : bfr MT (d + 1) M_X0_worthOf 0 [some (.ref 68), some (.int x1), none, none] [] [] (mkC ra rb rc re rf rg σ) (some (.int q.1), mkC ra rb rc re rf rg q.2) := by
  unfold cGame_worthOf at h
  refine bfr_run 4 4 [some (.ref 68), some (.int x1), some (.int ci_0), some (.int ci_0)] [] [] (mkC ra rb rc re rf rg σ) (fun _ _ => rfl) ?_
  exact k_cGame_worthOf_b4 n d q _ _ _ _ _ _ _ _ _ _ _ h
set_option maxRecDepth 100000 in
theorem k_cTop_worth_b17 (n d : Nat) (q : (Int32 × bS)) (o0 : Option Value) (o1 : Option Value) (o2 : Option Value) (o3 : Option Value) (rb : Nat) (re : Nat) (rf : Value) (rg : Value) (σ : bS) (h : cTop_worth_b17 n σ = some q) : bfr MT (d + 4) M_X11_worth 17 [o0, o1, o2, o3] [] [] (mkC 1 rb 1 re rf rg σ) (some (.int q.1), mkC 1 rb 1 re rf rg q.2) := by
  unfold cTop_worth_b17 at h
  cases h
  exact bfr_ret 2 (fun _ _ => rfl)
set_option maxRecDepth 100000 in
theorem k_cTop_worth (n d : Nat) (q : (Int32 × bS)) (x1 : Int32) (x2 : Int32) (x3 : Int32) (rb : Nat) (re : Nat) (rf : Value) (rg : Value) (σ : bS) (h : cTop_worth n x1 x2 x3 σ = some q) : bfr MT (d + 4) M_X11_worth 0 [some (.ref 0), some (.int x1), some (.int x2), some (.int x3)] [] [] (mkC 1 rb 1 re rf rg σ) (some (.int q.1), mkC 1 rb 1 re rf rg q.2) := by
  unfold cTop_worth at h
  refine bfr_call 4 (d1 := d + 3) (M1 := M_X11_isGame) (vs := [(.ref 0), (.int x1), (.int x2)]) (w1 := mkC 1 rb 1 re rf rg σ) (pc2 := 6) (L2 := [some (.ref 0), some (.int x1), some (.int x2), some (.int x3)]) (J2 := []) (rest := []) (fun a => some (.int a.1)) (fun a => mkC 1 rb 1 re rf rg a.2) (fun _ _ => rfl) h (fun a ha => k_cTop_isGame n (d + 1) _ _ _ _ _ _ _ _ ha) (fun q1 _ h => ?_)
  refine bfr_br 1 (pc1 := 17) (L1 := [some (.ref 0), some (.int x1), some (.int x2), some (.int x3)]) (J1 := []) (st1 := []) (w1 := mkC 1 rb 1 re rf rg q1.2) (pc2 := 9) (L2 := [some (.ref 0), some (.int x1), some (.int x2), some (.int x3)]) (J2 := []) (st2 := []) (w2 := mkC 1 rb 1 re rf rg q1.2) (fun _ _ => rfl) h (fun h => ?_) (fun h => ?_)
  · exact k_cTop_worth_b17 n d q _ _ _ _ _ _ _ _ _ h
  · refine bfr_br 6 (pc1 := 21) (L1 := [some (.ref 0), some (.int x1), some (.int x2), some (.int x3)]) (J1 := []) (st1 := []) (w1 := mkC 1 rb 1 re rf rg q1.2) (pc2 := 17) (L2 := [some (.ref 0), some (.int x1), some (.int x2), some (.int x3)]) (J2 := []) (st2 := []) (w2 := mkC 1 rb 1 re rf rg q1.2) (fun _ _ => rfl) h (fun h => ?_) (fun h => ?_)
    · refine bfr_call 6 (d1 := d + 3) (M1 := M_X5_prepare) (vs := [(.ref 59), (.int x1), (.int x2), (.int ci_1)]) (w1 := mkC 1 rb 1 re rf rg q1.2) (pc2 := 31) (L2 := [some (.ref 0), some (.int x1), some (.int x2), some (.int x3)]) (J2 := []) (rest := []) (fun _ => none) (fun a => mkC 1 rb 1 re rf rg a) (fun _ _ => rfl) h (fun a ha => k_cRows_prepare n (d + 0) _ _ _ _ _ _ _ _ _ _ ha) (fun q2 _ h => ?_)
      refine bfr_call 4 (d1 := d + 3) (M1 := M_X0_play) (vs := [(.ref 68), (.int x3)]) (w1 := mkC 1 rb 1 re rf rg q2) (pc2 := 39) (L2 := [some (.ref 0), some (.int x1), some (.int x2), some (.int x3)]) (J2 := []) (rest := []) (fun _ => none) (fun a => mkC 1 rb 1 re rf rg a) (fun _ _ => rfl) h (fun a ha => k_cGame_play n (d + 0) _ _ _ _ _ _ _ _ ha) (fun q3 _ h => ?_)
      refine bfr_call 4 (d1 := d + 3) (M1 := M_X0_worthOf) (vs := [(.ref 68), (.int x3)]) (w1 := mkC 1 rb 1 re rf rg q3) (pc2 := 47) (L2 := [some (.ref 0), some (.int x1), some (.int x2), some (.int x3)]) (J2 := []) (rest := []) (fun a => some (.int a.1)) (fun a => mkC 1 rb 1 re rf rg a.2) (fun _ _ => rfl) h (fun a ha => k_cGame_worthOf n (d + 2) _ _ _ _ _ _ _ _ _ ha) (fun q4 _ h => ?_)
      cases h
      exact bfr_ret 1 (fun _ _ => rfl)
    · exact k_cTop_worth_b17 n d q _ _ _ _ _ _ _ _ _ h
set_option maxRecDepth 100000 in
theorem k_cGame_isChoice_b19 (n d : Nat) (q : (Int32 × bS)) (s0 : Int32) (o0 : Option Value) (o1 : Option Value) (ra : Nat) (rb : Nat) (rc : Nat) (re : Nat) (rf : Value) (rg : Value) (σ : bS) (h : cGame_isChoice_b19 n s0 σ = some q) : bfr MT (d + 0) M_X0_isChoice 19 [o0, o1] [] [(.int s0)] (mkC ra rb rc re rf rg σ) (some (.int q.1), mkC ra rb rc re rf rg q.2) := by
  unfold cGame_isChoice_b19 at h
  exact bfr_bz (mk := mkC ra rb rc re rf rg) 1 (fun _ _ => rfl) h
set_option maxRecDepth 100000 in
theorem k_cGame_isChoice (n d : Nat) (q : (Int32 × bS)) (x1 : Int32) (ra : Nat) (rb : Nat) (rc : Nat) (re : Nat) (rf : Value) (rg : Value) (σ : bS) (h : cGame_isChoice n x1 σ = some q) : bfr MT (d + 0) M_X0_isChoice 0 [some (.ref 68), some (.int x1)] [] [] (mkC ra rb rc re rf rg σ) (some (.int q.1), mkC ra rb rc re rf rg q.2) := by
  unfold cGame_isChoice at h
  refine bfr_run 6 10 [some (.ref 68), some (.int x1)] [] [(.int ((sI σ 59 10) ^^^ ci_m1)), (.int x1)] (mkC ra rb rc re rf rg σ) (fun _ _ => rfl) ?_
  refine bfr_br 2 (pc1 := 14) (L1 := [some (.ref 68), some (.int x1)]) (J1 := []) (st1 := []) (w1 := mkC ra rb rc re rf rg σ) (pc2 := 18) (L2 := [some (.ref 68), some (.int x1)]) (J2 := []) (st2 := []) (w2 := mkC ra rb rc re rf rg σ) (fun _ _ => rfl) h (fun h => ?_) (fun h => ?_)
  · refine bfr_run 2 19 [some (.ref 68), some (.int x1)] [] [(.int ci_1)] (mkC ra rb rc re rf rg σ) (fun _ _ => rfl) ?_
    exact k_cGame_isChoice_b19 n d q _ _ _ _ _ _ _ _ _ _ h
  · refine bfr_run 1 19 [some (.ref 68), some (.int x1)] [] [(.int ci_0)] (mkC ra rb rc re rf rg σ) (fun _ _ => rfl) ?_
    exact k_cGame_isChoice_b19 n d q _ _ _ _ _ _ _ _ _ _ h
set_option maxRecDepth 100000 in
theorem k_cGame_playAll_b26 (n d : Nat) (r2 : Int32 → bS → Option bS) (q : bS) (hr2 : ∀ (x1 : Int32) (ra : Nat) (rb : Nat) (re : Nat) (rf : Value) (rg : Value) (σ : bS), r2 x1 σ = some q → bfr MT (d + 4) M_X0_playAll 2 [some (.ref 68), some (.int x1)] [] [] (mkC ra rb 1 re rf rg σ) (none, mkC ra rb 1 re rf rg q)) (x1 : Int32) (ra : Nat) (rb : Nat) (re : Nat) (rf : Value) (rg : Value) (σ : bS) (h : cGame_playAll_b26 n r2 x1 σ = some q) : bfr MT (d + 4) M_X0_playAll 26 [some (.ref 68), some (.int x1)] [] [] (mkC ra rb 1 re rf rg σ) (none, mkC ra rb 1 re rf rg q) := by
  unfold cGame_playAll_b26 at h
  refine bfr_run 1 29 [some (.ref 68), some (.int (x1 + ci_1))] [] [] (mkC ra rb 1 re rf rg σ) (fun _ _ => rfl) ?_
  refine bfr_run 1 2 [some (.ref 68), some (.int (x1 + ci_1))] [] [] (mkC ra rb 1 re rf rg σ) (fun _ _ => rfl) ?_
  exact hr2 _ _ _ _ _ _ _ h
set_option maxRecDepth 100000 in
theorem k_cGame_playAll_b2 (n d : Nat) (q : bS) : ∀ (k : Nat) (x1 : Int32) (ra : Nat) (rb : Nat) (re : Nat) (rf : Value) (rg : Value) (σ : bS), cGame_playAll_b2 n k x1 σ = some q → bfr MT (d + 4) M_X0_playAll 2 [some (.ref 68), some (.int x1)] [] [] (mkC ra rb 1 re rf rg σ) (none, mkC ra rb 1 re rf rg q) := by
  intro k
  induction k with
  | zero => intro x1 ra rb re rf rg σ h; exact bno h
  | succ k ih =>
    intro x1 ra rb re rf rg σ h
    unfold cGame_playAll_b2 at h
    refine bfr_br 5 (pc1 := 32) (L1 := [some (.ref 68), some (.int x1)]) (J1 := []) (st1 := []) (w1 := mkC ra rb 1 re rf rg σ) (pc2 := 13) (L2 := [some (.ref 68), some (.int x1)]) (J2 := []) (st2 := []) (w2 := mkC ra rb 1 re rf rg σ) (fun _ _ => rfl) h (fun h => ?_) (fun h => ?_)
    · cases h
      exact bfr_ret 1 (fun _ _ => rfl)
    · refine bfr_call 3 (d1 := d + 3) (M1 := M_X0_isChoice) (vs := [(.ref 68), (.int x1)]) (w1 := mkC ra rb 1 re rf rg σ) (pc2 := 18) (L2 := [some (.ref 68), some (.int x1)]) (J2 := []) (rest := []) (fun a => some (.int a.1)) (fun a => mkC ra rb 1 re rf rg a.2) (fun _ _ => rfl) h (fun a ha => k_cGame_isChoice n (d + 3) _ _ _ _ _ _ _ _ _ ha) (fun q1 _ h => ?_)
      refine bfr_br 1 (pc1 := 26) (L1 := [some (.ref 68), some (.int x1)]) (J1 := []) (st1 := []) (w1 := mkC ra rb 1 re rf rg q1.2) (pc2 := 21) (L2 := [some (.ref 68), some (.int x1)]) (J2 := []) (st2 := []) (w2 := mkC ra rb 1 re rf rg q1.2) (fun _ _ => rfl) h (fun h => ?_) (fun h => ?_)
      · exact k_cGame_playAll_b26 n d _ q (ih) _ _ _ _ _ _ _ h
      · refine bfr_call 3 (d1 := d + 3) (M1 := M_X0_play) (vs := [(.ref 68), (.int x1)]) (w1 := mkC ra rb 1 re rf rg q1.2) (pc2 := 26) (L2 := [some (.ref 68), some (.int x1)]) (J2 := []) (rest := []) (fun _ => none) (fun a => mkC ra rb 1 re rf rg a) (fun _ _ => rfl) h (fun a ha => k_cGame_play n (d + 0) _ _ _ _ _ _ _ _ ha) (fun q2 _ h => ?_)
        exact k_cGame_playAll_b26 n d _ q (ih) _ _ _ _ _ _ _ h
set_option maxRecDepth 100000 in
theorem k_cGame_playAll (n d : Nat) (q : bS) (ra : Nat) (rb : Nat) (re : Nat) (rf : Value) (rg : Value) (σ : bS) (h : cGame_playAll n σ = some q) : bfr MT (d + 4) M_X0_playAll 0 [some (.ref 68), none] [] [] (mkC ra rb 1 re rf rg σ) (none, mkC ra rb 1 re rf rg q) := by
  unfold cGame_playAll at h
  refine bfr_run 2 2 [some (.ref 68), some (.int ci_0)] [] [] (mkC ra rb 1 re rf rg σ) (fun _ _ => rfl) ?_
  exact k_cGame_playAll_b2 n d q _ _ _ _ _ _ _ _ h
set_option maxRecDepth 100000 in
theorem k_cGame_isRest_b37 (n d : Nat) (r2 : Int32 → Int32 → bS → Option (Int32 × bS)) (q : (Int32 × bS)) (hr2 : ∀ (x1 : Int32) (x2 : Int32) (ra : Nat) (rb : Nat) (rc : Nat) (re : Nat) (rf : Value) (rg : Value) (σ : bS), r2 x1 x2 σ = some q → bfr MT (d + 1) M_X0_isRest 2 [some (.ref 68), some (.int x1), some (.int x2)] [] [] (mkC ra rb rc re rf rg σ) (some (.int q.1), mkC ra rb rc re rf rg q.2)) (x1 : Int32) (x2 : Int32) (ra : Nat) (rb : Nat) (rc : Nat) (re : Nat) (rf : Value) (rg : Value) (σ : bS) (h : cGame_isRest_b37 n r2 x1 x2 σ = some q) : bfr MT (d + 1) M_X0_isRest 37 [some (.ref 68), some (.int x1), some (.int x2)] [] [] (mkC ra rb rc re rf rg σ) (some (.int q.1), mkC ra rb rc re rf rg q.2) := by
  unfold cGame_isRest_b37 at h
  refine bfr_run 1 40 [some (.ref 68), some (.int x1), some (.int (x2 + ci_1))] [] [] (mkC ra rb rc re rf rg σ) (fun _ _ => rfl) ?_
  refine bfr_run 1 2 [some (.ref 68), some (.int x1), some (.int (x2 + ci_1))] [] [] (mkC ra rb rc re rf rg σ) (fun _ _ => rfl) ?_
  exact hr2 _ _ _ _ _ _ _ _ _ h
set_option maxRecDepth 100000 in
theorem k_cGame_isRest_b2 (n d : Nat) (q : (Int32 × bS)) : ∀ (k : Nat) (x1 : Int32) (x2 : Int32) (ra : Nat) (rb : Nat) (rc : Nat) (re : Nat) (rf : Value) (rg : Value) (σ : bS), cGame_isRest_b2 n k x1 x2 σ = some q → bfr MT (d + 1) M_X0_isRest 2 [some (.ref 68), some (.int x1), some (.int x2)] [] [] (mkC ra rb rc re rf rg σ) (some (.int q.1), mkC ra rb rc re rf rg q.2) := by
  intro k
  induction k with
  | zero => intro x1 x2 ra rb rc re rf rg σ h; exact bno h
  | succ k ih =>
    intro x1 x2 ra rb rc re rf rg σ h
    unfold cGame_isRest_b2 at h
    refine bfr_br 3 (pc1 := 43) (L1 := [some (.ref 68), some (.int x1), some (.int x2)]) (J1 := []) (st1 := []) (w1 := mkC ra rb rc re rf rg σ) (pc2 := 8) (L2 := [some (.ref 68), some (.int x1), some (.int x2)]) (J2 := []) (st2 := []) (w2 := mkC ra rb rc re rf rg σ) (fun _ _ => rfl) h (fun h => ?_) (fun h => ?_)
    · exact bfr_bz (mk := mkC ra rb rc re rf rg) 2 (fun _ _ => rfl) h
    · refine bfr_call 3 (d1 := d + 0) (M1 := M_X0_takesPart) (vs := [(.ref 68), (.int x2)]) (w1 := mkC ra rb rc re rf rg σ) (pc2 := 13) (L2 := [some (.ref 68), some (.int x1), some (.int x2)]) (J2 := []) (rest := []) (fun a => some (.int a.1)) (fun a => mkC ra rb rc re rf rg a.2) (fun _ _ => rfl) h (fun a ha => k_cGame_takesPart n (d + 0) _ _ _ _ _ _ _ _ _ ha) (fun q1 _ h => ?_)
      refine bfr_br 1 (pc1 := 37) (L1 := [some (.ref 68), some (.int x1), some (.int x2)]) (J1 := []) (st1 := []) (w1 := mkC ra rb rc re rf rg q1.2) (pc2 := 16) (L2 := [some (.ref 68), some (.int x1), some (.int x2)]) (J2 := []) (st2 := []) (w2 := mkC ra rb rc re rf rg q1.2) (fun _ _ => rfl) h (fun h => ?_) (fun h => ?_)
      · exact k_cGame_isRest_b37 n d _ q (ih) _ _ _ _ _ _ _ _ _ h
      · refine bfr_run 6 22 [some (.ref 68), some (.int x1), some (.int x2)] [] [(.int (x1 ^^^ (ci_1 <<< (x2 &&& 31)))), (.ref 68)] (mkC ra rb rc re rf rg q1.2) (fun _ _ => rfl) ?_
        refine bfr_call 2 (d1 := d + 0) (M1 := M_X0_gainOf) (vs := [(.ref 68), (.int (x1 ^^^ (ci_1 <<< (x2 &&& 31)))), (.int x2)]) (w1 := mkC ra rb rc re rf rg q1.2) (pc2 := 26) (L2 := [some (.ref 68), some (.int x1), some (.int x2)]) (J2 := []) (rest := []) (fun a => some (.int a.1)) (fun a => mkC ra rb rc re rf rg a.2) (fun _ _ => rfl) h (fun a ha => k_cGame_gainOf n (d + 0) _ _ _ _ _ _ _ _ _ _ ha) (fun q2 _ h => ?_)
        refine bfr_call 4 (d1 := d + 0) (M1 := M_X0_gainOf) (vs := [(.ref 68), (.int x1), (.int x2)]) (w1 := mkC ra rb rc re rf rg q2.2) (pc2 := 32) (L2 := [some (.ref 68), some (.int x1), some (.int x2)]) (J2 := []) (rest := [(.int q2.1)]) (fun a => some (.int a.1)) (fun a => mkC ra rb rc re rf rg a.2) (fun _ _ => rfl) h (fun a ha => k_cGame_gainOf n (d + 0) _ _ _ _ _ _ _ _ _ _ ha) (fun q3 _ h => ?_)
        refine bfr_br 1 (pc1 := 37) (L1 := [some (.ref 68), some (.int x1), some (.int x2)]) (J1 := []) (st1 := []) (w1 := mkC ra rb rc re rf rg q3.2) (pc2 := 35) (L2 := [some (.ref 68), some (.int x1), some (.int x2)]) (J2 := []) (st2 := []) (w2 := mkC ra rb rc re rf rg q3.2) (fun _ _ => rfl) h (fun h => ?_) (fun h => ?_)
        · exact k_cGame_isRest_b37 n d _ q (ih) _ _ _ _ _ _ _ _ _ h
        · exact bfr_bz (mk := mkC ra rb rc re rf rg) 2 (fun _ _ => rfl) h
set_option maxRecDepth 100000 in
theorem k_cGame_isRest (n d : Nat) (q : (Int32 × bS)) (x1 : Int32) (ra : Nat) (rb : Nat) (rc : Nat) (re : Nat) (rf : Value) (rg : Value) (σ : bS) (h : cGame_isRest n x1 σ = some q) : bfr MT (d + 1) M_X0_isRest 0 [some (.ref 68), some (.int x1), none] [] [] (mkC ra rb rc re rf rg σ) (some (.int q.1), mkC ra rb rc re rf rg q.2) := by
  unfold cGame_isRest at h
  refine bfr_run 2 2 [some (.ref 68), some (.int x1), some (.int ci_0)] [] [] (mkC ra rb rc re rf rg σ) (fun _ _ => rfl) ?_
  exact k_cGame_isRest_b2 n d q _ _ _ _ _ _ _ _ _ _ h
set_option maxRecDepth 100000 in
theorem k_cGame_restAt_b41 (n d : Nat) (r4 : Int32 → Int32 → Int32 → bS → Option (Int32 × bS)) (q : (Int32 × bS)) (hr4 : ∀ (x1 : Int32) (x2 : Int32) (x3 : Int32) (ra : Nat) (rb : Nat) (rc : Nat) (re : Nat) (rf : Value) (rg : Value) (σ : bS), r4 x1 x2 x3 σ = some q → bfr MT (d + 2) M_X0_restAt 4 [some (.ref 68), some (.int x1), some (.int x2), some (.int x3)] [] [] (mkC ra rb rc re rf rg σ) (some (.int q.1), mkC ra rb rc re rf rg q.2)) (x1 : Int32) (x2 : Int32) (x3 : Int32) (ra : Nat) (rb : Nat) (rc : Nat) (re : Nat) (rf : Value) (rg : Value) (σ : bS) (h : cGame_restAt_b41 n r4 x1 x2 x3 σ = some q) : bfr MT (d + 2) M_X0_restAt 41 [some (.ref 68), some (.int x1), some (.int x2), some (.int x3)] [] [] (mkC ra rb rc re rf rg σ) (some (.int q.1), mkC ra rb rc re rf rg q.2) := by
  unfold cGame_restAt_b41 at h
  refine bfr_run 1 44 [some (.ref 68), some (.int x1), some (.int x2), some (.int (x3 + ci_1))] [] [] (mkC ra rb rc re rf rg σ) (fun _ _ => rfl) ?_
  refine bfr_run 1 4 [some (.ref 68), some (.int x1), some (.int x2), some (.int (x3 + ci_1))] [] [] (mkC ra rb rc re rf rg σ) (fun _ _ => rfl) ?_
  exact hr4 _ _ _ _ _ _ _ _ _ _ h
set_option maxRecDepth 100000 in
theorem k_cGame_restAt_b4 (n d : Nat) (q : (Int32 × bS)) : ∀ (k : Nat) (x1 : Int32) (x2 : Int32) (x3 : Int32) (ra : Nat) (rb : Nat) (rc : Nat) (re : Nat) (rf : Value) (rg : Value) (σ : bS), cGame_restAt_b4 n k x1 x2 x3 σ = some q → bfr MT (d + 2) M_X0_restAt 4 [some (.ref 68), some (.int x1), some (.int x2), some (.int x3)] [] [] (mkC ra rb rc re rf rg σ) (some (.int q.1), mkC ra rb rc re rf rg q.2) := by
  intro k
  induction k with
  | zero => intro x1 x2 x3 ra rb rc re rf rg σ h; exact bno h
  | succ k ih =>
    intro x1 x2 x3 ra rb rc re rf rg σ h
    unfold cGame_restAt_b4 at h
    refine bfr_br 5 (pc1 := 47) (L1 := [some (.ref 68), some (.int x1), some (.int x2), some (.int x3)]) (J1 := []) (st1 := []) (w1 := mkC ra rb rc re rf rg σ) (pc2 := 15) (L2 := [some (.ref 68), some (.int x1), some (.int x2), some (.int x3)]) (J2 := []) (st2 := []) (w2 := mkC ra rb rc re rf rg σ) (fun _ _ => rfl) h (fun h => ?_) (fun h => ?_)
    · cases h
      exact bfr_ret 2 (fun _ _ => rfl)
    · refine bfr_call 3 (d1 := d + 1) (M1 := M_X0_isChoice) (vs := [(.ref 68), (.int x3)]) (w1 := mkC ra rb rc re rf rg σ) (pc2 := 20) (L2 := [some (.ref 68), some (.int x1), some (.int x2), some (.int x3)]) (J2 := []) (rest := []) (fun a => some (.int a.1)) (fun a => mkC ra rb rc re rf rg a.2) (fun _ _ => rfl) h (fun a ha => k_cGame_isChoice n (d + 1) _ _ _ _ _ _ _ _ _ ha) (fun q1 _ h => ?_)
      refine bfr_br 1 (pc1 := 41) (L1 := [some (.ref 68), some (.int x1), some (.int x2), some (.int x3)]) (J1 := []) (st1 := []) (w1 := mkC ra rb rc re rf rg q1.2) (pc2 := 23) (L2 := [some (.ref 68), some (.int x1), some (.int x2), some (.int x3)]) (J2 := []) (st2 := []) (w2 := mkC ra rb rc re rf rg q1.2) (fun _ _ => rfl) h (fun h => ?_) (fun h => ?_)
      · exact k_cGame_restAt_b41 n d _ q (ih) _ _ _ _ _ _ _ _ _ _ h
      · refine bfr_call 3 (d1 := d + 1) (M1 := M_X0_isRest) (vs := [(.ref 68), (.int x3)]) (w1 := mkC ra rb rc re rf rg q1.2) (pc2 := 28) (L2 := [some (.ref 68), some (.int x1), some (.int x2), some (.int x3)]) (J2 := []) (rest := []) (fun a => some (.int a.1)) (fun a => mkC ra rb rc re rf rg a.2) (fun _ _ => rfl) h (fun a ha => k_cGame_isRest n (d + 0) _ _ _ _ _ _ _ _ _ ha) (fun q2 _ h => ?_)
        refine bfr_br 1 (pc1 := 41) (L1 := [some (.ref 68), some (.int x1), some (.int x2), some (.int x3)]) (J1 := []) (st1 := []) (w1 := mkC ra rb rc re rf rg q2.2) (pc2 := 31) (L2 := [some (.ref 68), some (.int x1), some (.int x2), some (.int x3)]) (J2 := []) (st2 := []) (w2 := mkC ra rb rc re rf rg q2.2) (fun _ _ => rfl) h (fun h => ?_) (fun h => ?_)
        · exact k_cGame_restAt_b41 n d _ q (ih) _ _ _ _ _ _ _ _ _ _ h
        · refine bfr_br 3 (pc1 := 36) (L1 := [some (.ref 68), some (.int x1), some (.int x2), some (.int x3)]) (J1 := []) (st1 := []) (w1 := mkC ra rb rc re rf rg q2.2) (pc2 := 38) (L2 := [some (.ref 68), some (.int x1), some (.int x2), some (.int x3)]) (J2 := []) (st2 := []) (w2 := mkC ra rb rc re rf rg q2.2) (fun _ _ => rfl) h (fun h => ?_) (fun h => ?_)
          · cases h
            exact bfr_ret 2 (fun _ _ => rfl)
          · refine bfr_run 1 41 [some (.ref 68), some (.int x1), some (.int (x2 + ci_1)), some (.int x3)] [] [] (mkC ra rb rc re rf rg q2.2) (fun _ _ => rfl) ?_
            exact k_cGame_restAt_b41 n d _ q (ih) _ _ _ _ _ _ _ _ _ _ h
set_option maxRecDepth 100000 in
theorem k_cGame_restAt (n d : Nat) (q : (Int32 × bS)) (x1 : Int32) (ra : Nat) (rb : Nat) (rc : Nat) (re : Nat) (rf : Value) (rg : Value) (σ : bS) (h : cGame_restAt n x1 σ = some q) : bfr MT (d + 2) M_X0_restAt 0 [some (.ref 68), some (.int x1), none, none] [] [] (mkC ra rb rc re rf rg σ) (some (.int q.1), mkC ra rb rc re rf rg q.2) := by
  unfold cGame_restAt at h
  refine bfr_run 4 4 [some (.ref 68), some (.int x1), some (.int ci_0), some (.int ci_0)] [] [] (mkC ra rb rc re rf rg σ) (fun _ _ => rfl) ?_
  exact k_cGame_restAt_b4 n d q _ _ _ _ _ _ _ _ _ _ _ h
set_option maxRecDepth 100000 in
theorem k_cGame_countRests_b34 (n d : Nat) (r4 : Int32 → Int32 → bS → Option (Int32 × bS)) (q : (Int32 × bS)) (hr4 : ∀ (x1 : Int32) (x2 : Int32) (ra : Nat) (rb : Nat) (rc : Nat) (re : Nat) (rf : Value) (rg : Value) (σ : bS), r4 x1 x2 σ = some q → bfr MT (d + 2) M_X0_countRests 4 [some (.ref 68), some (.int x1), some (.int x2)] [] [] (mkC ra rb rc re rf rg σ) (some (.int q.1), mkC ra rb rc re rf rg q.2)) (x1 : Int32) (x2 : Int32) (ra : Nat) (rb : Nat) (rc : Nat) (re : Nat) (rf : Value) (rg : Value) (σ : bS) (h : cGame_countRests_b34 n r4 x1 x2 σ = some q) : bfr MT (d + 2) M_X0_countRests 34 [some (.ref 68), some (.int x1), some (.int x2)] [] [] (mkC ra rb rc re rf rg σ) (some (.int q.1), mkC ra rb rc re rf rg q.2) := by
  unfold cGame_countRests_b34 at h
  refine bfr_run 1 37 [some (.ref 68), some (.int x1), some (.int (x2 + ci_1))] [] [] (mkC ra rb rc re rf rg σ) (fun _ _ => rfl) ?_
  refine bfr_run 1 4 [some (.ref 68), some (.int x1), some (.int (x2 + ci_1))] [] [] (mkC ra rb rc re rf rg σ) (fun _ _ => rfl) ?_
  exact hr4 _ _ _ _ _ _ _ _ _ h
set_option maxRecDepth 100000 in
theorem k_cGame_countRests_b4 (n d : Nat) (q : (Int32 × bS)) : ∀ (k : Nat) (x1 : Int32) (x2 : Int32) (ra : Nat) (rb : Nat) (rc : Nat) (re : Nat) (rf : Value) (rg : Value) (σ : bS), cGame_countRests_b4 n k x1 x2 σ = some q → bfr MT (d + 2) M_X0_countRests 4 [some (.ref 68), some (.int x1), some (.int x2)] [] [] (mkC ra rb rc re rf rg σ) (some (.int q.1), mkC ra rb rc re rf rg q.2) := by
  intro k
  induction k with
  | zero => intro x1 x2 ra rb rc re rf rg σ h; exact bno h
  | succ k ih =>
    intro x1 x2 ra rb rc re rf rg σ h
    unfold cGame_countRests_b4 at h
    refine bfr_br 5 (pc1 := 40) (L1 := [some (.ref 68), some (.int x1), some (.int x2)]) (J1 := []) (st1 := []) (w1 := mkC ra rb rc re rf rg σ) (pc2 := 15) (L2 := [some (.ref 68), some (.int x1), some (.int x2)]) (J2 := []) (st2 := []) (w2 := mkC ra rb rc re rf rg σ) (fun _ _ => rfl) h (fun h => ?_) (fun h => ?_)
    · cases h
      exact bfr_ret 2 (fun _ _ => rfl)
    · refine bfr_call 3 (d1 := d + 1) (M1 := M_X0_isChoice) (vs := [(.ref 68), (.int x2)]) (w1 := mkC ra rb rc re rf rg σ) (pc2 := 20) (L2 := [some (.ref 68), some (.int x1), some (.int x2)]) (J2 := []) (rest := []) (fun a => some (.int a.1)) (fun a => mkC ra rb rc re rf rg a.2) (fun _ _ => rfl) h (fun a ha => k_cGame_isChoice n (d + 1) _ _ _ _ _ _ _ _ _ ha) (fun q1 _ h => ?_)
      refine bfr_br 1 (pc1 := 34) (L1 := [some (.ref 68), some (.int x1), some (.int x2)]) (J1 := []) (st1 := []) (w1 := mkC ra rb rc re rf rg q1.2) (pc2 := 23) (L2 := [some (.ref 68), some (.int x1), some (.int x2)]) (J2 := []) (st2 := []) (w2 := mkC ra rb rc re rf rg q1.2) (fun _ _ => rfl) h (fun h => ?_) (fun h => ?_)
      · exact k_cGame_countRests_b34 n d _ q (ih) _ _ _ _ _ _ _ _ _ h
      · refine bfr_call 3 (d1 := d + 1) (M1 := M_X0_isRest) (vs := [(.ref 68), (.int x2)]) (w1 := mkC ra rb rc re rf rg q1.2) (pc2 := 28) (L2 := [some (.ref 68), some (.int x1), some (.int x2)]) (J2 := []) (rest := []) (fun a => some (.int a.1)) (fun a => mkC ra rb rc re rf rg a.2) (fun _ _ => rfl) h (fun a ha => k_cGame_isRest n (d + 0) _ _ _ _ _ _ _ _ _ ha) (fun q2 _ h => ?_)
        refine bfr_br 1 (pc1 := 34) (L1 := [some (.ref 68), some (.int x1), some (.int x2)]) (J1 := []) (st1 := []) (w1 := mkC ra rb rc re rf rg q2.2) (pc2 := 31) (L2 := [some (.ref 68), some (.int x1), some (.int x2)]) (J2 := []) (st2 := []) (w2 := mkC ra rb rc re rf rg q2.2) (fun _ _ => rfl) h (fun h => ?_) (fun h => ?_)
        · exact k_cGame_countRests_b34 n d _ q (ih) _ _ _ _ _ _ _ _ _ h
        · refine bfr_run 1 34 [some (.ref 68), some (.int (x1 + ci_1)), some (.int x2)] [] [] (mkC ra rb rc re rf rg q2.2) (fun _ _ => rfl) ?_
          exact k_cGame_countRests_b34 n d _ q (ih) _ _ _ _ _ _ _ _ _ h
set_option maxRecDepth 100000 in
theorem k_cGame_countRests (n d : Nat) (q : (Int32 × bS)) (ra : Nat) (rb : Nat) (rc : Nat) (re : Nat) (rf : Value) (rg : Value) (σ : bS) (h : cGame_countRests n σ = some q) : bfr MT (d + 2) M_X0_countRests 0 [some (.ref 68), none, none] [] [] (mkC ra rb rc re rf rg σ) (some (.int q.1), mkC ra rb rc re rf rg q.2) := by
  unfold cGame_countRests at h
  refine bfr_run 4 4 [some (.ref 68), some (.int ci_0), some (.int ci_0)] [] [] (mkC ra rb rc re rf rg σ) (fun _ _ => rfl) ?_
  exact k_cGame_countRests_b4 n d q _ _ _ _ _ _ _ _ _ _ h
set_option maxRecDepth 100000 in
theorem k_cTop_rests_b65 (n d : Nat) (q : (Int32 × bS)) (s0 : Int32) (o0 : Option Value) (o1 : Option Value) (o2 : Option Value) (o3 : Option Value) (o4 : Option Value) (rb : Nat) (re : Nat) (rf : Value) (rg : Value) (σ : bS) (h : cTop_rests_b65 n s0 σ = some q) : bfr MT (d + 5) M_X11_rests 65 [o0, o1, o2, o3, o4] [] [(.int s0)] (mkC 1 rb 1 re rf rg σ) (some (.int q.1), mkC 1 rb 1 re rf rg q.2) := by
  unfold cTop_rests_b65 at h
  cases h
  exact bfr_ret 1 (fun _ _ => rfl)
set_option maxRecDepth 100000 in
theorem k_cTop_rests_b15 (n d : Nat) (q : (Int32 × bS)) (x1 : Int32) (x2 : Int32) (x3 : Int32) (s0 : Int32) (o4 : Option Value) (rb : Nat) (re : Nat) (rf : Value) (rg : Value) (σ : bS) (h : cTop_rests_b15 n x1 x2 x3 s0 σ = some q) : bfr MT (d + 5) M_X11_rests 15 [some (.ref 0), some (.int x1), some (.int x2), some (.int x3), o4] [] [(.int s0)] (mkC 1 rb 1 re rf rg σ) (some (.int q.1), mkC 1 rb 1 re rf rg q.2) := by
  unfold cTop_rests_b15 at h
  refine bfr_br 3 (pc1 := 25) (L1 := [some (.ref 0), some (.int x1), some (.int x2), some (.int x3), some (.int s0)]) (J1 := []) (st1 := []) (w1 := mkC 1 rb 1 re rf rg σ) (pc2 := 22) (L2 := [some (.ref 0), some (.int x1), some (.int x2), some (.int x3), some (.int s0)]) (J2 := []) (st2 := []) (w2 := mkC 1 rb 1 re rf rg σ) (fun _ _ => rfl) h (fun h => ?_) (fun h => ?_)
  · refine bfr_call 6 (d1 := d + 4) (M1 := M_X5_prepare) (vs := [(.ref 59), (.int x1), (.int x2), (.int ci_1)]) (w1 := mkC 1 rb 1 re rf rg σ) (pc2 := 35) (L2 := [some (.ref 0), some (.int x1), some (.int x2), some (.int x3), some (.int s0)]) (J2 := []) (rest := []) (fun _ => none) (fun a => mkC 1 rb 1 re rf rg a) (fun _ _ => rfl) h (fun a ha => k_cRows_prepare n (d + 1) _ _ _ _ _ _ _ _ _ _ ha) (fun q1 _ h => ?_)
    refine bfr_call 3 (d1 := d + 4) (M1 := M_X0_playAll) (vs := [(.ref 68)]) (w1 := mkC 1 rb 1 re rf rg q1) (pc2 := 42) (L2 := [some (.ref 0), some (.int x1), some (.int x2), some (.int x3), some (.int s0)]) (J2 := []) (rest := []) (fun _ => none) (fun a => mkC 1 rb 1 re rf rg a) (fun _ _ => rfl) h (fun a ha => k_cGame_playAll n (d + 0) _ _ _ _ _ _ _ ha) (fun q2 _ h => ?_)
    refine bfr_br 3 (pc1 := 47) (L1 := [some (.ref 0), some (.int x1), some (.int x2), some (.int x3), some (.int s0)]) (J1 := []) (st1 := []) (w1 := mkC 1 rb 1 re rf rg q2) (pc2 := 57) (L2 := [some (.ref 0), some (.int x1), some (.int x2), some (.int x3), some (.int s0)]) (J2 := []) (st2 := []) (w2 := mkC 1 rb 1 re rf rg q2) (fun _ _ => rfl) h (fun h => ?_) (fun h => ?_)
    · refine bfr_call 3 (d1 := d + 4) (M1 := M_X0_countRests) (vs := [(.ref 68)]) (w1 := mkC 1 rb 1 re rf rg q2) (pc2 := 54) (L2 := [some (.ref 0), some (.int x1), some (.int x2), some (.int x3), some (.int s0)]) (J2 := []) (rest := []) (fun a => some (.int a.1)) (fun a => mkC 1 rb 1 re rf rg a.2) (fun _ _ => rfl) h (fun a ha => k_cGame_countRests n (d + 2) _ _ _ _ _ _ _ _ ha) (fun q3 _ h => ?_)
      refine bfr_run 1 65 [some (.ref 0), some (.int x1), some (.int x2), some (.int x3), some (.int s0)] [] [(.int q3.1)] (mkC 1 rb 1 re rf rg q3.2) (fun _ _ => rfl) ?_
      exact k_cTop_rests_b65 n d q _ _ _ _ _ _ _ _ _ _ _ h
    · refine bfr_call 4 (d1 := d + 4) (M1 := M_X0_restAt) (vs := [(.ref 68), (.int x3)]) (w1 := mkC 1 rb 1 re rf rg q2) (pc2 := 65) (L2 := [some (.ref 0), some (.int x1), some (.int x2), some (.int x3), some (.int s0)]) (J2 := []) (rest := []) (fun a => some (.int a.1)) (fun a => mkC 1 rb 1 re rf rg a.2) (fun _ _ => rfl) h (fun a ha => k_cGame_restAt n (d + 2) _ _ _ _ _ _ _ _ _ ha) (fun q4 _ h => ?_)
      exact k_cTop_rests_b65 n d q _ _ _ _ _ _ _ _ _ _ _ h
  · cases h
    exact bfr_ret 2 (fun _ _ => rfl)
set_option maxRecDepth 100000 in
theorem k_cTop_rests (n d : Nat) (q : (Int32 × bS)) (x1 : Int32) (x2 : Int32) (x3 : Int32) (rb : Nat) (re : Nat) (rf : Value) (rg : Value) (σ : bS) (h : cTop_rests n x1 x2 x3 σ = some q) : bfr MT (d + 5) M_X11_rests 0 [some (.ref 0), some (.int x1), some (.int x2), some (.int x3), none] [] [] (mkC 1 rb 1 re rf rg σ) (some (.int q.1), mkC 1 rb 1 re rf rg q.2) := by
  unfold cTop_rests at h
  refine bfr_br 3 (pc1 := 9) (L1 := [some (.ref 0), some (.int x1), some (.int x2), some (.int x3), none]) (J1 := []) (st1 := []) (w1 := mkC 1 rb 1 re rf rg σ) (pc2 := 5) (L2 := [some (.ref 0), some (.int x1), some (.int x2), some (.int x3), none]) (J2 := []) (st2 := []) (w2 := mkC 1 rb 1 re rf rg σ) (fun _ _ => rfl) h (fun h => ?_) (fun h => ?_)
  · refine bfr_call 4 (d1 := d + 4) (M1 := M_X11_rowFault) (vs := [(.ref 0), (.int x1), (.int x2)]) (w1 := mkC 1 rb 1 re rf rg σ) (pc2 := 15) (L2 := [some (.ref 0), some (.int x1), some (.int x2), some (.int x3), none]) (J2 := []) (rest := []) (fun a => some (.int a.1)) (fun a => mkC 1 rb 1 re rf rg a.2) (fun _ _ => rfl) h (fun a ha => k_cTop_rowFault n (d + 3) _ _ _ _ _ _ _ _ ha) (fun q5 _ h => ?_)
    exact k_cTop_rests_b15 n d q _ _ _ _ _ _ _ _ _ _ h
  · refine bfr_run 2 15 [some (.ref 0), some (.int x1), some (.int x2), some (.int x3), none] [] [(.int ci_m1)] (mkC 1 rb 1 re rf rg σ) (fun _ _ => rfl) ?_
    exact k_cTop_rests_b15 n d q _ _ _ _ _ _ _ _ _ _ h
set_option maxRecDepth 100000 in
theorem k_cGame_mostWorth_b37 (n d : Nat) (r8 : Int32 → Int32 → bS → Option (Int32 × bS)) (q : (Int32 × bS)) (hr8 : ∀ (x1 : Int32) (x2 : Int32) (ra : Nat) (rb : Nat) (rc : Nat) (re : Nat) (rf : Value) (rg : Value) (σ : bS), r8 x1 x2 σ = some q → bfr MT (d + 2) M_X0_mostWorth 8 [some (.ref 68), some (.int x1), some (.int x2)] [] [] (mkC ra rb rc re rf rg σ) (some (.int q.1), mkC ra rb rc re rf rg q.2)) (x1 : Int32) (x2 : Int32) (ra : Nat) (rb : Nat) (rc : Nat) (re : Nat) (rf : Value) (rg : Value) (σ : bS) (h : cGame_mostWorth_b37 n r8 x1 x2 σ = some q) : bfr MT (d + 2) M_X0_mostWorth 37 [some (.ref 68), some (.int x1), some (.int x2)] [] [] (mkC ra rb rc re rf rg σ) (some (.int q.1), mkC ra rb rc re rf rg q.2) := by
  unfold cGame_mostWorth_b37 at h
  refine bfr_run 1 40 [some (.ref 68), some (.int x1), some (.int (x2 + ci_1))] [] [] (mkC ra rb rc re rf rg σ) (fun _ _ => rfl) ?_
  refine bfr_run 1 8 [some (.ref 68), some (.int x1), some (.int (x2 + ci_1))] [] [] (mkC ra rb rc re rf rg σ) (fun _ _ => rfl) ?_
  exact hr8 _ _ _ _ _ _ _ _ _ h
set_option maxRecDepth 100000 in
theorem k_cGame_mostWorth_b8 (n d : Nat) (q : (Int32 × bS)) : ∀ (k : Nat) (x1 : Int32) (x2 : Int32) (ra : Nat) (rb : Nat) (rc : Nat) (re : Nat) (rf : Value) (rg : Value) (σ : bS), cGame_mostWorth_b8 n k x1 x2 σ = some q → bfr MT (d + 2) M_X0_mostWorth 8 [some (.ref 68), some (.int x1), some (.int x2)] [] [] (mkC ra rb rc re rf rg σ) (some (.int q.1), mkC ra rb rc re rf rg q.2) := by
  intro k
  induction k with
  | zero => intro x1 x2 ra rb rc re rf rg σ h; exact bno h
  | succ k ih =>
    intro x1 x2 ra rb rc re rf rg σ h
    unfold cGame_mostWorth_b8 at h
    refine bfr_br 5 (pc1 := 43) (L1 := [some (.ref 68), some (.int x1), some (.int x2)]) (J1 := []) (st1 := []) (w1 := mkC ra rb rc re rf rg σ) (pc2 := 19) (L2 := [some (.ref 68), some (.int x1), some (.int x2)]) (J2 := []) (st2 := []) (w2 := mkC ra rb rc re rf rg σ) (fun _ _ => rfl) h (fun h => ?_) (fun h => ?_)
    · cases h
      exact bfr_ret 2 (fun _ _ => rfl)
    · refine bfr_call 3 (d1 := d + 1) (M1 := M_X0_isChoice) (vs := [(.ref 68), (.int x2)]) (w1 := mkC ra rb rc re rf rg σ) (pc2 := 24) (L2 := [some (.ref 68), some (.int x1), some (.int x2)]) (J2 := []) (rest := []) (fun a => some (.int a.1)) (fun a => mkC ra rb rc re rf rg a.2) (fun _ _ => rfl) h (fun a ha => k_cGame_isChoice n (d + 1) _ _ _ _ _ _ _ _ _ ha) (fun q1 _ h => ?_)
      refine bfr_br 1 (pc1 := 37) (L1 := [some (.ref 68), some (.int x1), some (.int x2)]) (J1 := []) (st1 := []) (w1 := mkC ra rb rc re rf rg q1.2) (pc2 := 27) (L2 := [some (.ref 68), some (.int x1), some (.int x2)]) (J2 := []) (st2 := []) (w2 := mkC ra rb rc re rf rg q1.2) (fun _ _ => rfl) h (fun h => ?_) (fun h => ?_)
      · exact k_cGame_mostWorth_b37 n d _ q (ih) _ _ _ _ _ _ _ _ _ h
      · refine bfr_call 4 (d1 := d + 1) (M1 := M_X0_worthOf) (vs := [(.ref 68), (.int x2)]) (w1 := mkC ra rb rc re rf rg q1.2) (pc2 := 33) (L2 := [some (.ref 68), some (.int x1), some (.int x2)]) (J2 := []) (rest := [(.int x1)]) (fun a => some (.int a.1)) (fun a => mkC ra rb rc re rf rg a.2) (fun _ _ => rfl) h (fun a ha => k_cGame_worthOf n (d + 0) _ _ _ _ _ _ _ _ _ ha) (fun q2 _ h => ?_)
        refine bfr_call 1 (d1 := d + 1) (M1 := M_J9_max_7cf53) (vs := [(.int x1), (.int q2.1)]) (w1 := mkC ra rb rc re rf rg q2.2) (pc2 := 36) (L2 := [some (.ref 68), some (.int x1), some (.int x2)]) (J2 := []) (rest := []) (fun a => some (.int a.1)) (fun a => mkC ra rb rc re rf rg a.2) (fun _ _ => rfl) h (fun a ha => k_cj_max n (d + 1) _ _ _ _ _ _ _ _ _ _ ha) (fun q3 _ h => ?_)
        refine bfr_run 1 37 [some (.ref 68), some (.int q3.1), some (.int x2)] [] [] (mkC ra rb rc re rf rg q3.2) (fun _ _ => rfl) ?_
        exact k_cGame_mostWorth_b37 n d _ q (ih) _ _ _ _ _ _ _ _ _ h
set_option maxRecDepth 100000 in
theorem k_cGame_mostWorth (n d : Nat) (q : (Int32 × bS)) (ra : Nat) (rb : Nat) (rc : Nat) (re : Nat) (rf : Value) (rg : Value) (σ : bS) (h : cGame_mostWorth n σ = some q) : bfr MT (d + 2) M_X0_mostWorth 0 [some (.ref 68), none, none] [] [] (mkC ra rb rc re rf rg σ) (some (.int q.1), mkC ra rb rc re rf rg q.2) := by
  unfold cGame_mostWorth at h
  refine bfr_call 3 (d1 := d + 1) (M1 := M_X0_worthOf) (vs := [(.ref 68), (.int ci_0)]) (w1 := mkC ra rb rc re rf rg σ) (pc2 := 5) (L2 := [some (.ref 68), none, none]) (J2 := []) (rest := []) (fun a => some (.int a.1)) (fun a => mkC ra rb rc re rf rg a.2) (fun _ _ => rfl) h (fun a ha => k_cGame_worthOf n (d + 0) _ _ _ _ _ _ _ _ _ ha) (fun q4 _ h => ?_)
  refine bfr_run 3 8 [some (.ref 68), some (.int q4.1), some (.int ci_1)] [] [] (mkC ra rb rc re rf rg q4.2) (fun _ _ => rfl) ?_
  exact k_cGame_mostWorth_b8 n d q _ _ _ _ _ _ _ _ _ _ h
set_option maxRecDepth 100000 in
theorem k_cGame_leastRestingWorth_b42 (n d : Nat) (r5 : Int32 → Int32 → bS → Option (Int32 × bS)) (q : (Int32 × bS)) (hr5 : ∀ (x1 : Int32) (x2 : Int32) (ra : Nat) (rb : Nat) (rc : Nat) (re : Nat) (rf : Value) (rg : Value) (σ : bS), r5 x1 x2 σ = some q → bfr MT (d + 2) M_X0_leastRestingWorth 5 [some (.ref 68), some (.int x1), some (.int x2)] [] [] (mkC ra rb rc re rf rg σ) (some (.int q.1), mkC ra rb rc re rf rg q.2)) (x1 : Int32) (x2 : Int32) (ra : Nat) (rb : Nat) (rc : Nat) (re : Nat) (rf : Value) (rg : Value) (σ : bS) (h : cGame_leastRestingWorth_b42 n r5 x1 x2 σ = some q) : bfr MT (d + 2) M_X0_leastRestingWorth 42 [some (.ref 68), some (.int x1), some (.int x2)] [] [] (mkC ra rb rc re rf rg σ) (some (.int q.1), mkC ra rb rc re rf rg q.2) := by
  unfold cGame_leastRestingWorth_b42 at h
  refine bfr_run 1 45 [some (.ref 68), some (.int x1), some (.int (x2 + ci_1))] [] [] (mkC ra rb rc re rf rg σ) (fun _ _ => rfl) ?_
  refine bfr_run 1 5 [some (.ref 68), some (.int x1), some (.int (x2 + ci_1))] [] [] (mkC ra rb rc re rf rg σ) (fun _ _ => rfl) ?_
  exact hr5 _ _ _ _ _ _ _ _ _ h
set_option maxRecDepth 100000 in
theorem k_cGame_leastRestingWorth_b5 (n d : Nat) (q : (Int32 × bS)) : ∀ (k : Nat) (x1 : Int32) (x2 : Int32) (ra : Nat) (rb : Nat) (rc : Nat) (re : Nat) (rf : Value) (rg : Value) (σ : bS), cGame_leastRestingWorth_b5 n k x1 x2 σ = some q → bfr MT (d + 2) M_X0_leastRestingWorth 5 [some (.ref 68), some (.int x1), some (.int x2)] [] [] (mkC ra rb rc re rf rg σ) (some (.int q.1), mkC ra rb rc re rf rg q.2) := by
  intro k
  induction k with
  | zero => intro x1 x2 ra rb rc re rf rg σ h; exact bno h
  | succ k ih =>
    intro x1 x2 ra rb rc re rf rg σ h
    unfold cGame_leastRestingWorth_b5 at h
    refine bfr_br 5 (pc1 := 48) (L1 := [some (.ref 68), some (.int x1), some (.int x2)]) (J1 := []) (st1 := []) (w1 := mkC ra rb rc re rf rg σ) (pc2 := 16) (L2 := [some (.ref 68), some (.int x1), some (.int x2)]) (J2 := []) (st2 := []) (w2 := mkC ra rb rc re rf rg σ) (fun _ _ => rfl) h (fun h => ?_) (fun h => ?_)
    · cases h
      exact bfr_ret 2 (fun _ _ => rfl)
    · refine bfr_call 3 (d1 := d + 1) (M1 := M_X0_isChoice) (vs := [(.ref 68), (.int x2)]) (w1 := mkC ra rb rc re rf rg σ) (pc2 := 21) (L2 := [some (.ref 68), some (.int x1), some (.int x2)]) (J2 := []) (rest := []) (fun a => some (.int a.1)) (fun a => mkC ra rb rc re rf rg a.2) (fun _ _ => rfl) h (fun a ha => k_cGame_isChoice n (d + 1) _ _ _ _ _ _ _ _ _ ha) (fun q1 _ h => ?_)
      refine bfr_br 1 (pc1 := 42) (L1 := [some (.ref 68), some (.int x1), some (.int x2)]) (J1 := []) (st1 := []) (w1 := mkC ra rb rc re rf rg q1.2) (pc2 := 24) (L2 := [some (.ref 68), some (.int x1), some (.int x2)]) (J2 := []) (st2 := []) (w2 := mkC ra rb rc re rf rg q1.2) (fun _ _ => rfl) h (fun h => ?_) (fun h => ?_)
      · exact k_cGame_leastRestingWorth_b42 n d _ q (ih) _ _ _ _ _ _ _ _ _ h
      · refine bfr_call 3 (d1 := d + 1) (M1 := M_X0_isRest) (vs := [(.ref 68), (.int x2)]) (w1 := mkC ra rb rc re rf rg q1.2) (pc2 := 29) (L2 := [some (.ref 68), some (.int x1), some (.int x2)]) (J2 := []) (rest := []) (fun a => some (.int a.1)) (fun a => mkC ra rb rc re rf rg a.2) (fun _ _ => rfl) h (fun a ha => k_cGame_isRest n (d + 0) _ _ _ _ _ _ _ _ _ ha) (fun q2 _ h => ?_)
        refine bfr_br 1 (pc1 := 42) (L1 := [some (.ref 68), some (.int x1), some (.int x2)]) (J1 := []) (st1 := []) (w1 := mkC ra rb rc re rf rg q2.2) (pc2 := 32) (L2 := [some (.ref 68), some (.int x1), some (.int x2)]) (J2 := []) (st2 := []) (w2 := mkC ra rb rc re rf rg q2.2) (fun _ _ => rfl) h (fun h => ?_) (fun h => ?_)
        · exact k_cGame_leastRestingWorth_b42 n d _ q (ih) _ _ _ _ _ _ _ _ _ h
        · refine bfr_call 4 (d1 := d + 1) (M1 := M_X0_worthOf) (vs := [(.ref 68), (.int x2)]) (w1 := mkC ra rb rc re rf rg q2.2) (pc2 := 38) (L2 := [some (.ref 68), some (.int x1), some (.int x2)]) (J2 := []) (rest := [(.int x1)]) (fun a => some (.int a.1)) (fun a => mkC ra rb rc re rf rg a.2) (fun _ _ => rfl) h (fun a ha => k_cGame_worthOf n (d + 0) _ _ _ _ _ _ _ _ _ ha) (fun q3 _ h => ?_)
          refine bfr_call 1 (d1 := d + 1) (M1 := M_J9_min_7cf53) (vs := [(.int x1), (.int q3.1)]) (w1 := mkC ra rb rc re rf rg q3.2) (pc2 := 41) (L2 := [some (.ref 68), some (.int x1), some (.int x2)]) (J2 := []) (rest := []) (fun a => some (.int a.1)) (fun a => mkC ra rb rc re rf rg a.2) (fun _ _ => rfl) h (fun a ha => k_cj_min n (d + 1) _ _ _ _ _ _ _ _ _ _ ha) (fun q4 _ h => ?_)
          refine bfr_run 1 42 [some (.ref 68), some (.int q4.1), some (.int x2)] [] [] (mkC ra rb rc re rf rg q4.2) (fun _ _ => rfl) ?_
          exact k_cGame_leastRestingWorth_b42 n d _ q (ih) _ _ _ _ _ _ _ _ _ h
set_option maxRecDepth 100000 in
theorem k_cGame_leastRestingWorth (n d : Nat) (q : (Int32 × bS)) (ra : Nat) (rb : Nat) (rc : Nat) (re : Nat) (rf : Value) (rg : Value) (σ : bS) (h : cGame_leastRestingWorth n σ = some q) : bfr MT (d + 2) M_X0_leastRestingWorth 0 [some (.ref 68), none, none] [] [] (mkC ra rb rc re rf rg σ) (some (.int q.1), mkC ra rb rc re rf rg q.2) := by
  unfold cGame_leastRestingWorth at h
  refine bfr_run 4 5 [some (.ref 68), some (.int (1073741824 : Int32)), some (.int ci_0)] [] [] (mkC ra rb rc re rf rg σ) (fun _ _ => rfl) ?_
  exact k_cGame_leastRestingWorth_b5 n d q _ _ _ _ _ _ _ _ _ _ h
set_option maxRecDepth 100000 in
theorem k_cTop_best_b73 (n d : Nat) (q : (Int32 × bS)) (s0 : Int32) (o0 : Option Value) (o1 : Option Value) (o2 : Option Value) (o3 : Option Value) (rb : Nat) (re : Nat) (rf : Value) (rg : Value) (σ : bS) (h : cTop_best_b73 n s0 σ = some q) : bfr MT (d + 5) M_X11_best 73 [o0, o1, o2, o3] [] [(.int s0)] (mkC 1 rb 1 re rf rg σ) (some (.int q.1), mkC 1 rb 1 re rf rg q.2) := by
  unfold cTop_best_b73 at h
  cases h
  exact bfr_ret 1 (fun _ _ => rfl)
set_option maxRecDepth 100000 in
theorem k_cTop_best (n d : Nat) (q : (Int32 × bS)) (x1 : Int32) (x2 : Int32) (x3 : Int32) (rb : Nat) (re : Nat) (rf : Value) (rg : Value) (σ : bS) (h : cTop_best n x1 x2 x3 σ = some q) : bfr MT (d + 5) M_X11_best 0 [some (.ref 0), some (.int x1), some (.int x2), some (.int x3)] [] [] (mkC 1 rb 1 re rf rg σ) (some (.int q.1), mkC 1 rb 1 re rf rg q.2) := by
  unfold cTop_best at h
  refine bfr_call 4 (d1 := d + 4) (M1 := M_X11_isGame) (vs := [(.ref 0), (.int x1), (.int x2)]) (w1 := mkC 1 rb 1 re rf rg σ) (pc2 := 6) (L2 := [some (.ref 0), some (.int x1), some (.int x2), some (.int x3)]) (J2 := []) (rest := []) (fun a => some (.int a.1)) (fun a => mkC 1 rb 1 re rf rg a.2) (fun _ _ => rfl) h (fun a ha => k_cTop_isGame n (d + 2) _ _ _ _ _ _ _ _ ha) (fun q1 _ h => ?_)
  refine bfr_br 1 (pc1 := 9) (L1 := [some (.ref 0), some (.int x1), some (.int x2), some (.int x3)]) (J1 := []) (st1 := []) (w1 := mkC 1 rb 1 re rf rg q1.2) (pc2 := 13) (L2 := [some (.ref 0), some (.int x1), some (.int x2), some (.int x3)]) (J2 := []) (st2 := []) (w2 := mkC 1 rb 1 re rf rg q1.2) (fun _ _ => rfl) h (fun h => ?_) (fun h => ?_)
  · cases h
    exact bfr_ret 2 (fun _ _ => rfl)
  · refine bfr_call 6 (d1 := d + 4) (M1 := M_X5_prepare) (vs := [(.ref 59), (.int x1), (.int x2), (.int ci_1)]) (w1 := mkC 1 rb 1 re rf rg q1.2) (pc2 := 23) (L2 := [some (.ref 0), some (.int x1), some (.int x2), some (.int x3)]) (J2 := []) (rest := []) (fun _ => none) (fun a => mkC 1 rb 1 re rf rg a) (fun _ _ => rfl) h (fun a ha => k_cRows_prepare n (d + 1) _ _ _ _ _ _ _ _ _ _ ha) (fun q2 _ h => ?_)
    refine bfr_call 3 (d1 := d + 4) (M1 := M_X0_playAll) (vs := [(.ref 68)]) (w1 := mkC 1 rb 1 re rf rg q2) (pc2 := 30) (L2 := [some (.ref 0), some (.int x1), some (.int x2), some (.int x3)]) (J2 := []) (rest := []) (fun _ => none) (fun a => mkC 1 rb 1 re rf rg a) (fun _ _ => rfl) h (fun a ha => k_cGame_playAll n (d + 0) _ _ _ _ _ _ _ ha) (fun q3 _ h => ?_)
    refine bfr_br 2 (pc1 := 34) (L1 := [some (.ref 0), some (.int x1), some (.int x2), some (.int x3)]) (J1 := []) (st1 := []) (w1 := mkC 1 rb 1 re rf rg q3) (pc2 := 42) (L2 := [some (.ref 0), some (.int x1), some (.int x2), some (.int x3)]) (J2 := []) (st2 := []) (w2 := mkC 1 rb 1 re rf rg q3) (fun _ _ => rfl) h (fun h => ?_) (fun h => ?_)
    · refine bfr_call 3 (d1 := d + 4) (M1 := M_X0_mostWorth) (vs := [(.ref 68)]) (w1 := mkC 1 rb 1 re rf rg q3) (pc2 := 41) (L2 := [some (.ref 0), some (.int x1), some (.int x2), some (.int x3)]) (J2 := []) (rest := []) (fun a => some (.int a.1)) (fun a => mkC 1 rb 1 re rf rg a.2) (fun _ _ => rfl) h (fun a ha => k_cGame_mostWorth n (d + 2) _ _ _ _ _ _ _ _ ha) (fun q4 _ h => ?_)
      cases h
      exact bfr_ret 1 (fun _ _ => rfl)
    · refine bfr_call 3 (d1 := d + 4) (M1 := M_X0_countRests) (vs := [(.ref 68)]) (w1 := mkC 1 rb 1 re rf rg q3) (pc2 := 49) (L2 := [some (.ref 0), some (.int x1), some (.int x2), some (.int x3)]) (J2 := []) (rest := []) (fun a => some (.int a.1)) (fun a => mkC 1 rb 1 re rf rg a.2) (fun _ _ => rfl) h (fun a ha => k_cGame_countRests n (d + 2) _ _ _ _ _ _ _ _ ha) (fun q5 _ h => ?_)
      refine bfr_br 1 (pc1 := 52) (L1 := [some (.ref 0), some (.int x1), some (.int x2), some (.int x3)]) (J1 := []) (st1 := []) (w1 := mkC 1 rb 1 re rf rg q5.2) (pc2 := 58) (L2 := [some (.ref 0), some (.int x1), some (.int x2), some (.int x3)]) (J2 := []) (st2 := []) (w2 := mkC 1 rb 1 re rf rg q5.2) (fun _ _ => rfl) h (fun h => ?_) (fun h => ?_)
      · refine bfr_run 2 73 [some (.ref 0), some (.int x1), some (.int x2), some (.int x3)] [] [(.int cs_m1000)] (mkC 1 rb 1 re rf rg q5.2) (fun _ _ => rfl) ?_
        exact k_cTop_best_b73 n d q _ _ _ _ _ _ _ _ _ _ h
      · refine bfr_call 3 (d1 := d + 4) (M1 := M_X0_mostWorth) (vs := [(.ref 68)]) (w1 := mkC 1 rb 1 re rf rg q5.2) (pc2 := 65) (L2 := [some (.ref 0), some (.int x1), some (.int x2), some (.int x3)]) (J2 := []) (rest := []) (fun a => some (.int a.1)) (fun a => mkC 1 rb 1 re rf rg a.2) (fun _ _ => rfl) h (fun a ha => k_cGame_mostWorth n (d + 2) _ _ _ _ _ _ _ _ ha) (fun q6 _ h => ?_)
        refine bfr_call 3 (d1 := d + 4) (M1 := M_X0_leastRestingWorth) (vs := [(.ref 68)]) (w1 := mkC 1 rb 1 re rf rg q6.2) (pc2 := 72) (L2 := [some (.ref 0), some (.int x1), some (.int x2), some (.int x3)]) (J2 := []) (rest := [(.int q6.1)]) (fun a => some (.int a.1)) (fun a => mkC 1 rb 1 re rf rg a.2) (fun _ _ => rfl) h (fun a ha => k_cGame_leastRestingWorth n (d + 2) _ _ _ _ _ _ _ _ ha) (fun q7 _ h => ?_)
        refine bfr_run 1 73 [some (.ref 0), some (.int x1), some (.int x2), some (.int x3)] [] [(.int (q6.1 - q7.1))] (mkC 1 rb 1 re rf rg q7.2) (fun _ _ => rfl) ?_
        exact k_cTop_best_b73 n d q _ _ _ _ _ _ _ _ _ _ h
