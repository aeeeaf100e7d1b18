set_option maxRecDepth 100000 in
theorem k_cGoing_landAll_d_b37 (n d : Nat) (r2 : Int32 → Int32 → Int32 → bS → Option bS) (q : bS) (hr2 : ∀ (x1 : Int32) (x2 : Int32) (x3 : Int32) (ra : Nat) (rb : Nat) (rc : Nat) (rf : Value) (rg : Value) (σ : bS), r2 x1 x2 x3 σ = some q → bfr MT (d + 0) M_X1_landAll 2 [some (.ref 35), some (.int x1), some (.int x2), some (.int x3)] [] [] (mkC ra rb rc 1 rf rg σ) (none, mkC ra rb rc 1 rf rg q)) (x1 : Int32) (x2 : Int32) (x3 : Int32) (ra : Nat) (rb : Nat) (rc : Nat) (rf : Value) (rg : Value) (σ : bS) (h : cGoing_landAll_d_b37 n r2 x1 x2 x3 σ = some q) : bfr MT (d + 0) M_X1_landAll 37 [some (.ref 35), some (.int x1), some (.int x2), some (.int x3)] [] [] (mkC ra rb rc 1 rf rg σ) (none, mkC ra rb rc 1 rf rg q) := by
  unfold cGoing_landAll_d_b37 at h
  refine bfr_run 1 40 [some (.ref 35), some (.int x1), some (.int x2), some (.int (x3 + ci_1))] [] [] (mkC ra rb rc 1 rf rg σ) (fun _ _ => rfl) ?_
  refine bfr_run 1 2 [some (.ref 35), some (.int x1), some (.int x2), some (.int (x3 + ci_1))] [] [] (mkC ra rb rc 1 rf rg σ) (fun _ _ => rfl) ?_
  exact hr2 _ _ _ _ _ _ _ _ _ h
set_option maxRecDepth 100000 in
theorem k_cGoing_landAll_d_b2 (n d : Nat) (q : bS) : ∀ (k : Nat) (x1 : Int32) (x2 : Int32) (x3 : Int32) (ra : Nat) (rb : Nat) (rc : Nat) (rf : Value) (rg : Value) (σ : bS), cGoing_landAll_d_b2 n k x1 x2 x3 σ = some q → bfr MT (d + 0) M_X1_landAll 2 [some (.ref 35), some (.int x1), some (.int x2), some (.int x3)] [] [] (mkC ra rb rc 1 rf rg σ) (none, mkC ra rb rc 1 rf rg q) := by
  intro k
  induction k with
  | zero => intro x1 x2 x3 ra rb rc rf rg σ h; exact bno h
  | succ k ih =>
    intro x1 x2 x3 ra rb rc rf rg σ h
    unfold cGoing_landAll_d_b2 at h
    refine bfr_br 5 (pc1 := 43) (L1 := [some (.ref 35), some (.int x1), some (.int x2), some (.int x3)]) (J1 := []) (st1 := []) (w1 := mkC ra rb rc 1 rf rg σ) (pc2 := 13) (L2 := [some (.ref 35), some (.int x1), some (.int x2), some (.int x3)]) (J2 := []) (st2 := []) (w2 := mkC ra rb rc 1 rf rg σ) (fun _ _ => rfl) h (fun h => ?_) (fun h => ?_)
    · cases h
      exact bfr_ret 1 (fun _ _ => rfl)
    · refine bfr_in (i := x3) (m := 7) 4 (pc1 := 19) (L1 := [some (.ref 35), some (.int x1), some (.int x2), some (.int x3)]) (J1 := []) (st1 := [(.int (sA σ 39 x3))]) (w1 := mkC ra rb rc 1 rf rg σ) (fun _ _ => rfl) h (fun h => ?_)
      refine bfr_br 2 (pc1 := 23) (L1 := [some (.ref 35), some (.int x1), some (.int x2), some (.int x3)]) (J1 := []) (st1 := []) (w1 := mkC ra rb rc 1 rf rg σ) (pc2 := 37) (L2 := [some (.ref 35), some (.int x1), some (.int x2), some (.int x3)]) (J2 := []) (st2 := []) (w2 := mkC ra rb rc 1 rf rg σ) (fun _ _ => rfl) h (fun h => ?_) (fun h => ?_)
      · refine bfr_in (i := x3) (m := 7) 5 (pc1 := 30) (L1 := [some (.ref 35), some (.int x1), some (.int x2), some (.int x3)]) (J1 := []) (st1 := []) (w1 := ((mkC ra rb rc 1 rf rg σ).set 39 (.inl (0, 7, upd (σ.2.1 39) (x3).toNatClampNeg ci_m1)))) (fun _ _ => rfl) h (fun h => ?_)
        rw [mkC_A39]
        refine bfr_in (i := x3) (m := 7) 5 (pc1 := 37) (L1 := [some (.ref 35), some (.int x1), some (.int x2), some (.int x3)]) (J1 := []) (st1 := []) (w1 := ((mkC ra rb rc 1 rf rg (uA σ 39 x3 ci_m1)).set 38 (.inl (0, 7, upd ((uA σ 39 x3 ci_m1).2.1 38) (x3).toNatClampNeg x2)))) (fun _ _ => rfl) h (fun h => ?_)
        rw [mkC_A38]
        exact k_cGoing_landAll_d_b37 n d _ q (ih) _ _ _ _ _ _ _ _ _ h
      · exact k_cGoing_landAll_d_b37 n d _ q (ih) _ _ _ _ _ _ _ _ _ h
set_option maxRecDepth 100000 in
theorem k_cGoing_landAll_d (n d : Nat) (q : bS) (x1 : Int32) (x2 : Int32) (ra : Nat) (rb : Nat) (rc : Nat) (rf : Value) (rg : Value) (σ : bS) (h : cGoing_landAll_d n x1 x2 σ = some q) : bfr MT (d + 0) M_X1_landAll 0 [some (.ref 35), some (.int x1), some (.int x2), none] [] [] (mkC ra rb rc 1 rf rg σ) (none, mkC ra rb rc 1 rf rg q) := by
  unfold cGoing_landAll_d at h
  refine bfr_run 2 2 [some (.ref 35), some (.int x1), some (.int x2), some (.int ci_0)] [] [] (mkC ra rb rc 1 rf rg σ) (fun _ _ => rfl) ?_
  exact k_cGoing_landAll_d_b2 n d q _ _ _ _ _ _ _ _ _ _ h
set_option maxRecDepth 100000 in
theorem k_cGoing_crossOver_d_b67 (n d : Nat) (q : (Int32 × bS)) (x1 : Int32) (x2 : Int32) (x4 : Int32) (o3 : Option Value) (ra : Nat) (rb : Nat) (rc : Nat) (rf : Value) (rg : Value) (σ : bS) (h : cGoing_crossOver_d_b67 n x1 x2 x4 σ = some q) : bfr MT (d + 4) M_X1_crossOver 67 [some (.ref 35), some (.int x1), some (.int x2), o3, some (.int x4)] [] [] (mkC ra rb rc 1 rf rg σ) (some (.int q.1), mkC ra rb rc 1 rf rg q.2) := by
  unfold cGoing_crossOver_d_b67 at h
  refine bfr_in (i := x1) (m := 7) 5 (pc1 := 74) (L1 := [some (.ref 35), some (.int x1), some (.int x2), o3, some (.int x4)]) (J1 := []) (st1 := [(.int (sA σ 41 x1)), (.int x1), (.ref 41)]) (w1 := mkC ra rb rc 1 rf rg σ) (fun _ _ => rfl) h (fun h => ?_)
  refine bfr_in (i := x1) (m := 7) 3 (pc1 := 77) (L1 := [some (.ref 35), some (.int x1), some (.int x2), o3, some (.int x4)]) (J1 := []) (st1 := []) (w1 := ((mkC ra rb rc 1 rf rg σ).set 41 (.inl (0, 7, upd (σ.2.1 41) (x1).toNatClampNeg ((sA σ 41 x1) + ci_1))))) (fun _ _ => rfl) h (fun h => ?_)
  rw [mkC_A41]
  refine bfr_in (i := x1) (m := 7) 5 (pc1 := 84) (L1 := [some (.ref 35), some (.int x1), some (.int x2), o3, some (.int x4)]) (J1 := []) (st1 := []) (w1 := ((mkC ra rb rc 1 rf rg (uA σ 41 x1 ((sA σ 41 x1) + ci_1))).set 42 (.inl (0, 7, upd ((uA σ 41 x1 ((sA σ 41 x1) + ci_1)).2.1 42) (x1).toNatClampNeg ci_0)))) (fun _ _ => rfl) h (fun h => ?_)
  rw [mkC_A42]
  refine bfr_in (i := x2) (m := 4) 5 (pc1 := 91) (L1 := [some (.ref 35), some (.int x1), some (.int x2), o3, some (.int x4)]) (J1 := []) (st1 := [(.int (sA (uA (uA σ 41 x1 ((sA σ 41 x1) + ci_1)) 42 x1 ci_0) 37 x2)), (.int x2), (.ref 37)]) (w1 := mkC ra rb rc 1 rf rg (uA (uA σ 41 x1 ((sA σ 41 x1) + ci_1)) 42 x1 ci_0)) (fun _ _ => rfl) h (fun h => ?_)
  refine bfr_in (i := x2) (m := 4) 3 (pc1 := 94) (L1 := [some (.ref 35), some (.int x1), some (.int x2), o3, some (.int x4)]) (J1 := []) (st1 := []) (w1 := ((mkC ra rb rc 1 rf rg (uA (uA σ 41 x1 ((sA σ 41 x1) + ci_1)) 42 x1 ci_0)).set 37 (.inl (0, 4, upd ((uA (uA σ 41 x1 ((sA σ 41 x1) + ci_1)) 42 x1 ci_0).2.1 37) (x2).toNatClampNeg ((sA (uA (uA σ 41 x1 ((sA σ 41 x1) + ci_1)) 42 x1 ci_0) 37 x2) + ci_1))))) (fun _ _ => rfl) h (fun h => ?_)
  rw [mkC_A37]
  cases h
  exact bfr_ret 2 (fun _ _ => rfl)
set_option maxRecDepth 100000 in
theorem k_cGoing_crossOver_d_b56 (n d : Nat) (q : (Int32 × bS)) (x1 : Int32) (x2 : Int32) (x3 : Int32) (x4 : Int32) (ra : Nat) (rb : Nat) (rc : Nat) (rf : Value) (rg : Value) (σ : bS) (h : cGoing_crossOver_d_b56 n x1 x2 x3 x4 σ = some q) : bfr MT (d + 4) M_X1_crossOver 56 [some (.ref 35), some (.int x1), some (.int x2), some (.int x3), some (.int x4)] [] [] (mkC ra rb rc 1 rf rg σ) (some (.int q.1), mkC ra rb rc 1 rf rg q.2) := by
  unfold cGoing_crossOver_d_b56 at h
  refine bfr_br 2 (pc1 := 67) (L1 := [some (.ref 35), some (.int x1), some (.int x2), some (.int x3), some (.int x4)]) (J1 := []) (st1 := []) (w1 := mkC ra rb rc 1 rf rg σ) (pc2 := 60) (L2 := [some (.ref 35), some (.int x1), some (.int x2), some (.int x3), some (.int x4)]) (J2 := []) (st2 := []) (w2 := mkC ra rb rc 1 rf rg σ) (fun _ _ => rfl) h (fun h => ?_) (fun h => ?_)
  · exact k_cGoing_crossOver_d_b67 n d q _ _ _ _ _ _ _ _ _ _ h
  · refine bfr_in (i := x2) (m := 4) 5 (pc1 := 67) (L1 := [some (.ref 35), some (.int x1), some (.int x2), some (.int x3), some (.int x4)]) (J1 := []) (st1 := []) (w1 := ((mkC ra rb rc 1 rf rg σ).set 36 (.inl (0, 4, upd (σ.2.1 36) (x2).toNatClampNeg x3)))) (fun _ _ => rfl) h (fun h => ?_)
    rw [mkC_A36]
    exact k_cGoing_crossOver_d_b67 n d q _ _ _ _ _ _ _ _ _ _ h
set_option maxRecDepth 100000 in
theorem k_cGoing_crossOver_d_b29 (n d : Nat) (q : (Int32 × bS)) (x1 : Int32) (x2 : Int32) (x3 : Int32) (x4 : Int32) (s1 : Int32) (s2 : Int32) (ra : Nat) (rb : Nat) (rc : Nat) (rf : Value) (rg : Value) (σ : bS) (h : cGoing_crossOver_d_b29 n x1 x2 x3 x4 s1 s2 σ = some q) : bfr MT (d + 4) M_X1_crossOver 29 [some (.ref 35), some (.int x1), some (.int x2), some (.int x3), some (.int x4)] [] [(.int s2), (.int s1), (.ref 40)] (mkC ra rb rc 1 rf rg σ) (some (.int q.1), mkC ra rb rc 1 rf rg q.2) := by
  unfold cGoing_crossOver_d_b29 at h
  refine bfr_in (i := s1) (m := 7) 1 (pc1 := 30) (L1 := [some (.ref 35), some (.int x1), some (.int x2), some (.int x3), some (.int x4)]) (J1 := []) (st1 := []) (w1 := ((mkC ra rb rc 1 rf rg σ).set 40 (.inl (0, 7, upd (σ.2.1 40) (s1).toNatClampNeg s2)))) (fun _ _ => rfl) h (fun h => ?_)
  rw [mkC_A40]
  refine bfr_in (i := x1) (m := 7) 5 (pc1 := 37) (L1 := [some (.ref 35), some (.int x1), some (.int x2), some (.int x3), some (.int x4)]) (J1 := []) (st1 := []) (w1 := ((mkC ra rb rc 1 rf rg (uA σ 40 s1 s2)).set 38 (.inl (0, 7, upd ((uA σ 40 s1 s2).2.1 38) (x1).toNatClampNeg ci_m1)))) (fun _ _ => rfl) h (fun h => ?_)
  rw [mkC_A38]
  refine bfr_in (i := x1) (m := 7) 5 (pc1 := 44) (L1 := [some (.ref 35), some (.int x1), some (.int x2), some (.int x3), some (.int x4)]) (J1 := []) (st1 := []) (w1 := ((mkC ra rb rc 1 rf rg (uA (uA σ 40 s1 s2) 38 x1 ci_m1)).set 39 (.inl (0, 7, upd ((uA (uA σ 40 s1 s2) 38 x1 ci_m1).2.1 39) (x1).toNatClampNeg x2)))) (fun _ _ => rfl) h (fun h => ?_)
  rw [mkC_A39]
  refine bfr_br 2 (pc1 := 56) (L1 := [some (.ref 35), some (.int x1), some (.int x2), some (.int x3), some (.int x4)]) (J1 := []) (st1 := []) (w1 := mkC ra rb rc 1 rf rg (uA (uA (uA σ 40 s1 s2) 38 x1 ci_m1) 39 x1 x2)) (pc2 := 49) (L2 := [some (.ref 35), some (.int x1), some (.int x2), some (.int x3), some (.int x4)]) (J2 := []) (st2 := []) (w2 := mkC ra rb rc 1 rf rg (uA (uA (uA σ 40 s1 s2) 38 x1 ci_m1) 39 x1 x2)) (fun _ _ => rfl) h (fun h => ?_) (fun h => ?_)
  · exact k_cGoing_crossOver_d_b56 n d q _ _ _ _ _ _ _ _ _ _ h
  · refine bfr_call 4 (d1 := d + 3) (M1 := M_X1_landAll) (vs := [(.ref 35), (.int x2), (.int x4)]) (w1 := mkC ra rb rc 1 rf rg (uA (uA (uA σ 40 s1 s2) 38 x1 ci_m1) 39 x1 x2)) (pc2 := 56) (L2 := [some (.ref 35), some (.int x1), some (.int x2), some (.int x3), some (.int x4)]) (J2 := []) (rest := []) (fun _ => none) (fun a => mkC ra rb rc 1 rf rg a) (fun _ _ => rfl) h (fun a ha => k_cGoing_landAll_d n (d + 3) _ _ _ _ _ _ _ _ _ ha) (fun q1 _ h => ?_)
    exact k_cGoing_crossOver_d_b56 n d q _ _ _ _ _ _ _ _ _ _ h
set_option maxRecDepth 100000 in
theorem k_cGoing_crossOver_d (n d : Nat) (q : (Int32 × bS)) (x1 : Int32) (x2 : Int32) (ra : Nat) (rb : Nat) (rc : Nat) (rf : Value) (rg : Value) (σ : bS) (h : cGoing_crossOver_d n x1 x2 σ = some q) : bfr MT (d + 4) M_X1_crossOver 0 [some (.ref 35), some (.int x1), some (.int x2), none, none] [] [] (mkC ra rb rc 1 rf rg σ) (some (.int q.1), mkC ra rb rc 1 rf rg q.2) := by
  unfold cGoing_crossOver_d at h
  refine bfr_call 4 (d1 := d + 3) (M1 := M_X1_wishNow) (vs := [(.ref 35), (.int x1), (.int x2)]) (w1 := mkC ra rb rc 1 rf rg σ) (pc2 := 6) (L2 := [some (.ref 35), some (.int x1), some (.int x2), none, none]) (J2 := []) (rest := []) (fun a => some (.int a.1)) (fun a => mkC ra rb rc 1 rf rg a.2) (fun _ _ => rfl) h (fun a ha => k_cGoing_wishNow_d n (d + 0) _ _ _ _ _ _ _ _ _ ha) (fun q2 _ h => ?_)
  refine bfr_in (i := x2) (m := 4) 5 (pc1 := 13) (L1 := [some (.ref 35), some (.int x1), some (.int x2), some (.int q2.1), none]) (J1 := []) (st1 := [(.int (sA q2.2 36 x2))]) (w1 := mkC ra rb rc 1 rf rg q2.2) (fun _ _ => rfl) h (fun h => ?_)
  refine bfr_in (i := x1) (m := 7) 6 (pc1 := 22) (L1 := [some (.ref 35), some (.int x1), some (.int x2), some (.int q2.1), some (.int (sA q2.2 36 x2))]) (J1 := []) (st1 := [(.int (sA q2.2 40 x1)), (.int x1), (.ref 40)]) (w1 := mkC ra rb rc 1 rf rg q2.2) (fun _ _ => rfl) h (fun h => ?_)
  refine bfr_call 4 (d1 := d + 3) (M1 := M_X1_tollNow) (vs := [(.ref 35), (.int x1), (.int x2)]) (w1 := mkC ra rb rc 1 rf rg q2.2) (pc2 := 28) (L2 := [some (.ref 35), some (.int x1), some (.int x2), some (.int q2.1), some (.int (sA q2.2 36 x2))]) (J2 := []) (rest := [(.int (sA q2.2 40 x1)), (.int x1), (.ref 40)]) (fun a => some (.int a.1)) (fun a => mkC ra rb rc 1 rf rg a.2) (fun _ _ => rfl) h (fun a ha => k_cGoing_tollNow_d n (d + 1) _ _ _ _ _ _ _ _ _ ha) (fun q3 _ h => ?_)
  refine bfr_run 1 29 [some (.ref 35), some (.int x1), some (.int x2), some (.int q2.1), some (.int (sA q2.2 36 x2))] [] [(.int ((sA q2.2 40 x1) - q3.1)), (.int x1), (.ref 40)] (mkC ra rb rc 1 rf rg q3.2) (fun _ _ => rfl) ?_
  exact k_cGoing_crossOver_d_b29 n d q _ _ _ _ _ _ _ _ _ _ _ _ h
set_option maxRecDepth 100000 in
theorem k_cGoing_couldCross_d_b38 (n d : Nat) (q : (Int32 × bS)) (s0 : Int32) (o0 : Option Value) (o1 : Option Value) (o2 : Option Value) (ra : Nat) (rb : Nat) (rc : Nat) (rf : Value) (rg : Value) (σ : bS) (h : cGoing_couldCross_d_b38 n s0 σ = some q) : bfr MT (d + 3) M_X1_couldCross 38 [o0, o1, o2] [] [(.int s0)] (mkC ra rb rc 1 rf rg σ) (some (.int q.1), mkC ra rb rc 1 rf rg q.2) := by
  unfold cGoing_couldCross_d_b38 at h
  exact bfr_bz (mk := mkC ra rb rc 1 rf rg) 1 (fun _ _ => rfl) h
set_option maxRecDepth 100000 in
theorem k_cGoing_couldCross_d_b37 (n d : Nat) (q : (Int32 × bS)) (o0 : Option Value) (o1 : Option Value) (o2 : Option Value) (ra : Nat) (rb : Nat) (rc : Nat) (rf : Value) (rg : Value) (σ : bS) (h : cGoing_couldCross_d_b37 n σ = some q) : bfr MT (d + 3) M_X1_couldCross 37 [o0, o1, o2] [] [] (mkC ra rb rc 1 rf rg σ) (some (.int q.1), mkC ra rb rc 1 rf rg q.2) := by
  unfold cGoing_couldCross_d_b37 at h
  refine bfr_run 1 38 [o0, o1, o2] [] [(.int ci_0)] (mkC ra rb rc 1 rf rg σ) (fun _ _ => rfl) ?_
  exact k_cGoing_couldCross_d_b38 n d q _ _ _ _ _ _ _ _ _ _ h
set_option maxRecDepth 100000 in
theorem k_cGoing_couldCross_d (n d : Nat) (q : (Int32 × bS)) (x1 : Int32) (x2 : Int32) (ra : Nat) (rb : Nat) (rc : Nat) (rf : Value) (rg : Value) (σ : bS) (h : cGoing_couldCross_d n x1 x2 σ = some q) : bfr MT (d + 3) M_X1_couldCross 0 [some (.ref 35), some (.int x1), some (.int x2)] [] [] (mkC ra rb rc 1 rf rg σ) (some (.int q.1), mkC ra rb rc 1 rf rg q.2) := by
  unfold cGoing_couldCross_d at h
  refine bfr_in (i := x1) (m := 7) 4 (pc1 := 6) (L1 := [some (.ref 35), some (.int x1), some (.int x2)]) (J1 := []) (st1 := [(.int (sA σ 38 x1))]) (w1 := mkC ra rb rc 1 rf rg σ) (fun _ _ => rfl) h (fun h => ?_)
  refine bfr_in (i := x2) (m := 4) 5 (pc1 := 15) (L1 := [some (.ref 35), some (.int x1), some (.int x2)]) (J1 := []) (st1 := [(.int (sA σ 3 x2)), (.int (sA σ 38 x1))]) (w1 := mkC ra rb rc 1 rf rg σ) (fun _ _ => rfl) h (fun h => ?_)
  refine bfr_br 1 (pc1 := 18) (L1 := [some (.ref 35), some (.int x1), some (.int x2)]) (J1 := []) (st1 := []) (w1 := mkC ra rb rc 1 rf rg σ) (pc2 := 37) (L2 := [some (.ref 35), some (.int x1), some (.int x2)]) (J2 := []) (st2 := []) (w2 := mkC ra rb rc 1 rf rg σ) (fun _ _ => rfl) h (fun h => ?_) (fun h => ?_)
  · refine bfr_call 4 (d1 := d + 2) (M1 := M_X1_tollNow) (vs := [(.ref 35), (.int x1), (.int x2)]) (w1 := mkC ra rb rc 1 rf rg σ) (pc2 := 24) (L2 := [some (.ref 35), some (.int x1), some (.int x2)]) (J2 := []) (rest := []) (fun a => some (.int a.1)) (fun a => mkC ra rb rc 1 rf rg a.2) (fun _ _ => rfl) h (fun a ha => k_cGoing_tollNow_d n (d + 0) _ _ _ _ _ _ _ _ _ ha) (fun q1 _ h => ?_)
    refine bfr_in (i := x1) (m := 7) 4 (pc1 := 30) (L1 := [some (.ref 35), some (.int x1), some (.int x2)]) (J1 := []) (st1 := [(.int (sA q1.2 40 x1)), (.int q1.1)]) (w1 := mkC ra rb rc 1 rf rg q1.2) (fun _ _ => rfl) h (fun h => ?_)
    refine bfr_br 1 (pc1 := 37) (L1 := [some (.ref 35), some (.int x1), some (.int x2)]) (J1 := []) (st1 := []) (w1 := mkC ra rb rc 1 rf rg q1.2) (pc2 := 33) (L2 := [some (.ref 35), some (.int x1), some (.int x2)]) (J2 := []) (st2 := []) (w2 := mkC ra rb rc 1 rf rg q1.2) (fun _ _ => rfl) h (fun h => ?_) (fun h => ?_)
    · exact k_cGoing_couldCross_d_b37 n d q _ _ _ _ _ _ _ _ _ h
    · refine bfr_run 2 38 [some (.ref 35), some (.int x1), some (.int x2)] [] [(.int ci_1)] (mkC ra rb rc 1 rf rg q1.2) (fun _ _ => rfl) ?_
      exact k_cGoing_couldCross_d_b38 n d q _ _ _ _ _ _ _ _ _ _ h
  · exact k_cGoing_couldCross_d_b37 n d q _ _ _ _ _ _ _ _ _ h
set_option maxRecDepth 100000 in
theorem k_cTop_pair_b133 (n d : Nat) (q : (Int32 × bS)) (s0 : Int32) (o0 : Option Value) (o1 : Option Value) (o2 : Option Value) (o3 : Option Value) (o4 : Option Value) (rb : Nat) (rf : Value) (rg : Value) (σ : bS) (h : cTop_pair_b133 n s0 σ = some q) : bfx MT (d + 5) M_X11_pair 133 [o0, o1, o2, o3, o4] [] [(.int s0)] (mkC 1 rb 1 1 rf rg σ) (fun ze => (some (.int q.1), mkC 1 rb 1 ze rf rg q.2)) := by
  unfold cTop_pair_b133 at h
  cases h
  exact ⟨1, bfr_ret 1 (fun _ _ => rfl)⟩
set_option maxRecDepth 100000 in
theorem k_cTop_pair_b29 (n d : Nat) (q : (Int32 × bS)) (o0 : Option Value) (o1 : Option Value) (o2 : Option Value) (o3 : Option Value) (o4 : Option Value) (rb : Nat) (re : Nat) (rf : Value) (rg : Value) (σ : bS) (h : cTop_pair_b29 n σ = some q) : bfx MT (d + 5) M_X11_pair 29 [o0, o1, o2, o3, o4] [] [] (mkC 1 rb 1 re rf rg σ) (fun ze => (some (.int q.1), mkC 1 rb 1 ze rf rg q.2)) := by
  unfold cTop_pair_b29 at h
  cases h
  exact ⟨re, bfr_ret 2 (fun _ _ => rfl)⟩
set_option maxRecDepth 100000 in
theorem k_cTop_pair (n d : Nat) (q : (Int32 × bS)) (x1 : Int32) (x2 : Int32) (x3 : Int32) (rb : Nat) (re : Nat) (rf : Value) (rg : Value) (σ : bS) (h : cTop_pair n x1 x2 x3 σ = some q) : bfx MT (d + 5) M_X11_pair 0 [some (.ref 0), some (.int x1), some (.int x2), some (.int x3), none] [] [] (mkC 1 rb 1 re rf rg σ) (fun ze => (some (.int q.1), mkC 1 rb 1 ze rf rg q.2)) := by
  unfold cTop_pair at h
  refine bfx_call 3 (d1 := d + 4) (M1 := M_X11_isMan) (vs := [(.ref 0), (.int x1)]) (w1 := mkC 1 rb 1 re rf rg σ) (pc2 := 5) (L2 := [some (.ref 0), some (.int x1), some (.int x2), some (.int x3), none]) (J2 := []) (rest := []) (fun a => some (.int a.1)) (fun a => mkC 1 rb 1 re rf rg a.2) (fun _ _ => rfl) h (fun a ha => k_cTop_isMan n (d + 4) _ _ _ _ _ _ _ _ ha) (fun q1 _ h => ?_)
  refine bfx_br 1 (pc1 := 29) (L1 := [some (.ref 0), some (.int x1), some (.int x2), some (.int x3), none]) (J1 := []) (st1 := []) (w1 := mkC 1 rb 1 re rf rg q1.2) (pc2 := 8) (L2 := [some (.ref 0), some (.int x1), some (.int x2), some (.int x3), none]) (J2 := []) (st2 := []) (w2 := mkC 1 rb 1 re rf rg q1.2) (fun _ _ => rfl) h (fun h => ?_) (fun h => ?_)
  · exact k_cTop_pair_b29 n d q _ _ _ _ _ _ _ _ _ _ h
  · refine bfx_call 3 (d1 := d + 4) (M1 := M_X11_isMan) (vs := [(.ref 0), (.int x2)]) (w1 := mkC 1 rb 1 re rf rg q1.2) (pc2 := 13) (L2 := [some (.ref 0), some (.int x1), some (.int x2), some (.int x3), none]) (J2 := []) (rest := []) (fun a => some (.int a.1)) (fun a => mkC 1 rb 1 re rf rg a.2) (fun _ _ => rfl) h (fun a ha => k_cTop_isMan n (d + 4) _ _ _ _ _ _ _ _ ha) (fun q2 _ h => ?_)
    refine bfx_br 1 (pc1 := 29) (L1 := [some (.ref 0), some (.int x1), some (.int x2), some (.int x3), none]) (J1 := []) (st1 := []) (w1 := mkC 1 rb 1 re rf rg q2.2) (pc2 := 16) (L2 := [some (.ref 0), some (.int x1), some (.int x2), some (.int x3), none]) (J2 := []) (st2 := []) (w2 := mkC 1 rb 1 re rf rg q2.2) (fun _ _ => rfl) h (fun h => ?_) (fun h => ?_)
    · exact k_cTop_pair_b29 n d q _ _ _ _ _ _ _ _ _ _ h
    · refine bfx_br 3 (pc1 := 29) (L1 := [some (.ref 0), some (.int x1), some (.int x2), some (.int x3), none]) (J1 := []) (st1 := []) (w1 := mkC 1 rb 1 re rf rg q2.2) (pc2 := 21) (L2 := [some (.ref 0), some (.int x1), some (.int x2), some (.int x3), none]) (J2 := []) (st2 := []) (w2 := mkC 1 rb 1 re rf rg q2.2) (fun _ _ => rfl) h (fun h => ?_) (fun h => ?_)
      · exact k_cTop_pair_b29 n d q _ _ _ _ _ _ _ _ _ _ h
      · refine bfx_call 3 (d1 := d + 4) (M1 := M_X11_isBridge) (vs := [(.ref 0), (.int x3)]) (w1 := mkC 1 rb 1 re rf rg q2.2) (pc2 := 26) (L2 := [some (.ref 0), some (.int x1), some (.int x2), some (.int x3), none]) (J2 := []) (rest := []) (fun a => some (.int a.1)) (fun a => mkC 1 rb 1 re rf rg a.2) (fun _ _ => rfl) h (fun a ha => k_cTop_isBridge n (d + 4) _ _ _ _ _ _ _ _ ha) (fun q3 _ h => ?_)
        refine bfx_br 1 (pc1 := 29) (L1 := [some (.ref 0), some (.int x1), some (.int x2), some (.int x3), none]) (J1 := []) (st1 := []) (w1 := mkC 1 rb 1 re rf rg q3.2) (pc2 := 31) (L2 := [some (.ref 0), some (.int x1), some (.int x2), some (.int x3), none]) (J2 := []) (st2 := []) (w2 := mkC 1 rb 1 re rf rg q3.2) (fun _ _ => rfl) h (fun h => ?_) (fun h => ?_)
        · exact k_cTop_pair_b29 n d q _ _ _ _ _ _ _ _ _ _ h
        · refine bfx_call 5 (d1 := d + 4) (M1 := M_X1_couldCross) (vs := [(.ref 27), (.int x1), (.int x3)]) (w1 := mkC 1 rb 1 re rf rg q3.2) (pc2 := 40) (L2 := [some (.ref 0), some (.int x1), some (.int x2), some (.int x3), none]) (J2 := []) (rest := []) (fun a => some (.int a.1)) (fun a => mkC 1 rb 1 re rf rg a.2) (fun _ _ => rfl) h (fun a ha => k_cGoing_couldCross n (d + 1) _ _ _ _ _ _ _ _ _ ha) (fun q4 _ h => ?_)
          refine bfx_br 1 (pc1 := 43) (L1 := [some (.ref 0), some (.int x1), some (.int x2), some (.int x3), none]) (J1 := []) (st1 := []) (w1 := mkC 1 rb 1 re rf rg q4.2) (pc2 := 46) (L2 := [some (.ref 0), some (.int x1), some (.int x2), some (.int x3), none]) (J2 := []) (st2 := []) (w2 := mkC 1 rb 1 re rf rg q4.2) (fun _ _ => rfl) h (fun h => ?_) (fun h => ?_)
          · cases h
            exact ⟨re, bfr_ret 2 (fun _ _ => rfl)⟩
          · refine bfx_call 5 (d1 := d + 4) (M1 := M_X1_copyFrom) (vs := [(.ref 35), (.ref 27)]) (w1 := mkC 1 rb 1 re rf rg q4.2) (pc2 := 57) (L2 := [some (.ref 0), some (.int x1), some (.int x2), some (.int x3), none]) (J2 := []) (rest := []) (fun _ => none) (fun a => mkC 1 rb 1 1 rf rg a) (fun _ _ => rfl) h (fun a ha => k_cGoing_copyFrom_d_27 n (d + 3) _ _ _ _ _ _ _ _ ha) (fun q5 _ h => ?_)
            refine bfx_call 5 (d1 := d + 4) (M1 := M_X1_crossOver) (vs := [(.ref 35), (.int x1), (.int x3)]) (w1 := mkC 1 rb 1 1 rf rg q5) (pc2 := 66) (L2 := [some (.ref 0), some (.int x1), some (.int x2), some (.int x3), none]) (J2 := []) (rest := []) (fun a => some (.int a.1)) (fun a => mkC 1 rb 1 1 rf rg a.2) (fun _ _ => rfl) h (fun a ha => k_cGoing_crossOver_d n (d + 0) _ _ _ _ _ _ _ _ _ ha) (fun q6 _ h => ?_)
            refine bfx_call 6 (d1 := d + 4) (M1 := M_X1_couldCross) (vs := [(.ref 35), (.int x2), (.int x3)]) (w1 := mkC 1 rb 1 1 rf rg q6.2) (pc2 := 76) (L2 := [some (.ref 0), some (.int x1), some (.int x2), some (.int x3), none]) (J2 := []) (rest := []) (fun a => some (.int a.1)) (fun a => mkC 1 rb 1 1 rf rg a.2) (fun _ _ => rfl) h (fun a ha => k_cGoing_couldCross_d n (d + 1) _ _ _ _ _ _ _ _ _ ha) (fun q7 _ h => ?_)
            refine bfx_br 1 (pc1 := 79) (L1 := [some (.ref 0), some (.int x1), some (.int x2), some (.int x3), none]) (J1 := []) (st1 := []) (w1 := mkC 1 rb 1 1 rf rg q7.2) (pc2 := 82) (L2 := [some (.ref 0), some (.int x1), some (.int x2), some (.int x3), none]) (J2 := []) (st2 := []) (w2 := mkC 1 rb 1 1 rf rg q7.2) (fun _ _ => rfl) h (fun h => ?_) (fun h => ?_)
            · cases h
              exact ⟨1, bfr_ret 2 (fun _ _ => rfl)⟩
            · refine bfx_call 5 (d1 := d + 4) (M1 := M_X7_keep) (vs := [(.ref 54), (.ref 27)]) (w1 := mkC 1 rb 1 1 rf rg q7.2) (pc2 := 93) (L2 := [some (.ref 0), some (.int x1), some (.int x2), some (.int x3), none]) (J2 := []) (rest := []) (fun _ => none) (fun a => mkC 1 rb 1 1 rf rg a) (fun _ _ => rfl) h (fun a ha => k_cShelf_keep_27 n (d + 2) _ _ _ _ _ _ _ _ ha) (fun q8 _ h => ?_)
              refine bfx_call 5 (d1 := d + 4) (M1 := M_X1_crossOver) (vs := [(.ref 27), (.int x1), (.int x3)]) (w1 := mkC 1 rb 1 1 rf rg q8) (pc2 := 102) (L2 := [some (.ref 0), some (.int x1), some (.int x2), some (.int x3), none]) (J2 := []) (rest := []) (fun a => some (.int a.1)) (fun a => mkC 1 rb 1 1 rf rg a.2) (fun _ _ => rfl) h (fun a ha => k_cGoing_crossOver n (d + 0) _ _ _ _ _ _ _ _ _ ha) (fun q9 _ h => ?_)
              refine bfx_call 6 (d1 := d + 4) (M1 := M_X1_crossOver) (vs := [(.ref 27), (.int x2), (.int x3)]) (w1 := mkC 1 rb 1 1 rf rg q9.2) (pc2 := 112) (L2 := [some (.ref 0), some (.int x1), some (.int x2), some (.int x3), none]) (J2 := []) (rest := []) (fun a => some (.int a.1)) (fun a => mkC 1 rb 1 1 rf rg a.2) (fun _ _ => rfl) h (fun a ha => k_cGoing_crossOver n (d + 0) _ _ _ _ _ _ _ _ _ ha) (fun q10 _ h => ?_)
              refine bfx_call 4 (d1 := d + 4) (M1 := M_X1_hourPasses) (vs := [(.ref 27)]) (w1 := mkC 1 rb 1 1 rf rg q10.2) (pc2 := 121) (L2 := [some (.ref 0), some (.int x1), some (.int x2), some (.int x3), some (.int q10.1)]) (J2 := []) (rest := []) (fun _ => none) (fun a => mkC 1 rb 1 1 rf rg a) (fun _ _ => rfl) h (fun a ha => k_cGoing_hourPasses n (d + 2) _ _ _ _ _ _ _ ha) (fun q11 _ h => ?_)
              refine bfx_br 2 (pc1 := 131) (L1 := [some (.ref 0), some (.int x1), some (.int x2), some (.int x3), some (.int q10.1)]) (J1 := []) (st1 := []) (w1 := mkC 1 rb 1 1 rf rg q11) (pc2 := 126) (L2 := [some (.ref 0), some (.int x1), some (.int x2), some (.int x3), some (.int q10.1)]) (J2 := []) (st2 := []) (w2 := mkC 1 rb 1 1 rf rg q11) (fun _ _ => rfl) h (fun h => ?_) (fun h => ?_)
              · refine bfx_run 1 133 [some (.ref 0), some (.int x1), some (.int x2), some (.int x3), some (.int q10.1)] [] [(.int q10.1)] (mkC 1 rb 1 1 rf rg q11) (fun _ _ => rfl) ?_
                exact k_cTop_pair_b133 n d q _ _ _ _ _ _ _ _ _ _ h
              · refine bfx_run 2 133 [some (.ref 0), some (.int x1), some (.int x2), some (.int x3), some (.int q10.1)] [] [(.int cb_m3)] (mkC 1 rb 1 1 rf rg q11) (fun _ _ => rfl) ?_
                exact k_cTop_pair_b133 n d q _ _ _ _ _ _ _ _ _ _ h
set_option maxRecDepth 100000 in
theorem k_cTop_hire_b16 (n d : Nat) (q : (Int32 × bS)) (o0 : Option Value) (o1 : Option Value) (o2 : Option Value) (rb : Nat) (re : Nat) (rf : Value) (rg : Value) (σ : bS) (h : cTop_hire_b16 n σ = some q) : bfr MT (d + 3) M_X11_hire 16 [o0, o1, o2] [] [] (mkC 1 rb 1 re rf rg σ) (some (.int q.1), mkC 1 rb 1 re rf rg q.2) := by
  unfold cTop_hire_b16 at h
  exact bfr_bz (mk := mkC 1 rb 1 re rf rg) 2 (fun _ _ => rfl) h
set_option maxRecDepth 100000 in
theorem k_cTop_hire (n d : Nat) (q : (Int32 × bS)) (x1 : Int32) (x2 : Int32) (rb : Nat) (re : Nat) (rf : Value) (rg : Value) (σ : bS) (h : cTop_hire n x1 x2 σ = some q) : bfr MT (d + 3) M_X11_hire 0 [some (.ref 0), some (.int x1), some (.int x2)] [] [] (mkC 1 rb 1 re rf rg σ) (some (.int q.1), mkC 1 rb 1 re rf rg q.2) := by
  unfold cTop_hire at h
  refine bfr_call 3 (d1 := d + 2) (M1 := M_X11_isBridge) (vs := [(.ref 0), (.int x1)]) (w1 := mkC 1 rb 1 re rf rg σ) (pc2 := 5) (L2 := [some (.ref 0), some (.int x1), some (.int x2)]) (J2 := []) (rest := []) (fun a => some (.int a.1)) (fun a => mkC 1 rb 1 re rf rg a.2) (fun _ _ => rfl) h (fun a ha => k_cTop_isBridge n (d + 2) _ _ _ _ _ _ _ _ ha) (fun q1 _ h => ?_)
  refine bfr_br 1 (pc1 := 16) (L1 := [some (.ref 0), some (.int x1), some (.int x2)]) (J1 := []) (st1 := []) (w1 := mkC 1 rb 1 re rf rg q1.2) (pc2 := 8) (L2 := [some (.ref 0), some (.int x1), some (.int x2)]) (J2 := []) (st2 := []) (w2 := mkC 1 rb 1 re rf rg q1.2) (fun _ _ => rfl) h (fun h => ?_) (fun h => ?_)
  · exact k_cTop_hire_b16 n d q _ _ _ _ _ _ _ _ h
  · refine bfr_call 3 (d1 := d + 2) (M1 := M_X11_isBank) (vs := [(.ref 0), (.int x2)]) (w1 := mkC 1 rb 1 re rf rg q1.2) (pc2 := 13) (L2 := [some (.ref 0), some (.int x1), some (.int x2)]) (J2 := []) (rest := []) (fun a => some (.int a.1)) (fun a => mkC 1 rb 1 re rf rg a.2) (fun _ _ => rfl) h (fun a ha => k_cTop_isBank n (d + 2) _ _ _ _ _ _ _ _ ha) (fun q2 _ h => ?_)
    refine bfr_br 1 (pc1 := 16) (L1 := [some (.ref 0), some (.int x1), some (.int x2)]) (J1 := []) (st1 := []) (w1 := mkC 1 rb 1 re rf rg q2.2) (pc2 := 18) (L2 := [some (.ref 0), some (.int x1), some (.int x2)]) (J2 := []) (st2 := []) (w2 := mkC 1 rb 1 re rf rg q2.2) (fun _ _ => rfl) h (fun h => ?_) (fun h => ?_)
    · exact k_cTop_hire_b16 n d q _ _ _ _ _ _ _ _ h
    · refine bfr_call 5 (d1 := d + 2) (M1 := M_X7_keep) (vs := [(.ref 54), (.ref 27)]) (w1 := mkC 1 rb 1 re rf rg q2.2) (pc2 := 29) (L2 := [some (.ref 0), some (.int x1), some (.int x2)]) (J2 := []) (rest := []) (fun _ => none) (fun a => mkC 1 rb 1 re rf rg a) (fun _ _ => rfl) h (fun a ha => k_cShelf_keep_27 n (d + 0) _ _ _ _ _ _ _ _ ha) (fun q3 _ h => ?_)
      refine bfr_in (i := x1) (m := 4) 6 (pc1 := 39) (L1 := [some (.ref 0), some (.int x1), some (.int x2)]) (J1 := []) (st1 := []) (w1 := ((mkC 1 rb 1 re rf rg q3).set 28 (.inl (0, 4, upd (q3.2.1 28) (x1).toNatClampNeg x2)))) (fun _ _ => rfl) h (fun h => ?_)
      rw [mkC_A28]
      refine bfr_run 6 51 [some (.ref 0), some (.int x1), some (.int x2)] [] [(.ref 1), (.int (sI (uA q3 28 x1 x2) 27 3)), (.ref 27)] (mkC 1 rb 1 re rf rg (uA q3 28 x1 x2)) (fun _ _ => rfl) ?_
      refine bfr_run 3 58 [some (.ref 0), some (.int x1), some (.int x2)] [] [] ((mkC 1 rb 1 re rf rg (uA q3 28 x1 x2)).set 27 (.inr (.inr (1, (mkC_27  1 rb 1 re rf rg (uA q3 28 x1 x2)).set 3 (.int ((sI (uA q3 28 x1 x2) 27 3) + (sI (uA q3 28 x1 x2) 1 17))))))) (fun _ _ => rfl) ?_
      rw [mkC_I27_3]
      refine bfr_run 6 68 [some (.ref 0), some (.int x1), some (.int x2)] [] [(.int ((sI (uI (uA q3 28 x1 x2) 27 3 ((sI (uA q3 28 x1 x2) 27 3) + (sI (uA q3 28 x1 x2) 1 17))) 27 4) + ci_1)), (.ref 27)] (mkC 1 rb 1 re rf rg (uI (uA q3 28 x1 x2) 27 3 ((sI (uA q3 28 x1 x2) 27 3) + (sI (uA q3 28 x1 x2) 1 17)))) (fun _ _ => rfl) ?_
      refine bfr_run 1 71 [some (.ref 0), some (.int x1), some (.int x2)] [] [] ((mkC 1 rb 1 re rf rg (uI (uA q3 28 x1 x2) 27 3 ((sI (uA q3 28 x1 x2) 27 3) + (sI (uA q3 28 x1 x2) 1 17)))).set 27 (.inr (.inr (1, (mkC_27  1 rb 1 re rf rg (uI (uA q3 28 x1 x2) 27 3 ((sI (uA q3 28 x1 x2) 27 3) + (sI (uA q3 28 x1 x2) 1 17)))).set 4 (.int ((sI (uI (uA q3 28 x1 x2) 27 3 ((sI (uA q3 28 x1 x2) 27 3) + (sI (uA q3 28 x1 x2) 1 17))) 27 4) + ci_1)))))) (fun _ _ => rfl) ?_
      rw [mkC_I27_4]
      refine bfr_call 3 (d1 := d + 2) (M1 := M_X1_hourPasses) (vs := [(.ref 27)]) (w1 := mkC 1 rb 1 re rf rg (uI (uI (uA q3 28 x1 x2) 27 3 ((sI (uA q3 28 x1 x2) 27 3) + (sI (uA q3 28 x1 x2) 1 17))) 27 4 ((sI (uI (uA q3 28 x1 x2) 27 3 ((sI (uA q3 28 x1 x2) 27 3) + (sI (uA q3 28 x1 x2) 1 17))) 27 4) + ci_1))) (pc2 := 78) (L2 := [some (.ref 0), some (.int x1), some (.int x2)]) (J2 := []) (rest := []) (fun _ => none) (fun a => mkC 1 rb 1 re rf rg a) (fun _ _ => rfl) h (fun a ha => k_cGoing_hourPasses n (d + 0) _ _ _ _ _ _ _ ha) (fun q4 _ h => ?_)
      exact bfr_bz (mk := mkC 1 rb 1 re rf rg) 2 (fun _ _ => rfl) h
set_option maxRecDepth 100000 in
theorem k_cTold_pathHours (n d : Nat) (q : (Int32 × bS)) (x1 : Int32) (x2 : Int32) (ra : Nat) (rb : Nat) (rc : Nat) (re : Nat) (rf : Value) (rg : Value) (σ : bS) (h : cTold_pathHours n x1 x2 σ = some q) : bfr MT (d + 0) M_X9_pathHours 0 [some (.ref 1), some (.int x1), some (.int x2)] [] [] (mkC ra rb rc re rf rg σ) (some (.int q.1), mkC ra rb rc re rf rg q.2) := by
  unfold cTold_pathHours at h
  refine bfr_run 6 9 [some (.ref 1), some (.int x1), some (.int x2)] [] [(.int x2), (.int (x1 * cb_6)), (.ref 2)] (mkC ra rb rc re rf rg σ) (fun _ _ => rfl) ?_
  refine bfr_in (i := ((x1 * cb_6) + x2)) (m := 36) 2 (pc1 := 11) (L1 := [some (.ref 1), some (.int x1), some (.int x2)]) (J1 := []) (st1 := [(.int (sA σ 2 ((x1 * cb_6) + x2)))]) (w1 := mkC ra rb rc re rf rg σ) (fun _ _ => rfl) h (fun h => ?_)
  cases h
  exact bfr_ret 1 (fun _ _ => rfl)
set_option maxRecDepth 100000 in
theorem k_cTop_walk_b93 (n d : Nat) (q : (Int32 × bS)) : ∀ (k : Nat) (x3 : Int32) (x4 : Int32) (o1 : Option Value) (o2 : Option Value) (rb : Nat) (re : Nat) (rf : Value) (rg : Value) (σ : bS), cTop_walk_b93 n k x3 x4 σ = some q → bfr MT (d + 3) M_X11_walk 93 [some (.ref 0), o1, o2, some (.int x3), some (.int x4)] [] [] (mkC 1 rb 1 re rf rg σ) (some (.int q.1), mkC 1 rb 1 re rf rg q.2) := by
  intro k
  induction k with
  | zero => intro x3 x4 o1 o2 rb re rf rg σ h; exact bno h
  | succ k ih =>
    intro x3 x4 o1 o2 rb re rf rg σ h
    unfold cTop_walk_b93 at h
    refine bfr_br 3 (pc1 := 112) (L1 := [some (.ref 0), o1, o2, some (.int x3), some (.int x4)]) (J1 := []) (st1 := []) (w1 := mkC 1 rb 1 re rf rg σ) (pc2 := 99) (L2 := [some (.ref 0), o1, o2, some (.int x3), some (.int x4)]) (J2 := []) (st2 := []) (w2 := mkC 1 rb 1 re rf rg σ) (fun _ _ => rfl) h (fun h => ?_) (fun h => ?_)
    · cases h
      exact bfr_ret 2 (fun _ _ => rfl)
    · refine bfr_call 3 (d1 := d + 2) (M1 := M_X1_hourPasses) (vs := [(.ref 27)]) (w1 := mkC 1 rb 1 re rf rg σ) (pc2 := 106) (L2 := [some (.ref 0), o1, o2, some (.int x3), some (.int x4)]) (J2 := []) (rest := []) (fun _ => none) (fun a => mkC 1 rb 1 re rf rg a) (fun _ _ => rfl) h (fun a ha => k_cGoing_hourPasses n (d + 0) _ _ _ _ _ _ _ ha) (fun q1 _ h => ?_)
      refine bfr_run 1 109 [some (.ref 0), o1, o2, some (.int x3), some (.int (x4 + ci_1))] [] [] (mkC 1 rb 1 re rf rg q1) (fun _ _ => rfl) ?_
      refine bfr_run 1 93 [some (.ref 0), o1, o2, some (.int x3), some (.int (x4 + ci_1))] [] [] (mkC 1 rb 1 re rf rg q1) (fun _ _ => rfl) ?_
      exact ih _ _ _ _ _ _ _ _ _ h
set_option maxRecDepth 100000 in
theorem k_cTop_walk_b51 (n d : Nat) (q : (Int32 × bS)) (x1 : Int32) (x2 : Int32) (s0 : Int32) (o3 : Option Value) (o4 : Option Value) (rb : Nat) (re : Nat) (rf : Value) (rg : Value) (σ : bS) (h : cTop_walk_b51 n x1 x2 s0 σ = some q) : bfr MT (d + 3) M_X11_walk 51 [some (.ref 0), some (.int x1), some (.int x2), o3, o4] [] [(.int s0)] (mkC 1 rb 1 re rf rg σ) (some (.int q.1), mkC 1 rb 1 re rf rg q.2) := by
  unfold cTop_walk_b51 at h
  refine bfr_br 3 (pc1 := 56) (L1 := [some (.ref 0), some (.int x1), some (.int x2), some (.int s0), o4]) (J1 := []) (st1 := []) (w1 := mkC 1 rb 1 re rf rg σ) (pc2 := 59) (L2 := [some (.ref 0), some (.int x1), some (.int x2), some (.int s0), o4]) (J2 := []) (st2 := []) (w2 := mkC 1 rb 1 re rf rg σ) (fun _ _ => rfl) h (fun h => ?_) (fun h => ?_)
  · cases h
    exact bfr_ret 2 (fun _ _ => rfl)
  · refine bfr_call 5 (d1 := d + 2) (M1 := M_X7_keep) (vs := [(.ref 54), (.ref 27)]) (w1 := mkC 1 rb 1 re rf rg σ) (pc2 := 70) (L2 := [some (.ref 0), some (.int x1), some (.int x2), some (.int s0), o4]) (J2 := []) (rest := []) (fun _ => none) (fun a => mkC 1 rb 1 re rf rg a) (fun _ _ => rfl) h (fun a ha => k_cShelf_keep_27 n (d + 0) _ _ _ _ _ _ _ _ ha) (fun q2 _ h => ?_)
    refine bfr_in (i := x1) (m := 7) 6 (pc1 := 80) (L1 := [some (.ref 0), some (.int x1), some (.int x2), some (.int s0), o4]) (J1 := []) (st1 := []) (w1 := ((mkC 1 rb 1 re rf rg q2).set 30 (.inl (0, 7, upd (q2.2.1 30) (x1).toNatClampNeg x2)))) (fun _ _ => rfl) h (fun h => ?_)
    rw [mkC_A30]
    refine bfr_in (i := x1) (m := 7) 6 (pc1 := 90) (L1 := [some (.ref 0), some (.int x1), some (.int x2), some (.int s0), o4]) (J1 := []) (st1 := []) (w1 := ((mkC 1 rb 1 re rf rg (uA q2 30 x1 x2)).set 34 (.inl (0, 7, upd ((uA q2 30 x1 x2).2.1 34) (x1).toNatClampNeg ci_0)))) (fun _ _ => rfl) h (fun h => ?_)
    rw [mkC_A34]
    refine bfr_run 2 93 [some (.ref 0), some (.int x1), some (.int x2), some (.int s0), some (.int ci_0)] [] [] (mkC 1 rb 1 re rf rg (uA (uA q2 30 x1 x2) 34 x1 ci_0)) (fun _ _ => rfl) ?_
    exact k_cTop_walk_b93 n d q _ _ _ _ _ _ _ _ _ _ h
set_option maxRecDepth 100000 in
theorem k_cTop_walk_b16 (n d : Nat) (q : (Int32 × bS)) (o0 : Option Value) (o1 : Option Value) (o2 : Option Value) (o3 : Option Value) (o4 : Option Value) (rb : Nat) (re : Nat) (rf : Value) (rg : Value) (σ : bS) (h : cTop_walk_b16 n σ = some q) : bfr MT (d + 3) M_X11_walk 16 [o0, o1, o2, o3, o4] [] [] (mkC 1 rb 1 re rf rg σ) (some (.int q.1), mkC 1 rb 1 re rf rg q.2) := by
  unfold cTop_walk_b16 at h
  cases h
  exact bfr_ret 2 (fun _ _ => rfl)
set_option maxRecDepth 100000 in
theorem k_cTop_walk (n d : Nat) (q : (Int32 × bS)) (x1 : Int32) (x2 : Int32) (rb : Nat) (re : Nat) (rf : Value) (rg : Value) (σ : bS) (h : cTop_walk n x1 x2 σ = some q) : bfr MT (d + 3) M_X11_walk 0 [some (.ref 0), some (.int x1), some (.int x2), none, none] [] [] (mkC 1 rb 1 re rf rg σ) (some (.int q.1), mkC 1 rb 1 re rf rg q.2) := by
  unfold cTop_walk at h
  refine bfr_call 3 (d1 := d + 2) (M1 := M_X11_isMan) (vs := [(.ref 0), (.int x1)]) (w1 := mkC 1 rb 1 re rf rg σ) (pc2 := 5) (L2 := [some (.ref 0), some (.int x1), some (.int x2), none, none]) (J2 := []) (rest := []) (fun a => some (.int a.1)) (fun a => mkC 1 rb 1 re rf rg a.2) (fun _ _ => rfl) h (fun a ha => k_cTop_isMan n (d + 2) _ _ _ _ _ _ _ _ ha) (fun q3 _ h => ?_)
  refine bfr_br 1 (pc1 := 16) (L1 := [some (.ref 0), some (.int x1), some (.int x2), none, none]) (J1 := []) (st1 := []) (w1 := mkC 1 rb 1 re rf rg q3.2) (pc2 := 8) (L2 := [some (.ref 0), some (.int x1), some (.int x2), none, none]) (J2 := []) (st2 := []) (w2 := mkC 1 rb 1 re rf rg q3.2) (fun _ _ => rfl) h (fun h => ?_) (fun h => ?_)
  · exact k_cTop_walk_b16 n d q _ _ _ _ _ _ _ _ _ _ h
  · refine bfr_call 3 (d1 := d + 2) (M1 := M_X11_isBank) (vs := [(.ref 0), (.int x2)]) (w1 := mkC 1 rb 1 re rf rg q3.2) (pc2 := 13) (L2 := [some (.ref 0), some (.int x1), some (.int x2), none, none]) (J2 := []) (rest := []) (fun a => some (.int a.1)) (fun a => mkC 1 rb 1 re rf rg a.2) (fun _ _ => rfl) h (fun a ha => k_cTop_isBank n (d + 2) _ _ _ _ _ _ _ _ ha) (fun q4 _ h => ?_)
    refine bfr_br 1 (pc1 := 16) (L1 := [some (.ref 0), some (.int x1), some (.int x2), none, none]) (J1 := []) (st1 := []) (w1 := mkC 1 rb 1 re rf rg q4.2) (pc2 := 18) (L2 := [some (.ref 0), some (.int x1), some (.int x2), none, none]) (J2 := []) (st2 := []) (w2 := mkC 1 rb 1 re rf rg q4.2) (fun _ _ => rfl) h (fun h => ?_) (fun h => ?_)
    · exact k_cTop_walk_b16 n d q _ _ _ _ _ _ _ _ _ _ h
    · refine bfr_in (i := x1) (m := 7) 5 (pc1 := 27) (L1 := [some (.ref 0), some (.int x1), some (.int x2), none, none]) (J1 := []) (st1 := [(.int (sA q4.2 30 x1))]) (w1 := mkC 1 rb 1 re rf rg q4.2) (fun _ _ => rfl) h (fun h => ?_)
      refine bfr_br 1 (pc1 := 34) (L1 := [some (.ref 0), some (.int x1), some (.int x2), none, none]) (J1 := []) (st1 := []) (w1 := mkC 1 rb 1 re rf rg q4.2) (pc2 := 30) (L2 := [some (.ref 0), some (.int x1), some (.int x2), none, none]) (J2 := []) (st2 := []) (w2 := mkC 1 rb 1 re rf rg q4.2) (fun _ _ => rfl) h (fun h => ?_) (fun h => ?_)
      · refine bfr_run 6 46 [some (.ref 0), some (.int x1), some (.int x2), none, none] [] [(.int x1), (.ref 30), (.ref 1)] (mkC 1 rb 1 re rf rg q4.2) (fun _ _ => rfl) ?_
        refine bfr_in (i := x1) (m := 7) 1 (pc1 := 47) (L1 := [some (.ref 0), some (.int x1), some (.int x2), none, none]) (J1 := []) (st1 := [(.int (sA q4.2 30 x1)), (.ref 1)]) (w1 := mkC 1 rb 1 re rf rg q4.2) (fun _ _ => rfl) h (fun h => ?_)
        refine bfr_call 2 (d1 := d + 2) (M1 := M_X9_pathHours) (vs := [(.ref 1), (.int (sA q4.2 30 x1)), (.int x2)]) (w1 := mkC 1 rb 1 re rf rg q4.2) (pc2 := 51) (L2 := [some (.ref 0), some (.int x1), some (.int x2), none, none]) (J2 := []) (rest := []) (fun a => some (.int a.1)) (fun a => mkC 1 rb 1 re rf rg a.2) (fun _ _ => rfl) h (fun a ha => k_cTold_pathHours n (d + 2) _ _ _ _ _ _ _ _ _ _ ha) (fun q5 _ h => ?_)
        exact k_cTop_walk_b51 n d q _ _ _ _ _ _ _ _ _ _ h
      · refine bfr_run 2 51 [some (.ref 0), some (.int x1), some (.int x2), none, none] [] [(.int ci_0)] (mkC 1 rb 1 re rf rg q4.2) (fun _ _ => rfl) ?_
        exact k_cTop_walk_b51 n d q _ _ _ _ _ _ _ _ _ _ h
set_option maxRecDepth 100000 in
theorem k_cTop_hours_b30 (n d : Nat) (q : (Int32 × bS)) : ∀ (k : Nat) (x1 : Int32) (x2 : Int32) (ra : Nat) (rb : Nat) (re : Nat) (rf : Value) (rg : Value) (σ : bS), cTop_hours_b30 n k x1 x2 σ = some q → bfr MT (d + 3) M_X11_hours 30 [some (.ref 0), some (.int x1), some (.int x2)] [] [] (mkC ra rb 1 re rf rg σ) (some (.int q.1), mkC ra rb 1 re rf rg q.2) := by
  intro k
  induction k with
  | zero => intro x1 x2 ra rb re rf rg σ h; exact bno h
  | succ k ih =>
    intro x1 x2 ra rb re rf rg σ h
    unfold cTop_hours_b30 at h
    refine bfr_br 3 (pc1 := 48) (L1 := [some (.ref 0), some (.int x1), some (.int x2)]) (J1 := []) (st1 := []) (w1 := mkC ra rb 1 re rf rg σ) (pc2 := 35) (L2 := [some (.ref 0), some (.int x1), some (.int x2)]) (J2 := []) (st2 := []) (w2 := mkC ra rb 1 re rf rg σ) (fun _ _ => rfl) h (fun h => ?_) (fun h => ?_)
    · cases h
      exact bfr_ret 4 (fun _ _ => rfl)
    · refine bfr_call 3 (d1 := d + 2) (M1 := M_X1_hourPasses) (vs := [(.ref 27)]) (w1 := mkC ra rb 1 re rf rg σ) (pc2 := 42) (L2 := [some (.ref 0), some (.int x1), some (.int x2)]) (J2 := []) (rest := []) (fun _ => none) (fun a => mkC ra rb 1 re rf rg a) (fun _ _ => rfl) h (fun a ha => k_cGoing_hourPasses n (d + 0) _ _ _ _ _ _ _ ha) (fun q1 _ h => ?_)
      refine bfr_run 1 45 [some (.ref 0), some (.int x1), some (.int (x2 + ci_1))] [] [] (mkC ra rb 1 re rf rg q1) (fun _ _ => rfl) ?_
      refine bfr_run 1 30 [some (.ref 0), some (.int x1), some (.int (x2 + ci_1))] [] [] (mkC ra rb 1 re rf rg q1) (fun _ _ => rfl) ?_
      exact ih _ _ _ _ _ _ _ _ h
set_option maxRecDepth 100000 in
theorem k_cTop_hours_b28 (n d : Nat) (q : (Int32 × bS)) (x1 : Int32) (o2 : Option Value) (ra : Nat) (rb : Nat) (re : Nat) (rf : Value) (rg : Value) (σ : bS) (h : cTop_hours_b28 n x1 σ = some q) : bfr MT (d + 3) M_X11_hours 28 [some (.ref 0), some (.int x1), o2] [] [] (mkC ra rb 1 re rf rg σ) (some (.int q.1), mkC ra rb 1 re rf rg q.2) := by
  unfold cTop_hours_b28 at h
  refine bfr_run 2 30 [some (.ref 0), some (.int x1), some (.int ci_0)] [] [] (mkC ra rb 1 re rf rg σ) (fun _ _ => rfl) ?_
  exact k_cTop_hours_b30 n d q _ _ _ _ _ _ _ _ _ h
set_option maxRecDepth 100000 in
theorem k_cTop_hours_b11 (n d : Nat) (q : (Int32 × bS)) (o0 : Option Value) (o1 : Option Value) (o2 : Option Value) (ra : Nat) (rb : Nat) (re : Nat) (rf : Value) (rg : Value) (σ : bS) (h : cTop_hours_b11 n σ = some q) : bfr MT (d + 3) M_X11_hours 11 [o0, o1, o2] [] [] (mkC ra rb 1 re rf rg σ) (some (.int q.1), mkC ra rb 1 re rf rg q.2) := by
  unfold cTop_hours_b11 at h
  cases h
  exact bfr_ret 2 (fun _ _ => rfl)
set_option maxRecDepth 100000 in
theorem k_cTop_hours (n d : Nat) (q : (Int32 × bS)) (x1 : Int32) (ra : Nat) (rb : Nat) (re : Nat) (rf : Value) (rg : Value) (σ : bS) (h : cTop_hours n x1 σ = some q) : bfr MT (d + 3) M_X11_hours 0 [some (.ref 0), some (.int x1), none] [] [] (mkC ra rb 1 re rf rg σ) (some (.int q.1), mkC ra rb 1 re rf rg q.2) := by
  unfold cTop_hours at h
  refine bfr_br 2 (pc1 := 11) (L1 := [some (.ref 0), some (.int x1), none]) (J1 := []) (st1 := []) (w1 := mkC ra rb 1 re rf rg σ) (pc2 := 4) (L2 := [some (.ref 0), some (.int x1), none]) (J2 := []) (st2 := []) (w2 := mkC ra rb 1 re rf rg σ) (fun _ _ => rfl) h (fun h => ?_) (fun h => ?_)
  · exact k_cTop_hours_b11 n d q _ _ _ _ _ _ _ _ _ h
  · refine bfr_br 3 (pc1 := 13) (L1 := [some (.ref 0), some (.int x1), none]) (J1 := []) (st1 := []) (w1 := mkC ra rb 1 re rf rg σ) (pc2 := 11) (L2 := [some (.ref 0), some (.int x1), none]) (J2 := []) (st2 := []) (w2 := mkC ra rb 1 re rf rg σ) (fun _ _ => rfl) h (fun h => ?_) (fun h => ?_)
    · refine bfr_br 2 (pc1 := 28) (L1 := [some (.ref 0), some (.int x1), none]) (J1 := []) (st1 := []) (w1 := mkC ra rb 1 re rf rg σ) (pc2 := 17) (L2 := [some (.ref 0), some (.int x1), none]) (J2 := []) (st2 := []) (w2 := mkC ra rb 1 re rf rg σ) (fun _ _ => rfl) h (fun h => ?_) (fun h => ?_)
      · exact k_cTop_hours_b28 n d q _ _ _ _ _ _ _ _ h
      · refine bfr_call 5 (d1 := d + 2) (M1 := M_X7_keep) (vs := [(.ref 54), (.ref 27)]) (w1 := mkC ra rb 1 re rf rg σ) (pc2 := 28) (L2 := [some (.ref 0), some (.int x1), none]) (J2 := []) (rest := []) (fun _ => none) (fun a => mkC ra rb 1 re rf rg a) (fun _ _ => rfl) h (fun a ha => k_cShelf_keep_27 n (d + 0) _ _ _ _ _ _ _ _ ha) (fun q2 _ h => ?_)
        exact k_cTop_hours_b28 n d q _ _ _ _ _ _ _ _ h
    · exact k_cTop_hours_b11 n d q _ _ _ _ _ _ _ _ _ h
set_option maxRecDepth 100000 in
theorem k_cGoing_isHome_b23 (n d : Nat) (q : (Int32 × bS)) (s0 : Int32) (o0 : Option Value) (o1 : Option Value) (ra : Nat) (rb : Nat) (re : Nat) (rf : Value) (rg : Value) (σ : bS) (h : cGoing_isHome_b23 n s0 σ = some q) : bfr MT (d + 0) M_X1_isHome 23 [o0, o1] [] [(.int s0)] (mkC ra rb 1 re rf rg σ) (some (.int q.1), mkC ra rb 1 re rf rg q.2) := by
  unfold cGoing_isHome_b23 at h
  exact bfr_bz (mk := mkC ra rb 1 re rf rg) 1 (fun _ _ => rfl) h
set_option maxRecDepth 100000 in
theorem k_cGoing_isHome (n d : Nat) (q : (Int32 × bS)) (x1 : Int32) (ra : Nat) (rb : Nat) (re : Nat) (rf : Value) (rg : Value) (σ : bS) (h : cGoing_isHome n x1 σ = some q) : bfr MT (d + 0) M_X1_isHome 0 [some (.ref 27), some (.int x1)] [] [] (mkC ra rb 1 re rf rg σ) (some (.int q.1), mkC ra rb 1 re rf rg q.2) := by
  unfold cGoing_isHome at h
  refine bfr_in (i := x1) (m := 7) 4 (pc1 := 6) (L1 := [some (.ref 27), some (.int x1)]) (J1 := []) (st1 := [(.int (sA σ 30 x1))]) (w1 := mkC ra rb 1 re rf rg σ) (fun _ _ => rfl) h (fun h => ?_)
  refine bfr_in (i := x1) (m := 7) 5 (pc1 := 15) (L1 := [some (.ref 27), some (.int x1)]) (J1 := []) (st1 := [(.int (sA σ 6 x1)), (.int (sA σ 30 x1))]) (w1 := mkC ra rb 1 re rf rg σ) (fun _ _ => rfl) h (fun h => ?_)
  refine bfr_br 1 (pc1 := 18) (L1 := [some (.ref 27), some (.int x1)]) (J1 := []) (st1 := []) (w1 := mkC ra rb 1 re rf rg σ) (pc2 := 22) (L2 := [some (.ref 27), some (.int x1)]) (J2 := []) (st2 := []) (w2 := mkC ra rb 1 re rf rg σ) (fun _ _ => rfl) h (fun h => ?_) (fun h => ?_)
  · refine bfr_run 2 23 [some (.ref 27), some (.int x1)] [] [(.int ci_1)] (mkC ra rb 1 re rf rg σ) (fun _ _ => rfl) ?_
    exact k_cGoing_isHome_b23 n d q _ _ _ _ _ _ _ _ _ h
  · refine bfr_run 1 23 [some (.ref 27), some (.int x1)] [] [(.int ci_0)] (mkC ra rb 1 re rf rg σ) (fun _ _ => rfl) ?_
    exact k_cGoing_isHome_b23 n d q _ _ _ _ _ _ _ _ _ h
set_option maxRecDepth 100000 in
theorem k_cGoing_wouldGo_b52 (n d : Nat) (q : (Int32 × bS)) (s0 : Int32) (o0 : Option Value) (o1 : Option Value) (o2 : Option Value) (ra : Nat) (rb : Nat) (re : Nat) (rf : Value) (rg : Value) (σ : bS) (h : cGoing_wouldGo_b52 n s0 σ = some q) : bfr MT (d + 2) M_X1_wouldGo 52 [o0, o1, o2] [] [(.int s0)] (mkC ra rb 1 re rf rg σ) (some (.int q.1), mkC ra rb 1 re rf rg q.2) := by
  unfold cGoing_wouldGo_b52 at h
  exact bfr_bz (mk := mkC ra rb 1 re rf rg) 1 (fun _ _ => rfl) h
set_option maxRecDepth 100000 in
theorem k_cGoing_wouldGo (n d : Nat) (q : (Int32 × bS)) (x1 : Int32) (x2 : Int32) (ra : Nat) (rb : Nat) (re : Nat) (rf : Value) (rg : Value) (σ : bS) (h : cGoing_wouldGo n x1 x2 σ = some q) : bfr MT (d + 2) M_X1_wouldGo 0 [some (.ref 27), some (.int x1), some (.int x2)] [] [] (mkC ra rb 1 re rf rg σ) (some (.int q.1), mkC ra rb 1 re rf rg q.2) := by
  unfold cGoing_wouldGo at h
  refine bfr_br 4 (pc1 := 12) (L1 := [some (.ref 27), some (.int x1), some (.int x2)]) (J1 := []) (st1 := []) (w1 := mkC ra rb 1 re rf rg σ) (pc2 := 10) (L2 := [some (.ref 27), some (.int x1), some (.int x2)]) (J2 := []) (st2 := []) (w2 := mkC ra rb 1 re rf rg σ) (fun _ _ => rfl) h (fun h => ?_) (fun h => ?_)
  · refine bfr_in (i := x2) (m := 4) 6 (pc1 := 20) (L1 := [some (.ref 27), some (.int x1), some (.int x2)]) (J1 := []) (st1 := [(.int (sA σ 28 x2)), (.int x1), (.ref 27)]) (w1 := mkC ra rb 1 re rf rg σ) (fun _ _ => rfl) h (fun h => ?_)
    refine bfr_call 3 (d1 := d + 1) (M1 := M_X1_look) (vs := [(.ref 27), (.int x1), (.int (sA σ 28 x2)), (.int (sI σ 27 2))]) (w1 := mkC ra rb 1 re rf rg σ) (pc2 := 27) (L2 := [some (.ref 27), some (.int x1), some (.int x2)]) (J2 := []) (rest := []) (fun _ => none) (fun a => mkC ra rb 1 re rf rg a) (fun _ _ => rfl) h (fun a ha => k_cGoing_look n (d + 0) _ _ _ _ _ _ _ _ _ _ ha) (fun q1 _ h => ?_)
    refine bfr_run 6 41 [some (.ref 27), some (.int x1), some (.int x2)] [] [(.int (sI q1 1 12)), (.ref 10)] (mkC ra rb 1 re rf rg q1) (fun _ _ => rfl) ?_
    refine bfr_call 1 (d1 := d + 1) (M1 := M_X2_valueOf) (vs := [(.ref 10), (.int (sI q1 1 12))]) (w1 := mkC ra rb 1 re rf rg q1) (pc2 := 44) (L2 := [some (.ref 27), some (.int x1), some (.int x2)]) (J2 := []) (rest := []) (fun a => some (.int a.1)) (fun a => mkC ra rb 1 re rf rg a.2) (fun _ _ => rfl) h (fun a ha => k_cLaws_valueOf n (d + 0) _ _ _ _ _ _ _ _ _ ha) (fun q2 _ h => ?_)
    refine bfr_br 1 (pc1 := 51) (L1 := [some (.ref 27), some (.int x1), some (.int x2)]) (J1 := []) (st1 := []) (w1 := mkC ra rb 1 re rf rg q2.2) (pc2 := 47) (L2 := [some (.ref 27), some (.int x1), some (.int x2)]) (J2 := []) (st2 := []) (w2 := mkC ra rb 1 re rf rg q2.2) (fun _ _ => rfl) h (fun h => ?_) (fun h => ?_)
    · refine bfr_run 1 52 [some (.ref 27), some (.int x1), some (.int x2)] [] [(.int ci_0)] (mkC ra rb 1 re rf rg q2.2) (fun _ _ => rfl) ?_
      exact k_cGoing_wouldGo_b52 n d q _ _ _ _ _ _ _ _ _ _ h
    · refine bfr_run 2 52 [some (.ref 27), some (.int x1), some (.int x2)] [] [(.int ci_1)] (mkC ra rb 1 re rf rg q2.2) (fun _ _ => rfl) ?_
      exact k_cGoing_wouldGo_b52 n d q _ _ _ _ _ _ _ _ _ _ h
  · exact bfr_bz (mk := mkC ra rb 1 re rf rg) 2 (fun _ _ => rfl) h
set_option maxRecDepth 100000 in
theorem k_cGoing_bridgeByRule_b97 (n d : Nat) (r58 : Int32 → Int32 → Int32 → bS → Option (Int32 × bS)) (q : (Int32 × bS)) (hr58 : ∀ (x1 : Int32) (x2 : Int32) (x3 : Int32) (ra : Nat) (rb : Nat) (re : Nat) (rf : Value) (rg : Value) (σ : bS), r58 x1 x2 x3 σ = some q → bfr MT (d + 4) M_X1_bridgeByRule 58 [some (.ref 27), some (.int x1), some (.int x2), some (.int x3)] [] [] (mkC ra rb 1 re rf rg σ) (some (.int q.1), mkC ra rb 1 re rf rg q.2)) (x1 : Int32) (x2 : Int32) (x3 : Int32) (ra : Nat) (rb : Nat) (re : Nat) (rf : Value) (rg : Value) (σ : bS) (h : cGoing_bridgeByRule_b97 n r58 x1 x2 x3 σ = some q) : bfr MT (d + 4) M_X1_bridgeByRule 97 [some (.ref 27), some (.int x1), some (.int x2), some (.int x3)] [] [] (mkC ra rb 1 re rf rg σ) (some (.int q.1), mkC ra rb 1 re rf rg q.2) := by
  unfold cGoing_bridgeByRule_b97 at h
  refine bfr_run 1 100 [some (.ref 27), some (.int x1), some (.int x2), some (.int (x3 + ci_1))] [] [] (mkC ra rb 1 re rf rg σ) (fun _ _ => rfl) ?_
  refine bfr_run 1 58 [some (.ref 27), some (.int x1), some (.int x2), some (.int (x3 + ci_1))] [] [] (mkC ra rb 1 re rf rg σ) (fun _ _ => rfl) ?_
  exact hr58 _ _ _ _ _ _ _ _ _ h
set_option maxRecDepth 100000 in
theorem k_cGoing_bridgeByRule_b58 (n d : Nat) (q : (Int32 × bS)) : ∀ (k : Nat) (x1 : Int32) (x2 : Int32) (x3 : Int32) (ra : Nat) (rb : Nat) (re : Nat) (rf : Value) (rg : Value) (σ : bS), cGoing_bridgeByRule_b58 n k x1 x2 x3 σ = some q → bfr MT (d + 4) M_X1_bridgeByRule 58 [some (.ref 27), some (.int x1), some (.int x2), some (.int x3)] [] [] (mkC ra rb 1 re rf rg σ) (some (.int q.1), mkC ra rb 1 re rf rg q.2) := by
  intro k
  induction k with
  | zero => intro x1 x2 x3 ra rb re rf rg σ h; exact bno h
  | succ k ih =>
    intro x1 x2 x3 ra rb re rf rg σ h
    unfold cGoing_bridgeByRule_b58 at h
    refine bfr_br 5 (pc1 := 103) (L1 := [some (.ref 27), some (.int x1), some (.int x2), some (.int x3)]) (J1 := []) (st1 := []) (w1 := mkC ra rb 1 re rf rg σ) (pc2 := 69) (L2 := [some (.ref 27), some (.int x1), some (.int x2), some (.int x3)]) (J2 := []) (st2 := []) (w2 := mkC ra rb 1 re rf rg σ) (fun _ _ => rfl) h (fun h => ?_) (fun h => ?_)
    · cases h
      exact bfr_ret 2 (fun _ _ => rfl)
    · refine bfr_br 6 (pc1 := 77) (L1 := [some (.ref 27), some (.int x1), some (.int x2), some (.int x3)]) (J1 := []) (st1 := []) (w1 := mkC ra rb 1 re rf rg σ) (pc2 := 97) (L2 := [some (.ref 27), some (.int x1), some (.int x2), some (.int x3)]) (J2 := []) (st2 := []) (w2 := mkC ra rb 1 re rf rg σ) (fun _ _ => rfl) h (fun h => ?_) (fun h => ?_)
      · refine bfr_call 4 (d1 := d + 3) (M1 := M_X1_couldCross) (vs := [(.ref 27), (.int x1), (.int x3)]) (w1 := mkC ra rb 1 re rf rg σ) (pc2 := 83) (L2 := [some (.ref 27), some (.int x1), some (.int x2), some (.int x3)]) (J2 := []) (rest := []) (fun a => some (.int a.1)) (fun a => mkC ra rb 1 re rf rg a.2) (fun _ _ => rfl) h (fun a ha => k_cGoing_couldCross n (d + 0) _ _ _ _ _ _ _ _ _ ha) (fun q1 _ h => ?_)
        refine bfr_br 1 (pc1 := 97) (L1 := [some (.ref 27), some (.int x1), some (.int x2), some (.int x3)]) (J1 := []) (st1 := []) (w1 := mkC ra rb 1 re rf rg q1.2) (pc2 := 86) (L2 := [some (.ref 27), some (.int x1), some (.int x2), some (.int x3)]) (J2 := []) (st2 := []) (w2 := mkC ra rb 1 re rf rg q1.2) (fun _ _ => rfl) h (fun h => ?_) (fun h => ?_)
        · exact k_cGoing_bridgeByRule_b97 n d _ q (ih) _ _ _ _ _ _ _ _ _ h
        · refine bfr_call 4 (d1 := d + 3) (M1 := M_X1_wouldGo) (vs := [(.ref 27), (.int x1), (.int x3)]) (w1 := mkC ra rb 1 re rf rg q1.2) (pc2 := 92) (L2 := [some (.ref 27), some (.int x1), some (.int x2), some (.int x3)]) (J2 := []) (rest := []) (fun a => some (.int a.1)) (fun a => mkC ra rb 1 re rf rg a.2) (fun _ _ => rfl) h (fun a ha => k_cGoing_wouldGo n (d + 1) _ _ _ _ _ _ _ _ _ ha) (fun q2 _ h => ?_)
          refine bfr_br 1 (pc1 := 97) (L1 := [some (.ref 27), some (.int x1), some (.int x2), some (.int x3)]) (J1 := []) (st1 := []) (w1 := mkC ra rb 1 re rf rg q2.2) (pc2 := 95) (L2 := [some (.ref 27), some (.int x1), some (.int x2), some (.int x3)]) (J2 := []) (st2 := []) (w2 := mkC ra rb 1 re rf rg q2.2) (fun _ _ => rfl) h (fun h => ?_) (fun h => ?_)
          · exact k_cGoing_bridgeByRule_b97 n d _ q (ih) _ _ _ _ _ _ _ _ _ h
          · cases h
            exact bfr_ret 2 (fun _ _ => rfl)
      · exact k_cGoing_bridgeByRule_b97 n d _ q (ih) _ _ _ _ _ _ _ _ _ h
set_option maxRecDepth 100000 in
theorem k_cGoing_bridgeByRule_b50 (n d : Nat) (r2 : Int32 → Int32 → Int32 → bS → Option (Int32 × bS)) (q : (Int32 × bS)) (hr2 : ∀ (x1 : Int32) (x2 : Int32) (x3 : Int32) (ra : Nat) (rb : Nat) (re : Nat) (rf : Value) (rg : Value) (σ : bS), r2 x1 x2 x3 σ = some q → bfr MT (d + 4) M_X1_bridgeByRule 2 [some (.ref 27), some (.int x1), some (.int x2), some (.int x3)] [] [] (mkC ra rb 1 re rf rg σ) (some (.int q.1), mkC ra rb 1 re rf rg q.2)) (x1 : Int32) (x2 : Int32) (x3 : Int32) (ra : Nat) (rb : Nat) (re : Nat) (rf : Value) (rg : Value) (σ : bS) (h : cGoing_bridgeByRule_b50 n r2 x1 x2 x3 σ = some q) : bfr MT (d + 4) M_X1_bridgeByRule 50 [some (.ref 27), some (.int x1), some (.int x2), some (.int x3)] [] [] (mkC ra rb 1 re rf rg σ) (some (.int q.1), mkC ra rb 1 re rf rg q.2) := by
  unfold cGoing_bridgeByRule_b50 at h
  refine bfr_run 1 53 [some (.ref 27), some (.int x1), some (.int x2), some (.int (x3 + ci_1))] [] [] (mkC ra rb 1 re rf rg σ) (fun _ _ => rfl) ?_
  refine bfr_run 1 2 [some (.ref 27), some (.int x1), some (.int x2), some (.int (x3 + ci_1))] [] [] (mkC ra rb 1 re rf rg σ) (fun _ _ => rfl) ?_
  exact hr2 _ _ _ _ _ _ _ _ _ h
set_option maxRecDepth 100000 in
theorem k_cGoing_bridgeByRule_b2 (n d : Nat) (q : (Int32 × bS)) : ∀ (k : Nat) (x1 : Int32) (x2 : Int32) (x3 : Int32) (ra : Nat) (rb : Nat) (re : Nat) (rf : Value) (rg : Value) (σ : bS), cGoing_bridgeByRule_b2 n k x1 x2 x3 σ = some q → bfr MT (d + 4) M_X1_bridgeByRule 2 [some (.ref 27), some (.int x1), some (.int x2), some (.int x3)] [] [] (mkC ra rb 1 re rf rg σ) (some (.int q.1), mkC ra rb 1 re rf rg q.2) := by
  intro k
  induction k with
  | zero => intro x1 x2 x3 ra rb re rf rg σ h; exact bno h
  | succ k ih =>
    intro x1 x2 x3 ra rb re rf rg σ h
    unfold cGoing_bridgeByRule_b2 at h
    refine bfr_br 5 (pc1 := 56) (L1 := [some (.ref 27), some (.int x1), some (.int x2), some (.int x3)]) (J1 := []) (st1 := []) (w1 := mkC ra rb 1 re rf rg σ) (pc2 := 13) (L2 := [some (.ref 27), some (.int x1), some (.int x2), some (.int x3)]) (J2 := []) (st2 := []) (w2 := mkC ra rb 1 re rf rg σ) (fun _ _ => rfl) h (fun h => ?_) (fun h => ?_)
    · refine bfr_run 2 58 [some (.ref 27), some (.int x1), some (.int x2), some (.int ci_0)] [] [] (mkC ra rb 1 re rf rg σ) (fun _ _ => rfl) ?_
      exact k_cGoing_bridgeByRule_b58 n d q _ _ _ _ _ _ _ _ _ _ h
    · refine bfr_br 6 (pc1 := 21) (L1 := [some (.ref 27), some (.int x1), some (.int x2), some (.int x3)]) (J1 := []) (st1 := []) (w1 := mkC ra rb 1 re rf rg σ) (pc2 := 50) (L2 := [some (.ref 27), some (.int x1), some (.int x2), some (.int x3)]) (J2 := []) (st2 := []) (w2 := mkC ra rb 1 re rf rg σ) (fun _ _ => rfl) h (fun h => ?_) (fun h => ?_)
      · refine bfr_in (i := x3) (m := 4) 4 (pc1 := 27) (L1 := [some (.ref 27), some (.int x1), some (.int x2), some (.int x3)]) (J1 := []) (st1 := [(.int (sA σ 28 x3))]) (w1 := mkC ra rb 1 re rf rg σ) (fun _ _ => rfl) h (fun h => ?_)
        refine bfr_in (i := x1) (m := 7) 5 (pc1 := 36) (L1 := [some (.ref 27), some (.int x1), some (.int x2), some (.int x3)]) (J1 := []) (st1 := [(.int (sA σ 6 x1)), (.int (sA σ 28 x3))]) (w1 := mkC ra rb 1 re rf rg σ) (fun _ _ => rfl) h (fun h => ?_)
        refine bfr_br 1 (pc1 := 39) (L1 := [some (.ref 27), some (.int x1), some (.int x2), some (.int x3)]) (J1 := []) (st1 := []) (w1 := mkC ra rb 1 re rf rg σ) (pc2 := 50) (L2 := [some (.ref 27), some (.int x1), some (.int x2), some (.int x3)]) (J2 := []) (st2 := []) (w2 := mkC ra rb 1 re rf rg σ) (fun _ _ => rfl) h (fun h => ?_) (fun h => ?_)
        · refine bfr_call 4 (d1 := d + 3) (M1 := M_X1_couldCross) (vs := [(.ref 27), (.int x1), (.int x3)]) (w1 := mkC ra rb 1 re rf rg σ) (pc2 := 45) (L2 := [some (.ref 27), some (.int x1), some (.int x2), some (.int x3)]) (J2 := []) (rest := []) (fun a => some (.int a.1)) (fun a => mkC ra rb 1 re rf rg a.2) (fun _ _ => rfl) h (fun a ha => k_cGoing_couldCross n (d + 0) _ _ _ _ _ _ _ _ _ ha) (fun q3 _ h => ?_)
          refine bfr_br 1 (pc1 := 50) (L1 := [some (.ref 27), some (.int x1), some (.int x2), some (.int x3)]) (J1 := []) (st1 := []) (w1 := mkC ra rb 1 re rf rg q3.2) (pc2 := 48) (L2 := [some (.ref 27), some (.int x1), some (.int x2), some (.int x3)]) (J2 := []) (st2 := []) (w2 := mkC ra rb 1 re rf rg q3.2) (fun _ _ => rfl) h (fun h => ?_) (fun h => ?_)
          · exact k_cGoing_bridgeByRule_b50 n d _ q (ih) _ _ _ _ _ _ _ _ _ h
          · cases h
            exact bfr_ret 2 (fun _ _ => rfl)
        · exact k_cGoing_bridgeByRule_b50 n d _ q (ih) _ _ _ _ _ _ _ _ _ h
      · exact k_cGoing_bridgeByRule_b50 n d _ q (ih) _ _ _ _ _ _ _ _ _ h
set_option maxRecDepth 100000 in
theorem k_cGoing_bridgeByRule (n d : Nat) (q : (Int32 × bS)) (x1 : Int32) (x2 : Int32) (ra : Nat) (rb : Nat) (re : Nat) (rf : Value) (rg : Value) (σ : bS) (h : cGoing_bridgeByRule n x1 x2 σ = some q) : bfr MT (d + 4) M_X1_bridgeByRule 0 [some (.ref 27), some (.int x1), some (.int x2), none] [] [] (mkC ra rb 1 re rf rg σ) (some (.int q.1), mkC ra rb 1 re rf rg q.2) := by
  unfold cGoing_bridgeByRule at h
  refine bfr_run 2 2 [some (.ref 27), some (.int x1), some (.int x2), some (.int ci_0)] [] [] (mkC ra rb 1 re rf rg σ) (fun _ _ => rfl) ?_
  exact k_cGoing_bridgeByRule_b2 n d q _ _ _ _ _ _ _ _ _ _ h
set_option maxRecDepth 100000 in
theorem k_cGoing_ruleHour_b81 (n d : Nat) (r4 : Int32 → Int32 → Int32 → bS → Option bS) (q : bS) (hr4 : ∀ (x1 : Int32) (x2 : Int32) (x3 : Int32) (o4 : Option Value) (ra : Nat) (rb : Nat) (re : Nat) (rf : Value) (rg : Value) (σ : bS), r4 x1 x2 x3 σ = some q → bfr MT (d + 5) M_X1_ruleHour 4 [some (.ref 27), some (.int x1), some (.int x2), some (.int x3), o4] [] [] (mkC ra rb 1 re rf rg σ) (none, mkC ra rb 1 re rf rg q)) (x1 : Int32) (x2 : Int32) (x3 : Int32) (o4 : Option Value) (ra : Nat) (rb : Nat) (re : Nat) (rf : Value) (rg : Value) (σ : bS) (h : cGoing_ruleHour_b81 n r4 x1 x2 x3 σ = some q) : bfr MT (d + 5) M_X1_ruleHour 81 [some (.ref 27), some (.int x1), some (.int x2), some (.int x3), o4] [] [] (mkC ra rb 1 re rf rg σ) (none, mkC ra rb 1 re rf rg q) := by
  unfold cGoing_ruleHour_b81 at h
  refine bfr_run 1 84 [some (.ref 27), some (.int x1), some (.int x2), some (.int (x3 + ci_1)), o4] [] [] (mkC ra rb 1 re rf rg σ) (fun _ _ => rfl) ?_
  refine bfr_run 1 4 [some (.ref 27), some (.int x1), some (.int x2), some (.int (x3 + ci_1)), o4] [] [] (mkC ra rb 1 re rf rg σ) (fun _ _ => rfl) ?_
  exact hr4 _ _ _ _ _ _ _ _ _ _ h
set_option maxRecDepth 100000 in
theorem k_cGoing_ruleHour_b4 (n d : Nat) (q : bS) : ∀ (k : Nat) (x1 : Int32) (x2 : Int32) (x3 : Int32) (o4 : Option Value) (ra : Nat) (rb : Nat) (re : Nat) (rf : Value) (rg : Value) (σ : bS), cGoing_ruleHour_b4 n k x1 x2 x3 σ = some q → bfr MT (d + 5) M_X1_ruleHour 4 [some (.ref 27), some (.int x1), some (.int x2), some (.int x3), o4] [] [] (mkC ra rb 1 re rf rg σ) (none, mkC ra rb 1 re rf rg q) := by
  intro k
  induction k with
  | zero => intro x1 x2 x3 o4 ra rb re rf rg σ h; exact bno h
  | succ k ih =>
    intro x1 x2 x3 o4 ra rb re rf rg σ h
    unfold cGoing_ruleHour_b4 at h
    refine bfr_br 5 (pc1 := 87) (L1 := [some (.ref 27), some (.int x1), some (.int x2), some (.int x3), o4]) (J1 := []) (st1 := []) (w1 := mkC ra rb 1 re rf rg σ) (pc2 := 15) (L2 := [some (.ref 27), some (.int x1), some (.int x2), some (.int x3), o4]) (J2 := []) (st2 := []) (w2 := mkC ra rb 1 re rf rg σ) (fun _ _ => rfl) h (fun h => ?_) (fun h => ?_)
    · refine bfr_call 2 (d1 := d + 4) (M1 := M_X1_hourPasses) (vs := [(.ref 27)]) (w1 := mkC ra rb 1 re rf rg σ) (pc2 := 91) (L2 := [some (.ref 27), some (.int x1), some (.int x2), some (.int x3), o4]) (J2 := []) (rest := []) (fun _ => none) (fun a => mkC ra rb 1 re rf rg a) (fun _ _ => rfl) h (fun a ha => k_cGoing_hourPasses n (d + 2) _ _ _ _ _ _ _ ha) (fun q1 _ h => ?_)
      cases h
      exact bfr_ret 1 (fun _ _ => rfl)
    · refine bfr_br 3 (pc1 := 81) (L1 := [some (.ref 27), some (.int x1), some (.int x2), some (.int x3), o4]) (J1 := []) (st1 := []) (w1 := mkC ra rb 1 re rf rg σ) (pc2 := 20) (L2 := [some (.ref 27), some (.int x1), some (.int x2), some (.int x3), o4]) (J2 := []) (st2 := []) (w2 := mkC ra rb 1 re rf rg σ) (fun _ _ => rfl) h (fun h => ?_) (fun h => ?_)
      · exact k_cGoing_ruleHour_b81 n d _ q (ih) _ _ _ _ _ _ _ _ _ _ h
      · refine bfr_in (i := x3) (m := 7) 4 (pc1 := 26) (L1 := [some (.ref 27), some (.int x1), some (.int x2), some (.int x3), o4]) (J1 := []) (st1 := [(.int (sA σ 31 x3))]) (w1 := mkC ra rb 1 re rf rg σ) (fun _ _ => rfl) h (fun h => ?_)
        refine bfr_br 1 (pc1 := 81) (L1 := [some (.ref 27), some (.int x1), some (.int x2), some (.int x3), o4]) (J1 := []) (st1 := []) (w1 := mkC ra rb 1 re rf rg σ) (pc2 := 29) (L2 := [some (.ref 27), some (.int x1), some (.int x2), some (.int x3), o4]) (J2 := []) (st2 := []) (w2 := mkC ra rb 1 re rf rg σ) (fun _ _ => rfl) h (fun h => ?_) (fun h => ?_)
        · exact k_cGoing_ruleHour_b81 n d _ q (ih) _ _ _ _ _ _ _ _ _ _ h
        · refine bfr_call 3 (d1 := d + 4) (M1 := M_X1_isHome) (vs := [(.ref 27), (.int x3)]) (w1 := mkC ra rb 1 re rf rg σ) (pc2 := 34) (L2 := [some (.ref 27), some (.int x1), some (.int x2), some (.int x3), o4]) (J2 := []) (rest := []) (fun a => some (.int a.1)) (fun a => mkC ra rb 1 re rf rg a.2) (fun _ _ => rfl) h (fun a ha => k_cGoing_isHome n (d + 4) _ _ _ _ _ _ _ _ ha) (fun q2 _ h => ?_)
          refine bfr_br 1 (pc1 := 40) (L1 := [some (.ref 27), some (.int x1), some (.int x2), some (.int x3), o4]) (J1 := []) (st1 := []) (w1 := mkC ra rb 1 re rf rg q2.2) (pc2 := 37) (L2 := [some (.ref 27), some (.int x1), some (.int x2), some (.int x3), o4]) (J2 := []) (st2 := []) (w2 := mkC ra rb 1 re rf rg q2.2) (fun _ _ => rfl) h (fun h => ?_) (fun h => ?_)
          · refine bfr_call 4 (d1 := d + 4) (M1 := M_X1_bridgeByRule) (vs := [(.ref 27), (.int x3), (.int x2)]) (w1 := mkC ra rb 1 re rf rg q2.2) (pc2 := 46) (L2 := [some (.ref 27), some (.int x1), some (.int x2), some (.int x3), o4]) (J2 := []) (rest := []) (fun a => some (.int a.1)) (fun a => mkC ra rb 1 re rf rg a.2) (fun _ _ => rfl) h (fun a ha => k_cGoing_bridgeByRule n (d + 0) _ _ _ _ _ _ _ _ _ ha) (fun q3 _ h => ?_)
            refine bfr_br 3 (pc1 := 66) (L1 := [some (.ref 27), some (.int x1), some (.int x2), some (.int x3), some (.int q3.1)]) (J1 := []) (st1 := []) (w1 := mkC ra rb 1 re rf rg q3.2) (pc2 := 53) (L2 := [some (.ref 27), some (.int x1), some (.int x2), some (.int x3), some (.int q3.1)]) (J2 := []) (st2 := []) (w2 := mkC ra rb 1 re rf rg q3.2) (fun _ _ => rfl) h (fun h => ?_) (fun h => ?_)
            · refine bfr_call 4 (d1 := d + 4) (M1 := M_X1_crossOver) (vs := [(.ref 27), (.int x3), (.int q3.1)]) (w1 := mkC ra rb 1 re rf rg q3.2) (pc2 := 73) (L2 := [some (.ref 27), some (.int x1), some (.int x2), some (.int x3), some (.int q3.1)]) (J2 := []) (rest := []) (fun a => some (.int a.1)) (fun a => mkC ra rb 1 re rf rg a.2) (fun _ _ => rfl) h (fun a ha => k_cGoing_crossOver n (d + 0) _ _ _ _ _ _ _ _ _ ha) (fun q4 _ h => ?_)
              refine bfr_run 6 80 [some (.ref 27), some (.int x1), some (.int x2), some (.int x3), some (.int q3.1)] [] [(.int (x2 ||| (ci_1 <<< (q3.1 &&& 31))))] (mkC ra rb 1 re rf rg q4.2) (fun _ _ => rfl) ?_
              refine bfr_run 1 81 [some (.ref 27), some (.int x1), some (.int (x2 ||| (ci_1 <<< (q3.1 &&& 31)))), some (.int x3), some (.int q3.1)] [] [] (mkC ra rb 1 re rf rg q4.2) (fun _ _ => rfl) ?_
              exact k_cGoing_ruleHour_b81 n d _ q (ih) _ _ _ _ _ _ _ _ _ _ h
            · refine bfr_in (i := x3) (m := 7) 5 (pc1 := 60) (L1 := [some (.ref 27), some (.int x1), some (.int x2), some (.int x3), some (.int q3.1)]) (J1 := []) (st1 := [(.int (sA q3.2 34 x3)), (.int x3), (.ref 34)]) (w1 := mkC ra rb 1 re rf rg q3.2) (fun _ _ => rfl) h (fun h => ?_)
              refine bfr_in (i := x3) (m := 7) 3 (pc1 := 63) (L1 := [some (.ref 27), some (.int x1), some (.int x2), some (.int x3), some (.int q3.1)]) (J1 := []) (st1 := []) (w1 := ((mkC ra rb 1 re rf rg q3.2).set 34 (.inl (0, 7, upd (q3.2.2.1 34) (x3).toNatClampNeg ((sA q3.2 34 x3) + ci_1))))) (fun _ _ => rfl) h (fun h => ?_)
              rw [mkC_A34]
              refine bfr_run 1 81 [some (.ref 27), some (.int x1), some (.int x2), some (.int x3), some (.int q3.1)] [] [] (mkC ra rb 1 re rf rg (uA q3.2 34 x3 ((sA q3.2 34 x3) + ci_1))) (fun _ _ => rfl) ?_
              exact k_cGoing_ruleHour_b81 n d _ q (ih) _ _ _ _ _ _ _ _ _ _ h
          · refine bfr_run 1 81 [some (.ref 27), some (.int x1), some (.int x2), some (.int x3), o4] [] [] (mkC ra rb 1 re rf rg q2.2) (fun _ _ => rfl) ?_
            exact k_cGoing_ruleHour_b81 n d _ q (ih) _ _ _ _ _ _ _ _ _ _ h
set_option maxRecDepth 100000 in
theorem k_cGoing_ruleHour (n d : Nat) (q : bS) (x1 : Int32) (ra : Nat) (rb : Nat) (re : Nat) (rf : Value) (rg : Value) (σ : bS) (h : cGoing_ruleHour n x1 σ = some q) : bfr MT (d + 5) M_X1_ruleHour 0 [some (.ref 27), some (.int x1), none, none, none] [] [] (mkC ra rb 1 re rf rg σ) (none, mkC ra rb 1 re rf rg q) := by
  unfold cGoing_ruleHour at h
  refine bfr_run 4 4 [some (.ref 27), some (.int x1), some (.int ci_0), some (.int ci_0), none] [] [] (mkC ra rb 1 re rf rg σ) (fun _ _ => rfl) ?_
  exact k_cGoing_ruleHour_b4 n d q _ _ _ _ _ _ _ _ _ _ _ h
set_option maxRecDepth 100000 in
theorem k_cTop_rule_b30 (n d : Nat) (q : (Int32 × bS)) : ∀ (k : Nat) (x1 : Int32) (x2 : Int32) (ra : Nat) (rb : Nat) (re : Nat) (rf : Value) (rg : Value) (σ : bS), cTop_rule_b30 n k x1 x2 σ = some q → bfr MT (d + 6) M_X11_rule 30 [some (.ref 0), some (.int x1), some (.int x2)] [] [] (mkC ra rb 1 re rf rg σ) (some (.int q.1), mkC ra rb 1 re rf rg q.2) := by
  intro k
  induction k with
  | zero => intro x1 x2 ra rb re rf rg σ h; exact bno h
  | succ k ih =>
    intro x1 x2 ra rb re rf rg σ h
    unfold cTop_rule_b30 at h
    refine bfr_br 3 (pc1 := 49) (L1 := [some (.ref 0), some (.int x1), some (.int x2)]) (J1 := []) (st1 := []) (w1 := mkC ra rb 1 re rf rg σ) (pc2 := 35) (L2 := [some (.ref 0), some (.int x1), some (.int x2)]) (J2 := []) (st2 := []) (w2 := mkC ra rb 1 re rf rg σ) (fun _ _ => rfl) h (fun h => ?_) (fun h => ?_)
    · cases h
      exact bfr_ret 4 (fun _ _ => rfl)
    · refine bfr_call 4 (d1 := d + 5) (M1 := M_X1_ruleHour) (vs := [(.ref 27), (.int ci_m1)]) (w1 := mkC ra rb 1 re rf rg σ) (pc2 := 43) (L2 := [some (.ref 0), some (.int x1), some (.int x2)]) (J2 := []) (rest := []) (fun _ => none) (fun a => mkC ra rb 1 re rf rg a) (fun _ _ => rfl) h (fun a ha => k_cGoing_ruleHour n (d + 0) _ _ _ _ _ _ _ _ ha) (fun q1 _ h => ?_)
      refine bfr_run 1 46 [some (.ref 0), some (.int x1), some (.int (x2 + ci_1))] [] [] (mkC ra rb 1 re rf rg q1) (fun _ _ => rfl) ?_
      refine bfr_run 1 30 [some (.ref 0), some (.int x1), some (.int (x2 + ci_1))] [] [] (mkC ra rb 1 re rf rg q1) (fun _ _ => rfl) ?_
      exact ih _ _ _ _ _ _ _ _ h
set_option maxRecDepth 100000 in
theorem k_cTop_rule_b28 (n d : Nat) (q : (Int32 × bS)) (x1 : Int32) (o2 : Option Value) (ra : Nat) (rb : Nat) (re : Nat) (rf : Value) (rg : Value) (σ : bS) (h : cTop_rule_b28 n x1 σ = some q) : bfr MT (d + 6) M_X11_rule 28 [some (.ref 0), some (.int x1), o2] [] [] (mkC ra rb 1 re rf rg σ) (some (.int q.1), mkC ra rb 1 re rf rg q.2) := by
  unfold cTop_rule_b28 at h
  refine bfr_run 2 30 [some (.ref 0), some (.int x1), some (.int ci_0)] [] [] (mkC ra rb 1 re rf rg σ) (fun _ _ => rfl) ?_
  exact k_cTop_rule_b30 n d q _ _ _ _ _ _ _ _ _ h
set_option maxRecDepth 100000 in
theorem k_cTop_rule_b11 (n d : Nat) (q : (Int32 × bS)) (o0 : Option Value) (o1 : Option Value) (o2 : Option Value) (ra : Nat) (rb : Nat) (re : Nat) (rf : Value) (rg : Value) (σ : bS) (h : cTop_rule_b11 n σ = some q) : bfr MT (d + 6) M_X11_rule 11 [o0, o1, o2] [] [] (mkC ra rb 1 re rf rg σ) (some (.int q.1), mkC ra rb 1 re rf rg q.2) := by
  unfold cTop_rule_b11 at h
  cases h
  exact bfr_ret 2 (fun _ _ => rfl)
set_option maxRecDepth 100000 in
theorem k_cTop_rule (n d : Nat) (q : (Int32 × bS)) (x1 : Int32) (ra : Nat) (rb : Nat) (re : Nat) (rf : Value) (rg : Value) (σ : bS) (h : cTop_rule n x1 σ = some q) : bfr MT (d + 6) M_X11_rule 0 [some (.ref 0), some (.int x1), none] [] [] (mkC ra rb 1 re rf rg σ) (some (.int q.1), mkC ra rb 1 re rf rg q.2) := by
  unfold cTop_rule at h
  refine bfr_br 2 (pc1 := 11) (L1 := [some (.ref 0), some (.int x1), none]) (J1 := []) (st1 := []) (w1 := mkC ra rb 1 re rf rg σ) (pc2 := 4) (L2 := [some (.ref 0), some (.int x1), none]) (J2 := []) (st2 := []) (w2 := mkC ra rb 1 re rf rg σ) (fun _ _ => rfl) h (fun h => ?_) (fun h => ?_)
  · exact k_cTop_rule_b11 n d q _ _ _ _ _ _ _ _ _ h
  · refine bfr_br 3 (pc1 := 13) (L1 := [some (.ref 0), some (.int x1), none]) (J1 := []) (st1 := []) (w1 := mkC ra rb 1 re rf rg σ) (pc2 := 11) (L2 := [some (.ref 0), some (.int x1), none]) (J2 := []) (st2 := []) (w2 := mkC ra rb 1 re rf rg σ) (fun _ _ => rfl) h (fun h => ?_) (fun h => ?_)
    · refine bfr_br 2 (pc1 := 28) (L1 := [some (.ref 0), some (.int x1), none]) (J1 := []) (st1 := []) (w1 := mkC ra rb 1 re rf rg σ) (pc2 := 17) (L2 := [some (.ref 0), some (.int x1), none]) (J2 := []) (st2 := []) (w2 := mkC ra rb 1 re rf rg σ) (fun _ _ => rfl) h (fun h => ?_) (fun h => ?_)
      · exact k_cTop_rule_b28 n d q _ _ _ _ _ _ _ _ h
      · refine bfr_call 5 (d1 := d + 5) (M1 := M_X7_keep) (vs := [(.ref 54), (.ref 27)]) (w1 := mkC ra rb 1 re rf rg σ) (pc2 := 28) (L2 := [some (.ref 0), some (.int x1), none]) (J2 := []) (rest := []) (fun _ => none) (fun a => mkC ra rb 1 re rf rg a) (fun _ _ => rfl) h (fun a ha => k_cShelf_keep_27 n (d + 3) _ _ _ _ _ _ _ _ ha) (fun q2 _ h => ?_)
        exact k_cTop_rule_b28 n d q _ _ _ _ _ _ _ _ h
    · exact k_cTop_rule_b11 n d q _ _ _ _ _ _ _ _ _ h
set_option maxRecDepth 100000 in
theorem k_cGoing_takeOutOf_55 (n d : Nat) (q : bS) (x2 : Int32) (ra : Nat) (rb : Nat) (rc : Nat) (re : Nat) (rf : Value) (rg : Value) (σ : bS) (h : cGoing_takeOutOf_55 n x2 σ = some q) : bfr MT (d + 1) M_X1_takeOutOf 0 [some (.ref 27), some (.ref 55), some (.int x2), none] [] [] (mkC ra rb rc re rf rg σ) (none, mkC ra rb rc re rf rg q) := by
  unfold cGoing_takeOutOf_55 at h
  refine bfr_in (i := x2) (m := 1978) 4 (pc1 := 4) (L1 := [some (.ref 27), some (.ref 55), some (.int x2), none]) (J1 := []) (st1 := [(.int (sA σ 55 x2)), (.ref 27)]) (w1 := mkC ra rb rc re rf rg σ) (fun _ _ => rfl) h (fun h => ?_)
  refine bfr_run 1 7 [some (.ref 27), some (.ref 55), some (.int x2), none] [] [] ((mkC ra rb rc re rf rg σ).set 27 (.inr (.inr (1, (mkC_27  ra rb rc re rf rg σ).set 2 (.int (sA σ 55 x2)))))) (fun _ _ => rfl) ?_
  rw [mkC_I27_2]
  refine bfr_in (i := (x2 + ci_1)) (m := 1978) 6 (pc1 := 13) (L1 := [some (.ref 27), some (.ref 55), some (.int x2), none]) (J1 := []) (st1 := [(.int (sA (uI σ 27 2 (sA σ 55 x2)) 55 (x2 + ci_1))), (.ref 27)]) (w1 := mkC ra rb rc re rf rg (uI σ 27 2 (sA σ 55 x2))) (fun _ _ => rfl) h (fun h => ?_)
  refine bfr_run 1 16 [some (.ref 27), some (.ref 55), some (.int x2), none] [] [] ((mkC ra rb rc re rf rg (uI σ 27 2 (sA σ 55 x2))).set 27 (.inr (.inr (1, (mkC_27  ra rb rc re rf rg (uI σ 27 2 (sA σ 55 x2))).set 3 (.int (sA (uI σ 27 2 (sA σ 55 x2)) 55 (x2 + ci_1))))))) (fun _ _ => rfl) ?_
  rw [mkC_I27_3]
  refine bfr_in (i := (x2 + ci_2)) (m := 1978) 6 (pc1 := 22) (L1 := [some (.ref 27), some (.ref 55), some (.int x2), none]) (J1 := []) (st1 := [(.int (sA (uI (uI σ 27 2 (sA σ 55 x2)) 27 3 (sA (uI σ 27 2 (sA σ 55 x2)) 55 (x2 + ci_1))) 55 (x2 + ci_2))), (.ref 27)]) (w1 := mkC ra rb rc re rf rg (uI (uI σ 27 2 (sA σ 55 x2)) 27 3 (sA (uI σ 27 2 (sA σ 55 x2)) 55 (x2 + ci_1)))) (fun _ _ => rfl) h (fun h => ?_)
  refine bfr_run 1 25 [some (.ref 27), some (.ref 55), some (.int x2), none] [] [] ((mkC ra rb rc re rf rg (uI (uI σ 27 2 (sA σ 55 x2)) 27 3 (sA (uI σ 27 2 (sA σ 55 x2)) 55 (x2 + ci_1)))).set 27 (.inr (.inr (1, (mkC_27  ra rb rc re rf rg (uI (uI σ 27 2 (sA σ 55 x2)) 27 3 (sA (uI σ 27 2 (sA σ 55 x2)) 55 (x2 + ci_1)))).set 4 (.int (sA (uI (uI σ 27 2 (sA σ 55 x2)) 27 3 (sA (uI σ 27 2 (sA σ 55 x2)) 55 (x2 + ci_1))) 55 (x2 + ci_2))))))) (fun _ _ => rfl) ?_
  rw [mkC_I27_4]
  refine bfr_run 6 31 [some (.ref 27), some (.ref 55), some (.int x2), some (.int (x2 + ci_3))] [] [(.int (x2 + ci_3)), (.ref 55)] (mkC ra rb rc re rf rg (uI (uI (uI σ 27 2 (sA σ 55 x2)) 27 3 (sA (uI σ 27 2 (sA σ 55 x2)) 55 (x2 + ci_1))) 27 4 (sA (uI (uI σ 27 2 (sA σ 55 x2)) 27 3 (sA (uI σ 27 2 (sA σ 55 x2)) 55 (x2 + ci_1))) 55 (x2 + ci_2)))) (fun _ _ => rfl) ?_
  refine bfr_chk 5 (pc1 := 40) (L1 := [some (.ref 27), some (.ref 55), some (.int x2), some (.int (x2 + ci_3))]) (J1 := []) (st1 := []) (w1 := ((mkC ra rb rc re rf rg (uI (uI (uI σ 27 2 (sA σ 55 x2)) 27 3 (sA (uI σ 27 2 (sA σ 55 x2)) 55 (x2 + ci_1))) 27 4 (sA (uI (uI σ 27 2 (sA σ 55 x2)) 27 3 (sA (uI σ 27 2 (sA σ 55 x2)) 55 (x2 + ci_1))) 55 (x2 + ci_2)))).set 28 (.inl (0, 4, va_cpy ((uI (uI (uI σ 27 2 (sA σ 55 x2)) 27 3 (sA (uI σ 27 2 (sA σ 55 x2)) 55 (x2 + ci_1))) 27 4 (sA (uI (uI σ 27 2 (sA σ 55 x2)) 27 3 (sA (uI σ 27 2 (sA σ 55 x2)) 55 (x2 + ci_1))) 55 (x2 + ci_2))).2.1 55) ((uI (uI (uI σ 27 2 (sA σ 55 x2)) 27 3 (sA (uI σ 27 2 (sA σ 55 x2)) 55 (x2 + ci_1))) 27 4 (sA (uI (uI σ 27 2 (sA σ 55 x2)) 27 3 (sA (uI σ 27 2 (sA σ 55 x2)) 55 (x2 + ci_1))) 55 (x2 + ci_2))).2.1 28) ((x2 + ci_3)).toNatClampNeg (ci_0).toNatClampNeg (ci_4).toNatClampNeg)))) (fun _ _ => rfl) h (fun h => ?_)
  rw [mkC_C28]
  refine bfr_run 6 48 [some (.ref 27), some (.ref 55), some (.int x2), some (.int (x2 + ci_3))] [] [(.ref 29), (.int ((x2 + ci_3) + ci_4)), (.ref 55)] (mkC ra rb rc re rf rg (uC (uI (uI (uI σ 27 2 (sA σ 55 x2)) 27 3 (sA (uI σ 27 2 (sA σ 55 x2)) 55 (x2 + ci_1))) 27 4 (sA (uI (uI σ 27 2 (sA σ 55 x2)) 27 3 (sA (uI σ 27 2 (sA σ 55 x2)) 55 (x2 + ci_1))) 55 (x2 + ci_2))) 55 28 (x2 + ci_3) ci_0 ci_4)) (fun _ _ => rfl) ?_
  refine bfr_chk 3 (pc1 := 53) (L1 := [some (.ref 27), some (.ref 55), some (.int x2), some (.int (x2 + ci_3))]) (J1 := []) (st1 := []) (w1 := ((mkC ra rb rc re rf rg (uC (uI (uI (uI σ 27 2 (sA σ 55 x2)) 27 3 (sA (uI σ 27 2 (sA σ 55 x2)) 55 (x2 + ci_1))) 27 4 (sA (uI (uI σ 27 2 (sA σ 55 x2)) 27 3 (sA (uI σ 27 2 (sA σ 55 x2)) 55 (x2 + ci_1))) 55 (x2 + ci_2))) 55 28 (x2 + ci_3) ci_0 ci_4)).set 29 (.inl (0, 4, va_cpy ((uC (uI (uI (uI σ 27 2 (sA σ 55 x2)) 27 3 (sA (uI σ 27 2 (sA σ 55 x2)) 55 (x2 + ci_1))) 27 4 (sA (uI (uI σ 27 2 (sA σ 55 x2)) 27 3 (sA (uI σ 27 2 (sA σ 55 x2)) 55 (x2 + ci_1))) 55 (x2 + ci_2))) 55 28 (x2 + ci_3) ci_0 ci_4).2.1 55) ((uC (uI (uI (uI σ 27 2 (sA σ 55 x2)) 27 3 (sA (uI σ 27 2 (sA σ 55 x2)) 55 (x2 + ci_1))) 27 4 (sA (uI (uI σ 27 2 (sA σ 55 x2)) 27 3 (sA (uI σ 27 2 (sA σ 55 x2)) 55 (x2 + ci_1))) 55 (x2 + ci_2))) 55 28 (x2 + ci_3) ci_0 ci_4).2.1 29) (((x2 + ci_3) + ci_4)).toNatClampNeg (ci_0).toNatClampNeg (ci_4).toNatClampNeg)))) (fun _ _ => rfl) h (fun h => ?_)
  rw [mkC_C29]
  refine bfr_run 1 56 [some (.ref 27), some (.ref 55), some (.int x2), some (.int ((x2 + ci_3) + ci_8))] [] [] (mkC ra rb rc re rf rg (uC (uC (uI (uI (uI σ 27 2 (sA σ 55 x2)) 27 3 (sA (uI σ 27 2 (sA σ 55 x2)) 55 (x2 + ci_1))) 27 4 (sA (uI (uI σ 27 2 (sA σ 55 x2)) 27 3 (sA (uI σ 27 2 (sA σ 55 x2)) 55 (x2 + ci_1))) 55 (x2 + ci_2))) 55 28 (x2 + ci_3) ci_0 ci_4) 55 29 ((x2 + ci_3) + ci_4) ci_0 ci_4)) (fun _ _ => rfl) ?_
  refine bfr_run 6 65 [some (.ref 27), some (.ref 55), some (.int x2), some (.int ((x2 + ci_3) + ci_8))] [] [(.int cb_7), (.int ci_0), (.ref 30), (.int ((x2 + ci_3) + ci_8)), (.ref 55)] (mkC ra rb rc re rf rg (uC (uC (uI (uI (uI σ 27 2 (sA σ 55 x2)) 27 3 (sA (uI σ 27 2 (sA σ 55 x2)) 55 (x2 + ci_1))) 27 4 (sA (uI (uI σ 27 2 (sA σ 55 x2)) 27 3 (sA (uI σ 27 2 (sA σ 55 x2)) 55 (x2 + ci_1))) 55 (x2 + ci_2))) 55 28 (x2 + ci_3) ci_0 ci_4) 55 29 ((x2 + ci_3) + ci_4) ci_0 ci_4)) (fun _ _ => rfl) ?_
  refine bfr_chk 1 (pc1 := 68) (L1 := [some (.ref 27), some (.ref 55), some (.int x2), some (.int ((x2 + ci_3) + ci_8))]) (J1 := []) (st1 := []) (w1 := ((mkC ra rb rc re rf rg (uC (uC (uI (uI (uI σ 27 2 (sA σ 55 x2)) 27 3 (sA (uI σ 27 2 (sA σ 55 x2)) 55 (x2 + ci_1))) 27 4 (sA (uI (uI σ 27 2 (sA σ 55 x2)) 27 3 (sA (uI σ 27 2 (sA σ 55 x2)) 55 (x2 + ci_1))) 55 (x2 + ci_2))) 55 28 (x2 + ci_3) ci_0 ci_4) 55 29 ((x2 + ci_3) + ci_4) ci_0 ci_4)).set 30 (.inl (0, 7, va_cpy ((uC (uC (uI (uI (uI σ 27 2 (sA σ 55 x2)) 27 3 (sA (uI σ 27 2 (sA σ 55 x2)) 55 (x2 + ci_1))) 27 4 (sA (uI (uI σ 27 2 (sA σ 55 x2)) 27 3 (sA (uI σ 27 2 (sA σ 55 x2)) 55 (x2 + ci_1))) 55 (x2 + ci_2))) 55 28 (x2 + ci_3) ci_0 ci_4) 55 29 ((x2 + ci_3) + ci_4) ci_0 ci_4).2.1 55) ((uC (uC (uI (uI (uI σ 27 2 (sA σ 55 x2)) 27 3 (sA (uI σ 27 2 (sA σ 55 x2)) 55 (x2 + ci_1))) 27 4 (sA (uI (uI σ 27 2 (sA σ 55 x2)) 27 3 (sA (uI σ 27 2 (sA σ 55 x2)) 55 (x2 + ci_1))) 55 (x2 + ci_2))) 55 28 (x2 + ci_3) ci_0 ci_4) 55 29 ((x2 + ci_3) + ci_4) ci_0 ci_4).2.1 30) (((x2 + ci_3) + ci_8)).toNatClampNeg (ci_0).toNatClampNeg (cb_7).toNatClampNeg)))) (fun _ _ => rfl) h (fun h => ?_)
  rw [mkC_C30]
  refine bfr_run 6 77 [some (.ref 27), some (.ref 55), some (.int x2), some (.int ((x2 + ci_3) + ci_8))] [] [(.ref 31), (.int (((x2 + ci_3) + ci_8) + cb_7)), (.ref 55)] (mkC ra rb rc re rf rg (uC (uC (uC (uI (uI (uI σ 27 2 (sA σ 55 x2)) 27 3 (sA (uI σ 27 2 (sA σ 55 x2)) 55 (x2 + ci_1))) 27 4 (sA (uI (uI σ 27 2 (sA σ 55 x2)) 27 3 (sA (uI σ 27 2 (sA σ 55 x2)) 55 (x2 + ci_1))) 55 (x2 + ci_2))) 55 28 (x2 + ci_3) ci_0 ci_4) 55 29 ((x2 + ci_3) + ci_4) ci_0 ci_4) 55 30 ((x2 + ci_3) + ci_8) ci_0 cb_7)) (fun _ _ => rfl) ?_
  refine bfr_chk 3 (pc1 := 83) (L1 := [some (.ref 27), some (.ref 55), some (.int x2), some (.int ((x2 + ci_3) + ci_8))]) (J1 := []) (st1 := []) (w1 := ((mkC ra rb rc re rf rg (uC (uC (uC (uI (uI (uI σ 27 2 (sA σ 55 x2)) 27 3 (sA (uI σ 27 2 (sA σ 55 x2)) 55 (x2 + ci_1))) 27 4 (sA (uI (uI σ 27 2 (sA σ 55 x2)) 27 3 (sA (uI σ 27 2 (sA σ 55 x2)) 55 (x2 + ci_1))) 55 (x2 + ci_2))) 55 28 (x2 + ci_3) ci_0 ci_4) 55 29 ((x2 + ci_3) + ci_4) ci_0 ci_4) 55 30 ((x2 + ci_3) + ci_8) ci_0 cb_7)).set 31 (.inl (0, 7, va_cpy ((uC (uC (uC (uI (uI (uI σ 27 2 (sA σ 55 x2)) 27 3 (sA (uI σ 27 2 (sA σ 55 x2)) 55 (x2 + ci_1))) 27 4 (sA (uI (uI σ 27 2 (sA σ 55 x2)) 27 3 (sA (uI σ 27 2 (sA σ 55 x2)) 55 (x2 + ci_1))) 55 (x2 + ci_2))) 55 28 (x2 + ci_3) ci_0 ci_4) 55 29 ((x2 + ci_3) + ci_4) ci_0 ci_4) 55 30 ((x2 + ci_3) + ci_8) ci_0 cb_7).2.1 55) ((uC (uC (uC (uI (uI (uI σ 27 2 (sA σ 55 x2)) 27 3 (sA (uI σ 27 2 (sA σ 55 x2)) 55 (x2 + ci_1))) 27 4 (sA (uI (uI σ 27 2 (sA σ 55 x2)) 27 3 (sA (uI σ 27 2 (sA σ 55 x2)) 55 (x2 + ci_1))) 55 (x2 + ci_2))) 55 28 (x2 + ci_3) ci_0 ci_4) 55 29 ((x2 + ci_3) + ci_4) ci_0 ci_4) 55 30 ((x2 + ci_3) + ci_8) ci_0 cb_7).2.1 31) ((((x2 + ci_3) + ci_8) + cb_7)).toNatClampNeg (ci_0).toNatClampNeg (cb_7).toNatClampNeg)))) (fun _ _ => rfl) h (fun h => ?_)
  rw [mkC_C31]
  refine bfr_run 6 92 [some (.ref 27), some (.ref 55), some (.int x2), some (.int ((x2 + ci_3) + ci_8))] [] [(.ref 32), (.int (((x2 + ci_3) + ci_8) + cb_14)), (.ref 55)] (mkC ra rb rc re rf rg (uC (uC (uC (uC (uI (uI (uI σ 27 2 (sA σ 55 x2)) 27 3 (sA (uI σ 27 2 (sA σ 55 x2)) 55 (x2 + ci_1))) 27 4 (sA (uI (uI σ 27 2 (sA σ 55 x2)) 27 3 (sA (uI σ 27 2 (sA σ 55 x2)) 55 (x2 + ci_1))) 55 (x2 + ci_2))) 55 28 (x2 + ci_3) ci_0 ci_4) 55 29 ((x2 + ci_3) + ci_4) ci_0 ci_4) 55 30 ((x2 + ci_3) + ci_8) ci_0 cb_7) 55 31 (((x2 + ci_3) + ci_8) + cb_7) ci_0 cb_7)) (fun _ _ => rfl) ?_
  refine bfr_chk 3 (pc1 := 98) (L1 := [some (.ref 27), some (.ref 55), some (.int x2), some (.int ((x2 + ci_3) + ci_8))]) (J1 := []) (st1 := []) (w1 := ((mkC ra rb rc re rf rg (uC (uC (uC (uC (uI (uI (uI σ 27 2 (sA σ 55 x2)) 27 3 (sA (uI σ 27 2 (sA σ 55 x2)) 55 (x2 + ci_1))) 27 4 (sA (uI (uI σ 27 2 (sA σ 55 x2)) 27 3 (sA (uI σ 27 2 (sA σ 55 x2)) 55 (x2 + ci_1))) 55 (x2 + ci_2))) 55 28 (x2 + ci_3) ci_0 ci_4) 55 29 ((x2 + ci_3) + ci_4) ci_0 ci_4) 55 30 ((x2 + ci_3) + ci_8) ci_0 cb_7) 55 31 (((x2 + ci_3) + ci_8) + cb_7) ci_0 cb_7)).set 32 (.inl (0, 7, va_cpy ((uC (uC (uC (uC (uI (uI (uI σ 27 2 (sA σ 55 x2)) 27 3 (sA (uI σ 27 2 (sA σ 55 x2)) 55 (x2 + ci_1))) 27 4 (sA (uI (uI σ 27 2 (sA σ 55 x2)) 27 3 (sA (uI σ 27 2 (sA σ 55 x2)) 55 (x2 + ci_1))) 55 (x2 + ci_2))) 55 28 (x2 + ci_3) ci_0 ci_4) 55 29 ((x2 + ci_3) + ci_4) ci_0 ci_4) 55 30 ((x2 + ci_3) + ci_8) ci_0 cb_7) 55 31 (((x2 + ci_3) + ci_8) + cb_7) ci_0 cb_7).2.1 55) ((uC (uC (uC (uC (uI (uI (uI σ 27 2 (sA σ 55 x2)) 27 3 (sA (uI σ 27 2 (sA σ 55 x2)) 55 (x2 + ci_1))) 27 4 (sA (uI (uI σ 27 2 (sA σ 55 x2)) 27 3 (sA (uI σ 27 2 (sA σ 55 x2)) 55 (x2 + ci_1))) 55 (x2 + ci_2))) 55 28 (x2 + ci_3) ci_0 ci_4) 55 29 ((x2 + ci_3) + ci_4) ci_0 ci_4) 55 30 ((x2 + ci_3) + ci_8) ci_0 cb_7) 55 31 (((x2 + ci_3) + ci_8) + cb_7) ci_0 cb_7).2.1 32) ((((x2 + ci_3) + ci_8) + cb_14)).toNatClampNeg (ci_0).toNatClampNeg (cb_7).toNatClampNeg)))) (fun _ _ => rfl) h (fun h => ?_)
  rw [mkC_C32]
  refine bfr_run 6 107 [some (.ref 27), some (.ref 55), some (.int x2), some (.int ((x2 + ci_3) + ci_8))] [] [(.ref 33), (.int (((x2 + ci_3) + ci_8) + cb_21)), (.ref 55)] (mkC ra rb rc re rf rg (uC (uC (uC (uC (uC (uI (uI (uI σ 27 2 (sA σ 55 x2)) 27 3 (sA (uI σ 27 2 (sA σ 55 x2)) 55 (x2 + ci_1))) 27 4 (sA (uI (uI σ 27 2 (sA σ 55 x2)) 27 3 (sA (uI σ 27 2 (sA σ 55 x2)) 55 (x2 + ci_1))) 55 (x2 + ci_2))) 55 28 (x2 + ci_3) ci_0 ci_4) 55 29 ((x2 + ci_3) + ci_4) ci_0 ci_4) 55 30 ((x2 + ci_3) + ci_8) ci_0 cb_7) 55 31 (((x2 + ci_3) + ci_8) + cb_7) ci_0 cb_7) 55 32 (((x2 + ci_3) + ci_8) + cb_14) ci_0 cb_7)) (fun _ _ => rfl) ?_
  refine bfr_chk 3 (pc1 := 113) (L1 := [some (.ref 27), some (.ref 55), some (.int x2), some (.int ((x2 + ci_3) + ci_8))]) (J1 := []) (st1 := []) (w1 := ((mkC ra rb rc re rf rg (uC (uC (uC (uC (uC (uI (uI (uI σ 27 2 (sA σ 55 x2)) 27 3 (sA (uI σ 27 2 (sA σ 55 x2)) 55 (x2 + ci_1))) 27 4 (sA (uI (uI σ 27 2 (sA σ 55 x2)) 27 3 (sA (uI σ 27 2 (sA σ 55 x2)) 55 (x2 + ci_1))) 55 (x2 + ci_2))) 55 28 (x2 + ci_3) ci_0 ci_4) 55 29 ((x2 + ci_3) + ci_4) ci_0 ci_4) 55 30 ((x2 + ci_3) + ci_8) ci_0 cb_7) 55 31 (((x2 + ci_3) + ci_8) + cb_7) ci_0 cb_7) 55 32 (((x2 + ci_3) + ci_8) + cb_14) ci_0 cb_7)).set 33 (.inl (0, 7, va_cpy ((uC (uC (uC (uC (uC (uI (uI (uI σ 27 2 (sA σ 55 x2)) 27 3 (sA (uI σ 27 2 (sA σ 55 x2)) 55 (x2 + ci_1))) 27 4 (sA (uI (uI σ 27 2 (sA σ 55 x2)) 27 3 (sA (uI σ 27 2 (sA σ 55 x2)) 55 (x2 + ci_1))) 55 (x2 + ci_2))) 55 28 (x2 + ci_3) ci_0 ci_4) 55 29 ((x2 + ci_3) + ci_4) ci_0 ci_4) 55 30 ((x2 + ci_3) + ci_8) ci_0 cb_7) 55 31 (((x2 + ci_3) + ci_8) + cb_7) ci_0 cb_7) 55 32 (((x2 + ci_3) + ci_8) + cb_14) ci_0 cb_7).2.1 55) ((uC (uC (uC (uC (uC (uI (uI (uI σ 27 2 (sA σ 55 x2)) 27 3 (sA (uI σ 27 2 (sA σ 55 x2)) 55 (x2 + ci_1))) 27 4 (sA (uI (uI σ 27 2 (sA σ 55 x2)) 27 3 (sA (uI σ 27 2 (sA σ 55 x2)) 55 (x2 + ci_1))) 55 (x2 + ci_2))) 55 28 (x2 + ci_3) ci_0 ci_4) 55 29 ((x2 + ci_3) + ci_4) ci_0 ci_4) 55 30 ((x2 + ci_3) + ci_8) ci_0 cb_7) 55 31 (((x2 + ci_3) + ci_8) + cb_7) ci_0 cb_7) 55 32 (((x2 + ci_3) + ci_8) + cb_14) ci_0 cb_7).2.1 33) ((((x2 + ci_3) + ci_8) + cb_21)).toNatClampNeg (ci_0).toNatClampNeg (cb_7).toNatClampNeg)))) (fun _ _ => rfl) h (fun h => ?_)
  rw [mkC_C33]
  refine bfr_run 6 122 [some (.ref 27), some (.ref 55), some (.int x2), some (.int ((x2 + ci_3) + ci_8))] [] [(.ref 34), (.int (((x2 + ci_3) + ci_8) + cb_28)), (.ref 55)] (mkC ra rb rc re rf rg (uC (uC (uC (uC (uC (uC (uI (uI (uI σ 27 2 (sA σ 55 x2)) 27 3 (sA (uI σ 27 2 (sA σ 55 x2)) 55 (x2 + ci_1))) 27 4 (sA (uI (uI σ 27 2 (sA σ 55 x2)) 27 3 (sA (uI σ 27 2 (sA σ 55 x2)) 55 (x2 + ci_1))) 55 (x2 + ci_2))) 55 28 (x2 + ci_3) ci_0 ci_4) 55 29 ((x2 + ci_3) + ci_4) ci_0 ci_4) 55 30 ((x2 + ci_3) + ci_8) ci_0 cb_7) 55 31 (((x2 + ci_3) + ci_8) + cb_7) ci_0 cb_7) 55 32 (((x2 + ci_3) + ci_8) + cb_14) ci_0 cb_7) 55 33 (((x2 + ci_3) + ci_8) + cb_21) ci_0 cb_7)) (fun _ _ => rfl) ?_
  refine bfr_chk 3 (pc1 := 128) (L1 := [some (.ref 27), some (.ref 55), some (.int x2), some (.int ((x2 + ci_3) + ci_8))]) (J1 := []) (st1 := []) (w1 := ((mkC ra rb rc re rf rg (uC (uC (uC (uC (uC (uC (uI (uI (uI σ 27 2 (sA σ 55 x2)) 27 3 (sA (uI σ 27 2 (sA σ 55 x2)) 55 (x2 + ci_1))) 27 4 (sA (uI (uI σ 27 2 (sA σ 55 x2)) 27 3 (sA (uI σ 27 2 (sA σ 55 x2)) 55 (x2 + ci_1))) 55 (x2 + ci_2))) 55 28 (x2 + ci_3) ci_0 ci_4) 55 29 ((x2 + ci_3) + ci_4) ci_0 ci_4) 55 30 ((x2 + ci_3) + ci_8) ci_0 cb_7) 55 31 (((x2 + ci_3) + ci_8) + cb_7) ci_0 cb_7) 55 32 (((x2 + ci_3) + ci_8) + cb_14) ci_0 cb_7) 55 33 (((x2 + ci_3) + ci_8) + cb_21) ci_0 cb_7)).set 34 (.inl (0, 7, va_cpy ((uC (uC (uC (uC (uC (uC (uI (uI (uI σ 27 2 (sA σ 55 x2)) 27 3 (sA (uI σ 27 2 (sA σ 55 x2)) 55 (x2 + ci_1))) 27 4 (sA (uI (uI σ 27 2 (sA σ 55 x2)) 27 3 (sA (uI σ 27 2 (sA σ 55 x2)) 55 (x2 + ci_1))) 55 (x2 + ci_2))) 55 28 (x2 + ci_3) ci_0 ci_4) 55 29 ((x2 + ci_3) + ci_4) ci_0 ci_4) 55 30 ((x2 + ci_3) + ci_8) ci_0 cb_7) 55 31 (((x2 + ci_3) + ci_8) + cb_7) ci_0 cb_7) 55 32 (((x2 + ci_3) + ci_8) + cb_14) ci_0 cb_7) 55 33 (((x2 + ci_3) + ci_8) + cb_21) ci_0 cb_7).2.1 55) ((uC (uC (uC (uC (uC (uC (uI (uI (uI σ 27 2 (sA σ 55 x2)) 27 3 (sA (uI σ 27 2 (sA σ 55 x2)) 55 (x2 + ci_1))) 27 4 (sA (uI (uI σ 27 2 (sA σ 55 x2)) 27 3 (sA (uI σ 27 2 (sA σ 55 x2)) 55 (x2 + ci_1))) 55 (x2 + ci_2))) 55 28 (x2 + ci_3) ci_0 ci_4) 55 29 ((x2 + ci_3) + ci_4) ci_0 ci_4) 55 30 ((x2 + ci_3) + ci_8) ci_0 cb_7) 55 31 (((x2 + ci_3) + ci_8) + cb_7) ci_0 cb_7) 55 32 (((x2 + ci_3) + ci_8) + cb_14) ci_0 cb_7) 55 33 (((x2 + ci_3) + ci_8) + cb_21) ci_0 cb_7).2.1 34) ((((x2 + ci_3) + ci_8) + cb_28)).toNatClampNeg (ci_0).toNatClampNeg (cb_7).toNatClampNeg)))) (fun _ _ => rfl) h (fun h => ?_)
  rw [mkC_C34]
  cases h
  exact bfr_ret 1 (fun _ _ => rfl)
set_option maxRecDepth 100000 in
theorem k_cShelf_takeBack_27_b29 (n d : Nat) (q : (Int32 × bS)) (s1 : Int32) (ra : Nat) (rb : Nat) (rc : Nat) (re : Nat) (rf : Value) (rg : Value) (σ : bS) (h : cShelf_takeBack_27_b29 n s1 σ = some q) : bfr MT (d + 2) M_X7_takeBack 29 [some (.ref 54), some (.ref 27)] [] [(.int s1), (.ref 54)] (mkC ra rb rc re rf rg σ) (some (.int q.1), mkC ra rb rc re rf rg q.2) := by
  unfold cShelf_takeBack_27_b29 at h
  refine bfr_chk 2 (pc1 := 32) (L1 := [some (.ref 54), some (.ref 27)]) (J1 := []) (st1 := [(.int (brem s1 cb_40)), (.ref 54)]) (w1 := mkC ra rb rc re rf rg σ) (fun _ _ => rfl) h (fun h => ?_)
  refine bfr_run 1 35 [some (.ref 54), some (.ref 27)] [] [] ((mkC ra rb rc re rf rg σ).set 54 (.inr (.inr (7, (mkC_54  ra rb rc re rf rg σ).set 1 (.int (brem s1 cb_40)))))) (fun _ _ => rfl) ?_
  rw [mkC_I54_1]
  refine bfr_run 6 46 [some (.ref 54), some (.ref 27)] [] [(.int cb_46), (.int (sI (uI σ 54 1 (brem s1 cb_40)) 54 1)), (.ref 55), (.ref 27)] (mkC ra rb rc re rf rg (uI σ 54 1 (brem s1 cb_40))) (fun _ _ => rfl) ?_
  refine bfr_call 2 (d1 := d + 1) (M1 := M_X1_takeOutOf) (vs := [(.ref 27), (.ref 55), (.int ((sI (uI σ 54 1 (brem s1 cb_40)) 54 1) * cb_46))]) (w1 := mkC ra rb rc re rf rg (uI σ 54 1 (brem s1 cb_40))) (pc2 := 50) (L2 := [some (.ref 54), some (.ref 27)]) (J2 := []) (rest := []) (fun _ => none) (fun a => mkC ra rb rc re rf rg a) (fun _ _ => rfl) h (fun a ha => k_cGoing_takeOutOf_55 n (d + 0) _ _ _ _ _ _ _ _ _ ha) (fun q1 _ h => ?_)
  exact bfr_bz (mk := mkC ra rb rc re rf rg) 2 (fun _ _ => rfl) h
set_option maxRecDepth 100000 in
theorem k_cShelf_takeBack_27_b16 (n d : Nat) (q : (Int32 × bS)) (s1 : Int32) (ra : Nat) (rb : Nat) (rc : Nat) (re : Nat) (rf : Value) (rg : Value) (σ : bS) (h : cShelf_takeBack_27_b16 n s1 σ = some q) : bfr MT (d + 2) M_X7_takeBack 16 [some (.ref 54), some (.ref 27)] [] [(.int s1), (.ref 54)] (mkC ra rb rc re rf rg σ) (some (.int q.1), mkC ra rb rc re rf rg q.2) := by
  unfold cShelf_takeBack_27_b16 at h
  refine bfr_run 1 19 [some (.ref 54), some (.ref 27)] [] [] ((mkC ra rb rc re rf rg σ).set 54 (.inr (.inr (7, (mkC_54  ra rb rc re rf rg σ).set 2 (.int s1))))) (fun _ _ => rfl) ?_
  rw [mkC_I54_2]
  refine bfr_run 6 28 [some (.ref 54), some (.ref 27)] [] [(.int ci_1), (.int ((sI (uI σ 54 2 s1) 54 1) + cb_40)), (.ref 54)] (mkC ra rb rc re rf rg (uI σ 54 2 s1)) (fun _ _ => rfl) ?_
  refine bfr_run 1 29 [some (.ref 54), some (.ref 27)] [] [(.int (((sI (uI σ 54 2 s1) 54 1) + cb_40) - ci_1)), (.ref 54)] (mkC ra rb rc re rf rg (uI σ 54 2 s1)) (fun _ _ => rfl) ?_
  exact k_cShelf_takeBack_27_b29 n d q _ _ _ _ _ _ _ _ h
set_option maxRecDepth 100000 in
theorem k_cShelf_takeBack_27 (n d : Nat) (q : (Int32 × bS)) (ra : Nat) (rb : Nat) (rc : Nat) (re : Nat) (rf : Value) (rg : Value) (σ : bS) (h : cShelf_takeBack_27 n σ = some q) : bfr MT (d + 2) M_X7_takeBack 0 [some (.ref 54), some (.ref 27)] [] [] (mkC ra rb rc re rf rg σ) (some (.int q.1), mkC ra rb rc re rf rg q.2) := by
  unfold cShelf_takeBack_27 at h
  refine bfr_br 3 (pc1 := 7) (L1 := [some (.ref 54), some (.ref 27)]) (J1 := []) (st1 := []) (w1 := mkC ra rb rc re rf rg σ) (pc2 := 9) (L2 := [some (.ref 54), some (.ref 27)]) (J2 := []) (st2 := []) (w2 := mkC ra rb rc re rf rg σ) (fun _ _ => rfl) h (fun h => ?_) (fun h => ?_)
  · exact bfr_bz (mk := mkC ra rb rc re rf rg) 2 (fun _ _ => rfl) h
  · refine bfr_run 5 16 [some (.ref 54), some (.ref 27)] [] [(.int ((sI σ 54 2) - ci_1)), (.ref 54)] (mkC ra rb rc re rf rg σ) (fun _ _ => rfl) ?_
    exact k_cShelf_takeBack_27_b16 n d q _ _ _ _ _ _ _ _ h
set_option maxRecDepth 100000 in
theorem k_cTop_undo (n d : Nat) (q : (Int32 × bS)) (ra : Nat) (rb : Nat) (rc : Nat) (re : Nat) (rf : Value) (rg : Value) (σ : bS) (h : cTop_undo n σ = some q) : bfr MT (d + 3) M_X11_undo 0 [some (.ref 0)] [] [] (mkC ra rb rc re rf rg σ) (some (.int q.1), mkC ra rb rc re rf rg q.2) := by
  unfold cTop_undo at h
  refine bfr_call 5 (d1 := d + 2) (M1 := M_X7_takeBack) (vs := [(.ref 54), (.ref 27)]) (w1 := mkC ra rb rc re rf rg σ) (pc2 := 11) (L2 := [some (.ref 0)]) (J2 := []) (rest := []) (fun a => some (.int a.1)) (fun a => mkC ra rb rc re rf rg a.2) (fun _ _ => rfl) h (fun a ha => k_cShelf_takeBack_27 n (d + 0) _ _ _ _ _ _ _ _ ha) (fun q1 _ h => ?_)
  exact bfr_bz (mk := mkC ra rb rc re rf rg) 1 (fun _ _ => rfl) h
set_option maxRecDepth 100000 in
theorem k_cGoing_homeBits_b29 (n d : Nat) (r4 : Int32 → Int32 → bS → Option (Int32 × bS)) (q : (Int32 × bS)) (hr4 : ∀ (x1 : Int32) (x2 : Int32) (ra : Nat) (rb : Nat) (re : Nat) (rf : Value) (rg : Value) (σ : bS), r4 x1 x2 σ = some q → bfr MT (d + 1) M_X1_homeBits 4 [some (.ref 27), some (.int x1), some (.int x2)] [] [] (mkC ra rb 1 re rf rg σ) (some (.int q.1), mkC ra rb 1 re rf rg q.2)) (x1 : Int32) (x2 : Int32) (ra : Nat) (rb : Nat) (re : Nat) (rf : Value) (rg : Value) (σ : bS) (h : cGoing_homeBits_b29 n r4 x1 x2 σ = some q) : bfr MT (d + 1) M_X1_homeBits 29 [some (.ref 27), some (.int x1), some (.int x2)] [] [] (mkC ra rb 1 re rf rg σ) (some (.int q.1), mkC ra rb 1 re rf rg q.2) := by
  unfold cGoing_homeBits_b29 at h
  refine bfr_run 1 32 [some (.ref 27), some (.int x1), some (.int (x2 + ci_1))] [] [] (mkC ra rb 1 re rf rg σ) (fun _ _ => rfl) ?_
  refine bfr_run 1 4 [some (.ref 27), some (.int x1), some (.int (x2 + ci_1))] [] [] (mkC ra rb 1 re rf rg σ) (fun _ _ => rfl) ?_
  exact hr4 _ _ _ _ _ _ _ _ h
set_option maxRecDepth 100000 in
theorem k_cGoing_homeBits_b4 (n d : Nat) (q : (Int32 × bS)) : ∀ (k : Nat) (x1 : Int32) (x2 : Int32) (ra : Nat) (rb : Nat) (re : Nat) (rf : Value) (rg : Value) (σ : bS), cGoing_homeBits_b4 n k x1 x2 σ = some q → bfr MT (d + 1) M_X1_homeBits 4 [some (.ref 27), some (.int x1), some (.int x2)] [] [] (mkC ra rb 1 re rf rg σ) (some (.int q.1), mkC ra rb 1 re rf rg q.2) := by
  intro k
  induction k with
  | zero => intro x1 x2 ra rb re rf rg σ h; exact bno h
  | succ k ih =>
    intro x1 x2 ra rb re rf rg σ h
    unfold cGoing_homeBits_b4 at h
    refine bfr_br 5 (pc1 := 35) (L1 := [some (.ref 27), some (.int x1), some (.int x2)]) (J1 := []) (st1 := []) (w1 := mkC ra rb 1 re rf rg σ) (pc2 := 15) (L2 := [some (.ref 27), some (.int x1), some (.int x2)]) (J2 := []) (st2 := []) (w2 := mkC ra rb 1 re rf rg σ) (fun _ _ => rfl) h (fun h => ?_) (fun h => ?_)
    · cases h
      exact bfr_ret 2 (fun _ _ => rfl)
    · refine bfr_call 3 (d1 := d + 0) (M1 := M_X1_isHome) (vs := [(.ref 27), (.int x2)]) (w1 := mkC ra rb 1 re rf rg σ) (pc2 := 20) (L2 := [some (.ref 27), some (.int x1), some (.int x2)]) (J2 := []) (rest := []) (fun a => some (.int a.1)) (fun a => mkC ra rb 1 re rf rg a.2) (fun _ _ => rfl) h (fun a ha => k_cGoing_isHome n (d + 0) _ _ _ _ _ _ _ _ ha) (fun q1 _ h => ?_)
      refine bfr_br 1 (pc1 := 29) (L1 := [some (.ref 27), some (.int x1), some (.int x2)]) (J1 := []) (st1 := []) (w1 := mkC ra rb 1 re rf rg q1.2) (pc2 := 23) (L2 := [some (.ref 27), some (.int x1), some (.int x2)]) (J2 := []) (st2 := []) (w2 := mkC ra rb 1 re rf rg q1.2) (fun _ _ => rfl) h (fun h => ?_) (fun h => ?_)
      · exact k_cGoing_homeBits_b29 n d _ q (ih) _ _ _ _ _ _ _ _ h
      · refine bfr_run 6 29 [some (.ref 27), some (.int (x1 ||| (ci_1 <<< (x2 &&& 31)))), some (.int x2)] [] [] (mkC ra rb 1 re rf rg q1.2) (fun _ _ => rfl) ?_
        exact k_cGoing_homeBits_b29 n d _ q (ih) _ _ _ _ _ _ _ _ h
set_option maxRecDepth 100000 in
theorem k_cGoing_homeBits (n d : Nat) (q : (Int32 × bS)) (ra : Nat) (rb : Nat) (re : Nat) (rf : Value) (rg : Value) (σ : bS) (h : cGoing_homeBits n σ = some q) : bfr MT (d + 1) M_X1_homeBits 0 [some (.ref 27), none, none] [] [] (mkC ra rb 1 re rf rg σ) (some (.int q.1), mkC ra rb 1 re rf rg q.2) := by
  unfold cGoing_homeBits at h
  refine bfr_run 4 4 [some (.ref 27), some (.int ci_0), some (.int ci_0)] [] [] (mkC ra rb 1 re rf rg σ) (fun _ _ => rfl) ?_
  exact k_cGoing_homeBits_b4 n d q _ _ _ _ _ _ _ _ _ h
set_option maxRecDepth 100000 in
theorem k_cTop_homes (n d : Nat) (q : (Int32 × bS)) (ra : Nat) (rb : Nat) (re : Nat) (rf : Value) (rg : Value) (σ : bS) (h : cTop_homes n σ = some q) : bfr MT (d + 2) M_X11_homes 0 [some (.ref 0)] [] [] (mkC ra rb 1 re rf rg σ) (some (.int q.1), mkC ra rb 1 re rf rg q.2) := by
  unfold cTop_homes at h
  refine bfr_call 3 (d1 := d + 1) (M1 := M_X1_homeBits) (vs := [(.ref 27)]) (w1 := mkC ra rb 1 re rf rg σ) (pc2 := 7) (L2 := [some (.ref 0)]) (J2 := []) (rest := []) (fun a => some (.int a.1)) (fun a => mkC ra rb 1 re rf rg a.2) (fun _ _ => rfl) h (fun a ha => k_cGoing_homeBits n (d + 0) _ _ _ _ _ _ _ ha) (fun q1 _ h => ?_)
  cases h
  exact bfr_ret 1 (fun _ _ => rfl)
set_option maxRecDepth 100000 in
theorem k_cTop_isFar_b16 (n d : Nat) (q : (Int32 × bS)) (s0 : Int32) (o0 : Option Value) (ra : Nat) (rb : Nat) (rc : Nat) (re : Nat) (rf : Value) (rg : Value) (σ : bS) (h : cTop_isFar_b16 n s0 σ = some q) : bfr MT (d + 0) M_X11_isFar 16 [o0] [] [(.int s0)] (mkC ra rb rc re rf rg σ) (some (.int q.1), mkC ra rb rc re rf rg q.2) := by
  unfold cTop_isFar_b16 at h
  exact bfr_bz (mk := mkC ra rb rc re rf rg) 1 (fun _ _ => rfl) h
set_option maxRecDepth 100000 in
theorem k_cTop_isFar_b15 (n d : Nat) (q : (Int32 × bS)) (o0 : Option Value) (ra : Nat) (rb : Nat) (rc : Nat) (re : Nat) (rf : Value) (rg : Value) (σ : bS) (h : cTop_isFar_b15 n σ = some q) : bfr MT (d + 0) M_X11_isFar 15 [o0] [] [] (mkC ra rb rc re rf rg σ) (some (.int q.1), mkC ra rb rc re rf rg q.2) := by
  unfold cTop_isFar_b15 at h
  refine bfr_run 1 16 [o0] [] [(.int ci_0)] (mkC ra rb rc re rf rg σ) (fun _ _ => rfl) ?_
  exact k_cTop_isFar_b16 n d q _ _ _ _ _ _ _ _ _ h
set_option maxRecDepth 100000 in
theorem k_cTop_isFar (n d : Nat) (q : (Int32 × bS)) (x0 : Int32) (ra : Nat) (rb : Nat) (rc : Nat) (re : Nat) (rf : Value) (rg : Value) (σ : bS) (h : cTop_isFar n x0 σ = some q) : bfr MT (d + 0) M_X11_isFar 0 [some (.int x0)] [] [] (mkC ra rb rc re rf rg σ) (some (.int q.1), mkC ra rb rc re rf rg q.2) := by
  unfold cTop_isFar at h
  refine bfr_br 2 (pc1 := 15) (L1 := [some (.int x0)]) (J1 := []) (st1 := []) (w1 := mkC ra rb rc re rf rg σ) (pc2 := 4) (L2 := [some (.int x0)]) (J2 := []) (st2 := []) (w2 := mkC ra rb rc re rf rg σ) (fun _ _ => rfl) h (fun h => ?_) (fun h => ?_)
  · exact k_cTop_isFar_b15 n d q _ _ _ _ _ _ _ _ h
  · refine bfr_br 3 (pc1 := 15) (L1 := [some (.int x0)]) (J1 := []) (st1 := []) (w1 := mkC ra rb rc re rf rg σ) (pc2 := 11) (L2 := [some (.int x0)]) (J2 := []) (st2 := []) (w2 := mkC ra rb rc re rf rg σ) (fun _ _ => rfl) h (fun h => ?_) (fun h => ?_)
    · exact k_cTop_isFar_b15 n d q _ _ _ _ _ _ _ _ h
    · refine bfr_run 2 16 [some (.int x0)] [] [(.int ci_1)] (mkC ra rb rc re rf rg σ) (fun _ _ => rfl) ?_
      exact k_cTop_isFar_b16 n d q _ _ _ _ _ _ _ _ _ h
set_option maxRecDepth 100000 in
theorem k_cGoing_isHome_d_b23 (n d : Nat) (q : (Int32 × bS)) (s0 : Int32) (o0 : Option Value) (o1 : Option Value) (ra : Nat) (rb : Nat) (rc : Nat) (rf : Value) (rg : Value) (σ : bS) (h : cGoing_isHome_d_b23 n s0 σ = some q) : bfr MT (d + 0) M_X1_isHome 23 [o0, o1] [] [(.int s0)] (mkC ra rb rc 1 rf rg σ) (some (.int q.1), mkC ra rb rc 1 rf rg q.2) := by
  unfold cGoing_isHome_d_b23 at h
  exact bfr_bz (mk := mkC ra rb rc 1 rf rg) 1 (fun _ _ => rfl) h
set_option maxRecDepth 100000 in
theorem k_cGoing_isHome_d (n d : Nat) (q : (Int32 × bS)) (x1 : Int32) (ra : Nat) (rb : Nat) (rc : Nat) (rf : Value) (rg : Value) (σ : bS) (h : cGoing_isHome_d n x1 σ = some q) : bfr MT (d + 0) M_X1_isHome 0 [some (.ref 35), some (.int x1)] [] [] (mkC ra rb rc 1 rf rg σ) (some (.int q.1), mkC ra rb rc 1 rf rg q.2) := by
  unfold cGoing_isHome_d at h
  refine bfr_in (i := x1) (m := 7) 4 (pc1 := 6) (L1 := [some (.ref 35), some (.int x1)]) (J1 := []) (st1 := [(.int (sA σ 38 x1))]) (w1 := mkC ra rb rc 1 rf rg σ) (fun _ _ => rfl) h (fun h => ?_)
  refine bfr_in (i := x1) (m := 7) 5 (pc1 := 15) (L1 := [some (.ref 35), some (.int x1)]) (J1 := []) (st1 := [(.int (sA σ 6 x1)), (.int (sA σ 38 x1))]) (w1 := mkC ra rb rc 1 rf rg σ) (fun _ _ => rfl) h (fun h => ?_)
  refine bfr_br 1 (pc1 := 18) (L1 := [some (.ref 35), some (.int x1)]) (J1 := []) (st1 := []) (w1 := mkC ra rb rc 1 rf rg σ) (pc2 := 22) (L2 := [some (.ref 35), some (.int x1)]) (J2 := []) (st2 := []) (w2 := mkC ra rb rc 1 rf rg σ) (fun _ _ => rfl) h (fun h => ?_) (fun h => ?_)
  · refine bfr_run 2 23 [some (.ref 35), some (.int x1)] [] [(.int ci_1)] (mkC ra rb rc 1 rf rg σ) (fun _ _ => rfl) ?_
    exact k_cGoing_isHome_d_b23 n d q _ _ _ _ _ _ _ _ _ h
  · refine bfr_run 1 23 [some (.ref 35), some (.int x1)] [] [(.int ci_0)] (mkC ra rb rc 1 rf rg σ) (fun _ _ => rfl) ?_
    exact k_cGoing_isHome_d_b23 n d q _ _ _ _ _ _ _ _ _ h
set_option maxRecDepth 100000 in
theorem k_cGoing_wouldGo_d_b52 (n d : Nat) (q : (Int32 × bS)) (s0 : Int32) (o0 : Option Value) (o1 : Option Value) (o2 : Option Value) (ra : Nat) (rb : Nat) (rc : Nat) (rf : Value) (rg : Value) (σ : bS) (h : cGoing_wouldGo_d_b52 n s0 σ = some q) : bfr MT (d + 2) M_X1_wouldGo 52 [o0, o1, o2] [] [(.int s0)] (mkC ra rb rc 1 rf rg σ) (some (.int q.1), mkC ra rb rc 1 rf rg q.2) := by
  unfold cGoing_wouldGo_d_b52 at h
  exact bfr_bz (mk := mkC ra rb rc 1 rf rg) 1 (fun _ _ => rfl) h
set_option maxRecDepth 100000 in
theorem k_cGoing_wouldGo_d (n d : Nat) (q : (Int32 × bS)) (x1 : Int32) (x2 : Int32) (ra : Nat) (rb : Nat) (rc : Nat) (rf : Value) (rg : Value) (σ : bS) (h : cGoing_wouldGo_d n x1 x2 σ = some q) : bfr MT (d + 2) M_X1_wouldGo 0 [some (.ref 35), some (.int x1), some (.int x2)] [] [] (mkC ra rb rc 1 rf rg σ) (some (.int q.1), mkC ra rb rc 1 rf rg q.2) := by
  unfold cGoing_wouldGo_d at h
  refine bfr_br 4 (pc1 := 12) (L1 := [some (.ref 35), some (.int x1), some (.int x2)]) (J1 := []) (st1 := []) (w1 := mkC ra rb rc 1 rf rg σ) (pc2 := 10) (L2 := [some (.ref 35), some (.int x1), some (.int x2)]) (J2 := []) (st2 := []) (w2 := mkC ra rb rc 1 rf rg σ) (fun _ _ => rfl) h (fun h => ?_) (fun h => ?_)
  · refine bfr_in (i := x2) (m := 4) 6 (pc1 := 20) (L1 := [some (.ref 35), some (.int x1), some (.int x2)]) (J1 := []) (st1 := [(.int (sA σ 36 x2)), (.int x1), (.ref 35)]) (w1 := mkC ra rb rc 1 rf rg σ) (fun _ _ => rfl) h (fun h => ?_)
    refine bfr_call 3 (d1 := d + 1) (M1 := M_X1_look) (vs := [(.ref 35), (.int x1), (.int (sA σ 36 x2)), (.int (sI σ 35 2))]) (w1 := mkC ra rb rc 1 rf rg σ) (pc2 := 27) (L2 := [some (.ref 35), some (.int x1), some (.int x2)]) (J2 := []) (rest := []) (fun _ => none) (fun a => mkC ra rb rc 1 rf rg a) (fun _ _ => rfl) h (fun a ha => k_cGoing_look_d n (d + 0) _ _ _ _ _ _ _ _ _ _ ha) (fun q1 _ h => ?_)
    refine bfr_run 6 41 [some (.ref 35), some (.int x1), some (.int x2)] [] [(.int (sI q1 1 12)), (.ref 10)] (mkC ra rb rc 1 rf rg q1) (fun _ _ => rfl) ?_
    refine bfr_call 1 (d1 := d + 1) (M1 := M_X2_valueOf) (vs := [(.ref 10), (.int (sI q1 1 12))]) (w1 := mkC ra rb rc 1 rf rg q1) (pc2 := 44) (L2 := [some (.ref 35), some (.int x1), some (.int x2)]) (J2 := []) (rest := []) (fun a => some (.int a.1)) (fun a => mkC ra rb rc 1 rf rg a.2) (fun _ _ => rfl) h (fun a ha => k_cLaws_valueOf n (d + 0) _ _ _ _ _ _ _ _ _ ha) (fun q2 _ h => ?_)
    refine bfr_br 1 (pc1 := 51) (L1 := [some (.ref 35), some (.int x1), some (.int x2)]) (J1 := []) (st1 := []) (w1 := mkC ra rb rc 1 rf rg q2.2) (pc2 := 47) (L2 := [some (.ref 35), some (.int x1), some (.int x2)]) (J2 := []) (st2 := []) (w2 := mkC ra rb rc 1 rf rg q2.2) (fun _ _ => rfl) h (fun h => ?_) (fun h => ?_)
    · refine bfr_run 1 52 [some (.ref 35), some (.int x1), some (.int x2)] [] [(.int ci_0)] (mkC ra rb rc 1 rf rg q2.2) (fun _ _ => rfl) ?_
      exact k_cGoing_wouldGo_d_b52 n d q _ _ _ _ _ _ _ _ _ _ h
    · refine bfr_run 2 52 [some (.ref 35), some (.int x1), some (.int x2)] [] [(.int ci_1)] (mkC ra rb rc 1 rf rg q2.2) (fun _ _ => rfl) ?_
      exact k_cGoing_wouldGo_d_b52 n d q _ _ _ _ _ _ _ _ _ _ h
  · exact bfr_bz (mk := mkC ra rb rc 1 rf rg) 2 (fun _ _ => rfl) h
set_option maxRecDepth 100000 in
theorem k_cGoing_bridgeByRule_d_b97 (n d : Nat) (r58 : Int32 → Int32 → Int32 → bS → Option (Int32 × bS)) (q : (Int32 × bS)) (hr58 : ∀ (x1 : Int32) (x2 : Int32) (x3 : Int32) (ra : Nat) (rb : Nat) (rc : Nat) (rf : Value) (rg : Value) (σ : bS), r58 x1 x2 x3 σ = some q → bfr MT (d + 4) M_X1_bridgeByRule 58 [some (.ref 35), some (.int x1), some (.int x2), some (.int x3)] [] [] (mkC ra rb rc 1 rf rg σ) (some (.int q.1), mkC ra rb rc 1 rf rg q.2)) (x1 : Int32) (x2 : Int32) (x3 : Int32) (ra : Nat) (rb : Nat) (rc : Nat) (rf : Value) (rg : Value) (σ : bS) (h : cGoing_bridgeByRule_d_b97 n r58 x1 x2 x3 σ = some q) : bfr MT (d + 4) M_X1_bridgeByRule 97 [some (.ref 35), some (.int x1), some (.int x2), some (.int x3)] [] [] (mkC ra rb rc 1 rf rg σ) (some (.int q.1), mkC ra rb rc 1 rf rg q.2) := by
  unfold cGoing_bridgeByRule_d_b97 at h
  refine bfr_run 1 100 [some (.ref 35), some (.int x1), some (.int x2), some (.int (x3 + ci_1))] [] [] (mkC ra rb rc 1 rf rg σ) (fun _ _ => rfl) ?_
  refine bfr_run 1 58 [some (.ref 35), some (.int x1), some (.int x2), some (.int (x3 + ci_1))] [] [] (mkC ra rb rc 1 rf rg σ) (fun _ _ => rfl) ?_
  exact hr58 _ _ _ _ _ _ _ _ _ h
set_option maxRecDepth 100000 in
theorem k_cGoing_bridgeByRule_d_b58 (n d : Nat) (q : (Int32 × bS)) : ∀ (k : Nat) (x1 : Int32) (x2 : Int32) (x3 : Int32) (ra : Nat) (rb : Nat) (rc : Nat) (rf : Value) (rg : Value) (σ : bS), cGoing_bridgeByRule_d_b58 n k x1 x2 x3 σ = some q → bfr MT (d + 4) M_X1_bridgeByRule 58 [some (.ref 35), some (.int x1), some (.int x2), some (.int x3)] [] [] (mkC ra rb rc 1 rf rg σ) (some (.int q.1), mkC ra rb rc 1 rf rg q.2) := by
  intro k
  induction k with
  | zero => intro x1 x2 x3 ra rb rc rf rg σ h; exact bno h
  | succ k ih =>
    intro x1 x2 x3 ra rb rc rf rg σ h
    unfold cGoing_bridgeByRule_d_b58 at h
    refine bfr_br 5 (pc1 := 103) (L1 := [some (.ref 35), some (.int x1), some (.int x2), some (.int x3)]) (J1 := []) (st1 := []) (w1 := mkC ra rb rc 1 rf rg σ) (pc2 := 69) (L2 := [some (.ref 35), some (.int x1), some (.int x2), some (.int x3)]) (J2 := []) (st2 := []) (w2 := mkC ra rb rc 1 rf rg σ) (fun _ _ => rfl) h (fun h => ?_) (fun h => ?_)
    · cases h
      exact bfr_ret 2 (fun _ _ => rfl)
    · refine bfr_br 6 (pc1 := 77) (L1 := [some (.ref 35), some (.int x1), some (.int x2), some (.int x3)]) (J1 := []) (st1 := []) (w1 := mkC ra rb rc 1 rf rg σ) (pc2 := 97) (L2 := [some (.ref 35), some (.int x1), some (.int x2), some (.int x3)]) (J2 := []) (st2 := []) (w2 := mkC ra rb rc 1 rf rg σ) (fun _ _ => rfl) h (fun h => ?_) (fun h => ?_)
      · refine bfr_call 4 (d1 := d + 3) (M1 := M_X1_couldCross) (vs := [(.ref 35), (.int x1), (.int x3)]) (w1 := mkC ra rb rc 1 rf rg σ) (pc2 := 83) (L2 := [some (.ref 35), some (.int x1), some (.int x2), some (.int x3)]) (J2 := []) (rest := []) (fun a => some (.int a.1)) (fun a => mkC ra rb rc 1 rf rg a.2) (fun _ _ => rfl) h (fun a ha => k_cGoing_couldCross_d n (d + 0) _ _ _ _ _ _ _ _ _ ha) (fun q1 _ h => ?_)
        refine bfr_br 1 (pc1 := 97) (L1 := [some (.ref 35), some (.int x1), some (.int x2), some (.int x3)]) (J1 := []) (st1 := []) (w1 := mkC ra rb rc 1 rf rg q1.2) (pc2 := 86) (L2 := [some (.ref 35), some (.int x1), some (.int x2), some (.int x3)]) (J2 := []) (st2 := []) (w2 := mkC ra rb rc 1 rf rg q1.2) (fun _ _ => rfl) h (fun h => ?_) (fun h => ?_)
        · exact k_cGoing_bridgeByRule_d_b97 n d _ q (ih) _ _ _ _ _ _ _ _ _ h
        · refine bfr_call 4 (d1 := d + 3) (M1 := M_X1_wouldGo) (vs := [(.ref 35), (.int x1), (.int x3)]) (w1 := mkC ra rb rc 1 rf rg q1.2) (pc2 := 92) (L2 := [some (.ref 35), some (.int x1), some (.int x2), some (.int x3)]) (J2 := []) (rest := []) (fun a => some (.int a.1)) (fun a => mkC ra rb rc 1 rf rg a.2) (fun _ _ => rfl) h (fun a ha => k_cGoing_wouldGo_d n (d + 1) _ _ _ _ _ _ _ _ _ ha) (fun q2 _ h => ?_)
          refine bfr_br 1 (pc1 := 97) (L1 := [some (.ref 35), some (.int x1), some (.int x2), some (.int x3)]) (J1 := []) (st1 := []) (w1 := mkC ra rb rc 1 rf rg q2.2) (pc2 := 95) (L2 := [some (.ref 35), some (.int x1), some (.int x2), some (.int x3)]) (J2 := []) (st2 := []) (w2 := mkC ra rb rc 1 rf rg q2.2) (fun _ _ => rfl) h (fun h => ?_) (fun h => ?_)
          · exact k_cGoing_bridgeByRule_d_b97 n d _ q (ih) _ _ _ _ _ _ _ _ _ h
          · cases h
            exact bfr_ret 2 (fun _ _ => rfl)
      · exact k_cGoing_bridgeByRule_d_b97 n d _ q (ih) _ _ _ _ _ _ _ _ _ h
set_option maxRecDepth 100000 in
theorem k_cGoing_bridgeByRule_d_b50 (n d : Nat) (r2 : Int32 → Int32 → Int32 → bS → Option (Int32 × bS)) (q : (Int32 × bS)) (hr2 : ∀ (x1 : Int32) (x2 : Int32) (x3 : Int32) (ra : Nat) (rb : Nat) (rc : Nat) (rf : Value) (rg : Value) (σ : bS), r2 x1 x2 x3 σ = some q → bfr MT (d + 4) M_X1_bridgeByRule 2 [some (.ref 35), some (.int x1), some (.int x2), some (.int x3)] [] [] (mkC ra rb rc 1 rf rg σ) (some (.int q.1), mkC ra rb rc 1 rf rg q.2)) (x1 : Int32) (x2 : Int32) (x3 : Int32) (ra : Nat) (rb : Nat) (rc : Nat) (rf : Value) (rg : Value) (σ : bS) (h : cGoing_bridgeByRule_d_b50 n r2 x1 x2 x3 σ = some q) : bfr MT (d + 4) M_X1_bridgeByRule 50 [some (.ref 35), some (.int x1), some (.int x2), some (.int x3)] [] [] (mkC ra rb rc 1 rf rg σ) (some (.int q.1), mkC ra rb rc 1 rf rg q.2) := by
  unfold cGoing_bridgeByRule_d_b50 at h
  refine bfr_run 1 53 [some (.ref 35), some (.int x1), some (.int x2), some (.int (x3 + ci_1))] [] [] (mkC ra rb rc 1 rf rg σ) (fun _ _ => rfl) ?_
  refine bfr_run 1 2 [some (.ref 35), some (.int x1), some (.int x2), some (.int (x3 + ci_1))] [] [] (mkC ra rb rc 1 rf rg σ) (fun _ _ => rfl) ?_
  exact hr2 _ _ _ _ _ _ _ _ _ h
set_option maxRecDepth 100000 in
theorem k_cGoing_bridgeByRule_d_b2 (n d : Nat) (q : (Int32 × bS)) : ∀ (k : Nat) (x1 : Int32) (x2 : Int32) (x3 : Int32) (ra : Nat) (rb : Nat) (rc : Nat) (rf : Value) (rg : Value) (σ : bS), cGoing_bridgeByRule_d_b2 n k x1 x2 x3 σ = some q → bfr MT (d + 4) M_X1_bridgeByRule 2 [some (.ref 35), some (.int x1), some (.int x2), some (.int x3)] [] [] (mkC ra rb rc 1 rf rg σ) (some (.int q.1), mkC ra rb rc 1 rf rg q.2) := by
  intro k
  induction k with
  | zero => intro x1 x2 x3 ra rb rc rf rg σ h; exact bno h
  | succ k ih =>
    intro x1 x2 x3 ra rb rc rf rg σ h
    unfold cGoing_bridgeByRule_d_b2 at h
    refine bfr_br 5 (pc1 := 56) (L1 := [some (.ref 35), some (.int x1), some (.int x2), some (.int x3)]) (J1 := []) (st1 := []) (w1 := mkC ra rb rc 1 rf rg σ) (pc2 := 13) (L2 := [some (.ref 35), some (.int x1), some (.int x2), some (.int x3)]) (J2 := []) (st2 := []) (w2 := mkC ra rb rc 1 rf rg σ) (fun _ _ => rfl) h (fun h => ?_) (fun h => ?_)
    · refine bfr_run 2 58 [some (.ref 35), some (.int x1), some (.int x2), some (.int ci_0)] [] [] (mkC ra rb rc 1 rf rg σ) (fun _ _ => rfl) ?_
      exact k_cGoing_bridgeByRule_d_b58 n d q _ _ _ _ _ _ _ _ _ _ h
    · refine bfr_br 6 (pc1 := 21) (L1 := [some (.ref 35), some (.int x1), some (.int x2), some (.int x3)]) (J1 := []) (st1 := []) (w1 := mkC ra rb rc 1 rf rg σ) (pc2 := 50) (L2 := [some (.ref 35), some (.int x1), some (.int x2), some (.int x3)]) (J2 := []) (st2 := []) (w2 := mkC ra rb rc 1 rf rg σ) (fun _ _ => rfl) h (fun h => ?_) (fun h => ?_)
      · refine bfr_in (i := x3) (m := 4) 4 (pc1 := 27) (L1 := [some (.ref 35), some (.int x1), some (.int x2), some (.int x3)]) (J1 := []) (st1 := [(.int (sA σ 36 x3))]) (w1 := mkC ra rb rc 1 rf rg σ) (fun _ _ => rfl) h (fun h => ?_)
        refine bfr_in (i := x1) (m := 7) 5 (pc1 := 36) (L1 := [some (.ref 35), some (.int x1), some (.int x2), some (.int x3)]) (J1 := []) (st1 := [(.int (sA σ 6 x1)), (.int (sA σ 36 x3))]) (w1 := mkC ra rb rc 1 rf rg σ) (fun _ _ => rfl) h (fun h => ?_)
        refine bfr_br 1 (pc1 := 39) (L1 := [some (.ref 35), some (.int x1), some (.int x2), some (.int x3)]) (J1 := []) (st1 := []) (w1 := mkC ra rb rc 1 rf rg σ) (pc2 := 50) (L2 := [some (.ref 35), some (.int x1), some (.int x2), some (.int x3)]) (J2 := []) (st2 := []) (w2 := mkC ra rb rc 1 rf rg σ) (fun _ _ => rfl) h (fun h => ?_) (fun h => ?_)
        · refine bfr_call 4 (d1 := d + 3) (M1 := M_X1_couldCross) (vs := [(.ref 35), (.int x1), (.int x3)]) (w1 := mkC ra rb rc 1 rf rg σ) (pc2 := 45) (L2 := [some (.ref 35), some (.int x1), some (.int x2), some (.int x3)]) (J2 := []) (rest := []) (fun a => some (.int a.1)) (fun a => mkC ra rb rc 1 rf rg a.2) (fun _ _ => rfl) h (fun a ha => k_cGoing_couldCross_d n (d + 0) _ _ _ _ _ _ _ _ _ ha) (fun q3 _ h => ?_)
          refine bfr_br 1 (pc1 := 50) (L1 := [some (.ref 35), some (.int x1), some (.int x2), some (.int x3)]) (J1 := []) (st1 := []) (w1 := mkC ra rb rc 1 rf rg q3.2) (pc2 := 48) (L2 := [some (.ref 35), some (.int x1), some (.int x2), some (.int x3)]) (J2 := []) (st2 := []) (w2 := mkC ra rb rc 1 rf rg q3.2) (fun _ _ => rfl) h (fun h => ?_) (fun h => ?_)
          · exact k_cGoing_bridgeByRule_d_b50 n d _ q (ih) _ _ _ _ _ _ _ _ _ h
          · cases h
            exact bfr_ret 2 (fun _ _ => rfl)
        · exact k_cGoing_bridgeByRule_d_b50 n d _ q (ih) _ _ _ _ _ _ _ _ _ h
      · exact k_cGoing_bridgeByRule_d_b50 n d _ q (ih) _ _ _ _ _ _ _ _ _ h
set_option maxRecDepth 100000 in
theorem k_cGoing_bridgeByRule_d (n d : Nat) (q : (Int32 × bS)) (x1 : Int32) (x2 : Int32) (ra : Nat) (rb : Nat) (rc : Nat) (rf : Value) (rg : Value) (σ : bS) (h : cGoing_bridgeByRule_d n x1 x2 σ = some q) : bfr MT (d + 4) M_X1_bridgeByRule 0 [some (.ref 35), some (.int x1), some (.int x2), none] [] [] (mkC ra rb rc 1 rf rg σ) (some (.int q.1), mkC ra rb rc 1 rf rg q.2) := by
  unfold cGoing_bridgeByRule_d at h
  refine bfr_run 2 2 [some (.ref 35), some (.int x1), some (.int x2), some (.int ci_0)] [] [] (mkC ra rb rc 1 rf rg σ) (fun _ _ => rfl) ?_
  exact k_cGoing_bridgeByRule_d_b2 n d q _ _ _ _ _ _ _ _ _ _ h
set_option maxRecDepth 100000 in
theorem k_cGoing_lot_d_b27 (n d : Nat) (q : (Int32 × bS)) (s0 : Int32) (o0 : Option Value) (o1 : Option Value) (o2 : Option Value) (o3 : Option Value) (ra : Nat) (rb : Nat) (rc : Nat) (re : Nat) (rf : Value) (rg : Value) (σ : bS) (h : cGoing_lot_d_b27 n s0 σ = some q) : bfr MT (d + 1) M_X1_lot 27 [o0, o1, o2, o3] [] [(.int s0)] (mkC ra rb rc re rf rg σ) (some (.int q.1), mkC ra rb rc re rf rg q.2) := by
  unfold cGoing_lot_d_b27 at h
  cases h
  exact bfr_ret 1 (fun _ _ => rfl)
set_option maxRecDepth 100000 in
theorem k_cGoing_lot_d (n d : Nat) (q : (Int32 × bS)) (x1 : Int32) (x2 : Int32) (ra : Nat) (rb : Nat) (rc : Nat) (re : Nat) (rf : Value) (rg : Value) (σ : bS) (h : cGoing_lot_d n x1 x2 σ = some q) : bfr MT (d + 1) M_X1_lot 0 [some (.ref 35), some (.int x1), some (.int x2), none] [] [] (mkC ra rb rc re rf rg σ) (some (.int q.1), mkC ra rb rc re rf rg q.2) := by
  unfold cGoing_lot_d at h
  refine bfr_call 4 (d1 := d + 0) (M1 := M_X1_stirred) (vs := [(.int (sI σ 35 1)), (.int cb_47)]) (w1 := mkC ra rb rc re rf rg σ) (pc2 := 9) (L2 := [some (.ref 35), some (.int x1), some (.int x2), none]) (J2 := []) (rest := []) (fun a => some (.int a.1)) (fun a => mkC ra rb rc re rf rg a.2) (fun _ _ => rfl) h (fun a ha => k_cGoing_stirred n (d + 0) _ _ _ _ _ _ _ _ _ _ ha) (fun q1 _ h => ?_)
  refine bfr_call 2 (d1 := d + 0) (M1 := M_X1_stirred) (vs := [(.int q1.1), (.int x2)]) (w1 := mkC ra rb rc re rf rg q1.2) (pc2 := 13) (L2 := [some (.ref 35), some (.int x1), some (.int x2), none]) (J2 := []) (rest := []) (fun a => some (.int a.1)) (fun a => mkC ra rb rc re rf rg a.2) (fun _ _ => rfl) h (fun a ha => k_cGoing_stirred n (d + 0) _ _ _ _ _ _ _ _ _ _ ha) (fun q2 _ h => ?_)
  refine bfr_br 3 (pc1 := 26) (L1 := [some (.ref 35), some (.int x1), some (.int x2), some (.int q2.1)]) (J1 := []) (st1 := []) (w1 := mkC ra rb rc re rf rg q2.2) (pc2 := 18) (L2 := [some (.ref 35), some (.int x1), some (.int x2), some (.int q2.1)]) (J2 := []) (st2 := []) (w2 := mkC ra rb rc re rf rg q2.2) (fun _ _ => rfl) h (fun h => ?_) (fun h => ?_)
  · refine bfr_run 1 27 [some (.ref 35), some (.int x1), some (.int x2), some (.int q2.1)] [] [(.int ci_0)] (mkC ra rb rc re rf rg q2.2) (fun _ _ => rfl) ?_
    exact k_cGoing_lot_d_b27 n d q _ _ _ _ _ _ _ _ _ _ _ _ h
  · refine bfr_chk 5 (pc1 := 23) (L1 := [some (.ref 35), some (.int x1), some (.int x2), some (.int q2.1)]) (J1 := []) (st1 := [(.int (brem (bush q2.1 ci_1) x1))]) (w1 := mkC ra rb rc re rf rg q2.2) (fun _ _ => rfl) h (fun h => ?_)
    refine bfr_run 1 27 [some (.ref 35), some (.int x1), some (.int x2), some (.int q2.1)] [] [(.int (brem (bush q2.1 ci_1) x1))] (mkC ra rb rc re rf rg q2.2) (fun _ _ => rfl) ?_
    exact k_cGoing_lot_d_b27 n d q _ _ _ _ _ _ _ _ _ _ _ _ h
set_option maxRecDepth 100000 in
theorem k_cGoing_hourPasses_d_b165 (n d : Nat) (r97 : Int32 → bS → Option bS) (q : bS) (hr97 : ∀ (x1 : Int32) (ra : Nat) (rb : Nat) (rc : Nat) (rf : Value) (rg : Value) (σ : bS), r97 x1 σ = some q → bfr MT (d + 2) M_X1_hourPasses 97 [some (.ref 35), some (.int x1)] [] [] (mkC ra rb rc 1 rf rg σ) (none, mkC ra rb rc 1 rf rg q)) (x1 : Int32) (ra : Nat) (rb : Nat) (rc : Nat) (rf : Value) (rg : Value) (σ : bS) (h : cGoing_hourPasses_d_b165 n r97 x1 σ = some q) : bfr MT (d + 2) M_X1_hourPasses 165 [some (.ref 35), some (.int x1)] [] [] (mkC ra rb rc 1 rf rg σ) (none, mkC ra rb rc 1 rf rg q) := by
  unfold cGoing_hourPasses_d_b165 at h
  refine bfr_run 1 168 [some (.ref 35), some (.int (x1 + ci_1))] [] [] (mkC ra rb rc 1 rf rg σ) (fun _ _ => rfl) ?_
  refine bfr_run 1 97 [some (.ref 35), some (.int (x1 + ci_1))] [] [] (mkC ra rb rc 1 rf rg σ) (fun _ _ => rfl) ?_
  exact hr97 _ _ _ _ _ _ _ h
set_option maxRecDepth 100000 in
theorem k_cGoing_hourPasses_d_b97 (n d : Nat) (q : bS) : ∀ (k : Nat) (x1 : Int32) (ra : Nat) (rb : Nat) (rc : Nat) (rf : Value) (rg : Value) (σ : bS), cGoing_hourPasses_d_b97 n k x1 σ = some q → bfr MT (d + 2) M_X1_hourPasses 97 [some (.ref 35), some (.int x1)] [] [] (mkC ra rb rc 1 rf rg σ) (none, mkC ra rb rc 1 rf rg q) := by
  intro k
  induction k with
  | zero => intro x1 ra rb rc rf rg σ h; exact bno h
  | succ k ih =>
    intro x1 ra rb rc rf rg σ h
    unfold cGoing_hourPasses_d_b97 at h
    refine bfr_br 5 (pc1 := 171) (L1 := [some (.ref 35), some (.int x1)]) (J1 := []) (st1 := []) (w1 := mkC ra rb rc 1 rf rg σ) (pc2 := 108) (L2 := [some (.ref 35), some (.int x1)]) (J2 := []) (st2 := []) (w2 := mkC ra rb rc 1 rf rg σ) (fun _ _ => rfl) h (fun h => ?_) (fun h => ?_)
    · cases h
      exact bfr_ret 1 (fun _ _ => rfl)
    · refine bfr_run 6 118 [some (.ref 35), some (.int x1)] [] [(.int (cb_100 * (sI σ 35 2))), (.int cb_100), (.ref 35)] (mkC ra rb rc 1 rf rg σ) (fun _ _ => rfl) ?_
      refine bfr_call 5 (d1 := d + 1) (M1 := M_X1_lot) (vs := [(.ref 35), (.int cb_100), (.int (((cb_100 * (sI σ 35 2)) + cb_10) + x1))]) (w1 := mkC ra rb rc 1 rf rg σ) (pc2 := 126) (L2 := [some (.ref 35), some (.int x1)]) (J2 := []) (rest := []) (fun a => some (.int a.1)) (fun a => mkC ra rb rc 1 rf rg a.2) (fun _ _ => rfl) h (fun a ha => k_cGoing_lot_d n (d + 0) _ _ _ _ _ _ _ _ _ _ ha) (fun q1 _ h => ?_)
      refine bfr_br 4 (pc1 := 165) (L1 := [some (.ref 35), some (.int x1)]) (J1 := []) (st1 := []) (w1 := mkC ra rb rc 1 rf rg q1.2) (pc2 := 136) (L2 := [some (.ref 35), some (.int x1)]) (J2 := []) (st2 := []) (w2 := mkC ra rb rc 1 rf rg q1.2) (fun _ _ => rfl) h (fun h => ?_) (fun h => ?_)
      · exact k_cGoing_hourPasses_d_b165 n d _ q (ih) _ _ _ _ _ _ _ h
      · refine bfr_run 6 146 [some (.ref 35), some (.int x1)] [] [(.ref 1), (.ref 35), (.int x1), (.ref 36)] (mkC ra rb rc 1 rf rg q1.2) (fun _ _ => rfl) ?_
        refine bfr_run 6 158 [some (.ref 35), some (.int x1)] [] [(.int cb_20), (.int (cb_100 * (sI q1.2 35 2))), (.int (sI q1.2 1 0)), (.ref 35), (.int x1), (.ref 36)] (mkC ra rb rc 1 rf rg q1.2) (fun _ _ => rfl) ?_
        refine bfr_call 4 (d1 := d + 1) (M1 := M_X1_lot) (vs := [(.ref 35), (.int (sI q1.2 1 0)), (.int (((cb_100 * (sI q1.2 35 2)) + cb_20) + x1))]) (w1 := mkC ra rb rc 1 rf rg q1.2) (pc2 := 164) (L2 := [some (.ref 35), some (.int x1)]) (J2 := []) (rest := [(.int x1), (.ref 36)]) (fun a => some (.int a.1)) (fun a => mkC ra rb rc 1 rf rg a.2) (fun _ _ => rfl) h (fun a ha => k_cGoing_lot_d n (d + 0) _ _ _ _ _ _ _ _ _ _ ha) (fun q2 _ h => ?_)
        refine bfr_in (i := x1) (m := 4) 1 (pc1 := 165) (L1 := [some (.ref 35), some (.int x1)]) (J1 := []) (st1 := []) (w1 := ((mkC ra rb rc 1 rf rg q2.2).set 36 (.inl (0, 4, upd (q2.2.2.1 36) (x1).toNatClampNeg q2.1)))) (fun _ _ => rfl) h (fun h => ?_)
        rw [mkC_A36]
        exact k_cGoing_hourPasses_d_b165 n d _ q (ih) _ _ _ _ _ _ _ h
set_option maxRecDepth 100000 in
theorem k_cGoing_hourPasses_d_b84 (n d : Nat) (q : bS) (o1 : Option Value) (ra : Nat) (rb : Nat) (rc : Nat) (rf : Value) (rg : Value) (σ : bS) (h : cGoing_hourPasses_d_b84 n σ = some q) : bfr MT (d + 2) M_X1_hourPasses 84 [some (.ref 35), o1] [] [] (mkC ra rb rc 1 rf rg σ) (none, mkC ra rb rc 1 rf rg q) := by
  unfold cGoing_hourPasses_d_b84 at h
  refine bfr_br 4 (pc1 := 94) (L1 := [some (.ref 35), o1]) (J1 := []) (st1 := []) (w1 := mkC ra rb rc 1 rf rg σ) (pc2 := 95) (L2 := [some (.ref 35), o1]) (J2 := []) (st2 := []) (w2 := mkC ra rb rc 1 rf rg σ) (fun _ _ => rfl) h (fun h => ?_) (fun h => ?_)
  · cases h
    exact bfr_ret 1 (fun _ _ => rfl)
  · refine bfr_run 2 97 [some (.ref 35), some (.int ci_0)] [] [] (mkC ra rb rc 1 rf rg σ) (fun _ _ => rfl) ?_
    exact k_cGoing_hourPasses_d_b97 n d q _ _ _ _ _ _ _ _ h
set_option maxRecDepth 100000 in
theorem k_cGoing_hourPasses_d_b41 (n d : Nat) (q : bS) : ∀ (k : Nat) (x1 : Int32) (ra : Nat) (rb : Nat) (rc : Nat) (rf : Value) (rg : Value) (σ : bS), cGoing_hourPasses_d_b41 n k x1 σ = some q → bfr MT (d + 2) M_X1_hourPasses 41 [some (.ref 35), some (.int x1)] [] [] (mkC ra rb rc 1 rf rg σ) (none, mkC ra rb rc 1 rf rg q) := by
  intro k
  induction k with
  | zero => intro x1 ra rb rc rf rg σ h; exact bno h
  | succ k ih =>
    intro x1 ra rb rc rf rg σ h
    unfold cGoing_hourPasses_d_b41 at h
    refine bfr_br 5 (pc1 := 84) (L1 := [some (.ref 35), some (.int x1)]) (J1 := []) (st1 := []) (w1 := mkC ra rb rc 1 rf rg σ) (pc2 := 52) (L2 := [some (.ref 35), some (.int x1)]) (J2 := []) (st2 := []) (w2 := mkC ra rb rc 1 rf rg σ) (fun _ _ => rfl) h (fun h => ?_) (fun h => ?_)
    · exact k_cGoing_hourPasses_d_b84 n d q _ _ _ _ _ _ _ h
    · refine bfr_run 6 62 [some (.ref 35), some (.int x1)] [] [(.ref 1), (.ref 35), (.int x1), (.ref 36)] (mkC ra rb rc 1 rf rg σ) (fun _ _ => rfl) ?_
      refine bfr_run 6 73 [some (.ref 35), some (.int x1)] [] [(.int x1), (.int (cb_100 * (sI σ 35 2))), (.int (sI σ 1 0)), (.ref 35), (.int x1), (.ref 36)] (mkC ra rb rc 1 rf rg σ) (fun _ _ => rfl) ?_
      refine bfr_call 2 (d1 := d + 1) (M1 := M_X1_lot) (vs := [(.ref 35), (.int (sI σ 1 0)), (.int ((cb_100 * (sI σ 35 2)) + x1))]) (w1 := mkC ra rb rc 1 rf rg σ) (pc2 := 77) (L2 := [some (.ref 35), some (.int x1)]) (J2 := []) (rest := [(.int x1), (.ref 36)]) (fun a => some (.int a.1)) (fun a => mkC ra rb rc 1 rf rg a.2) (fun _ _ => rfl) h (fun a ha => k_cGoing_lot_d n (d + 0) _ _ _ _ _ _ _ _ _ _ ha) (fun q3 _ h => ?_)
      refine bfr_in (i := x1) (m := 4) 1 (pc1 := 78) (L1 := [some (.ref 35), some (.int x1)]) (J1 := []) (st1 := []) (w1 := ((mkC ra rb rc 1 rf rg q3.2).set 36 (.inl (0, 4, upd (q3.2.2.1 36) (x1).toNatClampNeg q3.1)))) (fun _ _ => rfl) h (fun h => ?_)
      rw [mkC_A36]
      refine bfr_run 1 81 [some (.ref 35), some (.int (x1 + ci_1))] [] [] (mkC ra rb rc 1 rf rg (uA q3.2 36 x1 q3.1)) (fun _ _ => rfl) ?_
      refine bfr_run 1 41 [some (.ref 35), some (.int (x1 + ci_1))] [] [] (mkC ra rb rc 1 rf rg (uA q3.2 36 x1 q3.1)) (fun _ _ => rfl) ?_
      exact ih _ _ _ _ _ _ _ h
set_option maxRecDepth 100000 in
theorem k_cGoing_hourPasses_d (n d : Nat) (q : bS) (ra : Nat) (rb : Nat) (rc : Nat) (rf : Value) (rg : Value) (σ : bS) (h : cGoing_hourPasses_d n σ = some q) : bfr MT (d + 2) M_X1_hourPasses 0 [some (.ref 35), none] [] [] (mkC ra rb rc 1 rf rg σ) (none, mkC ra rb rc 1 rf rg q) := by
  unfold cGoing_hourPasses_d at h
  refine bfr_run 6 10 [some (.ref 35), none] [] [] ((mkC ra rb rc 1 rf rg σ).set 35 (.inr (.inr (1, (mkC_35  ra rb rc 1 rf rg σ).set 2 (.int ((sI σ 35 2) + ci_1)))))) (fun _ _ => rfl) ?_
  rw [mkC_I35_2]
  refine bfr_br 4 (pc1 := 84) (L1 := [some (.ref 35), none]) (J1 := []) (st1 := []) (w1 := mkC ra rb rc 1 rf rg (uI σ 35 2 ((sI σ 35 2) + ci_1))) (pc2 := 20) (L2 := [some (.ref 35), none]) (J2 := []) (st2 := []) (w2 := mkC ra rb rc 1 rf rg (uI σ 35 2 ((sI σ 35 2) + ci_1))) (fun _ _ => rfl) h (fun h => ?_) (fun h => ?_)
  · exact k_cGoing_hourPasses_d_b84 n d q _ _ _ _ _ _ _ h
  · refine bfr_call 4 (d1 := d + 1) (M1 := M_J9_floorMod_7cf53) (vs := [(.int (sI (uI σ 35 2 ((sI σ 35 2) + ci_1)) 35 2)), (.int cb_24)]) (w1 := mkC ra rb rc 1 rf rg (uI σ 35 2 ((sI σ 35 2) + ci_1))) (pc2 := 29) (L2 := [some (.ref 35), none]) (J2 := []) (rest := []) (fun a => some (.int a.1)) (fun a => mkC ra rb rc 1 rf rg a.2) (fun _ _ => rfl) h (fun a ha => k_cj_floorMod n (d + 1) _ _ _ _ _ _ _ _ _ _ ha) (fun q4 _ h => ?_)
    refine bfr_br 4 (pc1 := 39) (L1 := [some (.ref 35), none]) (J1 := []) (st1 := []) (w1 := mkC ra rb rc 1 rf rg q4.2) (pc2 := 84) (L2 := [some (.ref 35), none]) (J2 := []) (st2 := []) (w2 := mkC ra rb rc 1 rf rg q4.2) (fun _ _ => rfl) h (fun h => ?_) (fun h => ?_)
    · refine bfr_run 2 41 [some (.ref 35), some (.int ci_0)] [] [] (mkC ra rb rc 1 rf rg q4.2) (fun _ _ => rfl) ?_
      exact k_cGoing_hourPasses_d_b41 n d q _ _ _ _ _ _ _ _ h
    · exact k_cGoing_hourPasses_d_b84 n d q _ _ _ _ _ _ _ h
set_option maxRecDepth 100000 in
theorem k_cGoing_ruleHour_d_b81 (n d : Nat) (r4 : Int32 → Int32 → Int32 → bS → Option bS) (q : bS) (hr4 : ∀ (x1 : Int32) (x2 : Int32) (x3 : Int32) (o4 : Option Value) (ra : Nat) (rb : Nat) (rc : Nat) (rf : Value) (rg : Value) (σ : bS), r4 x1 x2 x3 σ = some q → bfr MT (d + 5) M_X1_ruleHour 4 [some (.ref 35), some (.int x1), some (.int x2), some (.int x3), o4] [] [] (mkC ra rb rc 1 rf rg σ) (none, mkC ra rb rc 1 rf rg q)) (x1 : Int32) (x2 : Int32) (x3 : Int32) (o4 : Option Value) (ra : Nat) (rb : Nat) (rc : Nat) (rf : Value) (rg : Value) (σ : bS) (h : cGoing_ruleHour_d_b81 n r4 x1 x2 x3 σ = some q) : bfr MT (d + 5) M_X1_ruleHour 81 [some (.ref 35), some (.int x1), some (.int x2), some (.int x3), o4] [] [] (mkC ra rb rc 1 rf rg σ) (none, mkC ra rb rc 1 rf rg q) := by
  unfold cGoing_ruleHour_d_b81 at h
  refine bfr_run 1 84 [some (.ref 35), some (.int x1), some (.int x2), some (.int (x3 + ci_1)), o4] [] [] (mkC ra rb rc 1 rf rg σ) (fun _ _ => rfl) ?_
  refine bfr_run 1 4 [some (.ref 35), some (.int x1), some (.int x2), some (.int (x3 + ci_1)), o4] [] [] (mkC ra rb rc 1 rf rg σ) (fun _ _ => rfl) ?_
  exact hr4 _ _ _ _ _ _ _ _ _ _ h
set_option maxRecDepth 100000 in
theorem k_cGoing_ruleHour_d_b4 (n d : Nat) (q : bS) : ∀ (k : Nat) (x1 : Int32) (x2 : Int32) (x3 : Int32) (o4 : Option Value) (ra : Nat) (rb : Nat) (rc : Nat) (rf : Value) (rg : Value) (σ : bS), cGoing_ruleHour_d_b4 n k x1 x2 x3 σ = some q → bfr MT (d + 5) M_X1_ruleHour 4 [some (.ref 35), some (.int x1), some (.int x2), some (.int x3), o4] [] [] (mkC ra rb rc 1 rf rg σ) (none, mkC ra rb rc 1 rf rg q) := by
  intro k
  induction k with
  | zero => intro x1 x2 x3 o4 ra rb rc rf rg σ h; exact bno h
  | succ k ih =>
    intro x1 x2 x3 o4 ra rb rc rf rg σ h
    unfold cGoing_ruleHour_d_b4 at h
    refine bfr_br 5 (pc1 := 87) (L1 := [some (.ref 35), some (.int x1), some (.int x2), some (.int x3), o4]) (J1 := []) (st1 := []) (w1 := mkC ra rb rc 1 rf rg σ) (pc2 := 15) (L2 := [some (.ref 35), some (.int x1), some (.int x2), some (.int x3), o4]) (J2 := []) (st2 := []) (w2 := mkC ra rb rc 1 rf rg σ) (fun _ _ => rfl) h (fun h => ?_) (fun h => ?_)
    · refine bfr_call 2 (d1 := d + 4) (M1 := M_X1_hourPasses) (vs := [(.ref 35)]) (w1 := mkC ra rb rc 1 rf rg σ) (pc2 := 91) (L2 := [some (.ref 35), some (.int x1), some (.int x2), some (.int x3), o4]) (J2 := []) (rest := []) (fun _ => none) (fun a => mkC ra rb rc 1 rf rg a) (fun _ _ => rfl) h (fun a ha => k_cGoing_hourPasses_d n (d + 2) _ _ _ _ _ _ _ ha) (fun q1 _ h => ?_)
      cases h
      exact bfr_ret 1 (fun _ _ => rfl)
    · refine bfr_br 3 (pc1 := 81) (L1 := [some (.ref 35), some (.int x1), some (.int x2), some (.int x3), o4]) (J1 := []) (st1 := []) (w1 := mkC ra rb rc 1 rf rg σ) (pc2 := 20) (L2 := [some (.ref 35), some (.int x1), some (.int x2), some (.int x3), o4]) (J2 := []) (st2 := []) (w2 := mkC ra rb rc 1 rf rg σ) (fun _ _ => rfl) h (fun h => ?_) (fun h => ?_)
      · exact k_cGoing_ruleHour_d_b81 n d _ q (ih) _ _ _ _ _ _ _ _ _ _ h
      · refine bfr_in (i := x3) (m := 7) 4 (pc1 := 26) (L1 := [some (.ref 35), some (.int x1), some (.int x2), some (.int x3), o4]) (J1 := []) (st1 := [(.int (sA σ 39 x3))]) (w1 := mkC ra rb rc 1 rf rg σ) (fun _ _ => rfl) h (fun h => ?_)
        refine bfr_br 1 (pc1 := 81) (L1 := [some (.ref 35), some (.int x1), some (.int x2), some (.int x3), o4]) (J1 := []) (st1 := []) (w1 := mkC ra rb rc 1 rf rg σ) (pc2 := 29) (L2 := [some (.ref 35), some (.int x1), some (.int x2), some (.int x3), o4]) (J2 := []) (st2 := []) (w2 := mkC ra rb rc 1 rf rg σ) (fun _ _ => rfl) h (fun h => ?_) (fun h => ?_)
        · exact k_cGoing_ruleHour_d_b81 n d _ q (ih) _ _ _ _ _ _ _ _ _ _ h
        · refine bfr_call 3 (d1 := d + 4) (M1 := M_X1_isHome) (vs := [(.ref 35), (.int x3)]) (w1 := mkC ra rb rc 1 rf rg σ) (pc2 := 34) (L2 := [some (.ref 35), some (.int x1), some (.int x2), some (.int x3), o4]) (J2 := []) (rest := []) (fun a => some (.int a.1)) (fun a => mkC ra rb rc 1 rf rg a.2) (fun _ _ => rfl) h (fun a ha => k_cGoing_isHome_d n (d + 4) _ _ _ _ _ _ _ _ ha) (fun q2 _ h => ?_)
          refine bfr_br 1 (pc1 := 40) (L1 := [some (.ref 35), some (.int x1), some (.int x2), some (.int x3), o4]) (J1 := []) (st1 := []) (w1 := mkC ra rb rc 1 rf rg q2.2) (pc2 := 37) (L2 := [some (.ref 35), some (.int x1), some (.int x2), some (.int x3), o4]) (J2 := []) (st2 := []) (w2 := mkC ra rb rc 1 rf rg q2.2) (fun _ _ => rfl) h (fun h => ?_) (fun h => ?_)
          · refine bfr_call 4 (d1 := d + 4) (M1 := M_X1_bridgeByRule) (vs := [(.ref 35), (.int x3), (.int x2)]) (w1 := mkC ra rb rc 1 rf rg q2.2) (pc2 := 46) (L2 := [some (.ref 35), some (.int x1), some (.int x2), some (.int x3), o4]) (J2 := []) (rest := []) (fun a => some (.int a.1)) (fun a => mkC ra rb rc 1 rf rg a.2) (fun _ _ => rfl) h (fun a ha => k_cGoing_bridgeByRule_d n (d + 0) _ _ _ _ _ _ _ _ _ ha) (fun q3 _ h => ?_)
            refine bfr_br 3 (pc1 := 66) (L1 := [some (.ref 35), some (.int x1), some (.int x2), some (.int x3), some (.int q3.1)]) (J1 := []) (st1 := []) (w1 := mkC ra rb rc 1 rf rg q3.2) (pc2 := 53) (L2 := [some (.ref 35), some (.int x1), some (.int x2), some (.int x3), some (.int q3.1)]) (J2 := []) (st2 := []) (w2 := mkC ra rb rc 1 rf rg q3.2) (fun _ _ => rfl) h (fun h => ?_) (fun h => ?_)
            · refine bfr_call 4 (d1 := d + 4) (M1 := M_X1_crossOver) (vs := [(.ref 35), (.int x3), (.int q3.1)]) (w1 := mkC ra rb rc 1 rf rg q3.2) (pc2 := 73) (L2 := [some (.ref 35), some (.int x1), some (.int x2), some (.int x3), some (.int q3.1)]) (J2 := []) (rest := []) (fun a => some (.int a.1)) (fun a => mkC ra rb rc 1 rf rg a.2) (fun _ _ => rfl) h (fun a ha => k_cGoing_crossOver_d n (d + 0) _ _ _ _ _ _ _ _ _ ha) (fun q4 _ h => ?_)
              refine bfr_run 6 80 [some (.ref 35), some (.int x1), some (.int x2), some (.int x3), some (.int q3.1)] [] [(.int (x2 ||| (ci_1 <<< (q3.1 &&& 31))))] (mkC ra rb rc 1 rf rg q4.2) (fun _ _ => rfl) ?_
              refine bfr_run 1 81 [some (.ref 35), some (.int x1), some (.int (x2 ||| (ci_1 <<< (q3.1 &&& 31)))), some (.int x3), some (.int q3.1)] [] [] (mkC ra rb rc 1 rf rg q4.2) (fun _ _ => rfl) ?_
              exact k_cGoing_ruleHour_d_b81 n d _ q (ih) _ _ _ _ _ _ _ _ _ _ h
            · refine bfr_in (i := x3) (m := 7) 5 (pc1 := 60) (L1 := [some (.ref 35), some (.int x1), some (.int x2), some (.int x3), some (.int q3.1)]) (J1 := []) (st1 := [(.int (sA q3.2 42 x3)), (.int x3), (.ref 42)]) (w1 := mkC ra rb rc 1 rf rg q3.2) (fun _ _ => rfl) h (fun h => ?_)
              refine bfr_in (i := x3) (m := 7) 3 (pc1 := 63) (L1 := [some (.ref 35), some (.int x1), some (.int x2), some (.int x3), some (.int q3.1)]) (J1 := []) (st1 := []) (w1 := ((mkC ra rb rc 1 rf rg q3.2).set 42 (.inl (0, 7, upd (q3.2.2.1 42) (x3).toNatClampNeg ((sA q3.2 42 x3) + ci_1))))) (fun _ _ => rfl) h (fun h => ?_)
              rw [mkC_A42]
              refine bfr_run 1 81 [some (.ref 35), some (.int x1), some (.int x2), some (.int x3), some (.int q3.1)] [] [] (mkC ra rb rc 1 rf rg (uA q3.2 42 x3 ((sA q3.2 42 x3) + ci_1))) (fun _ _ => rfl) ?_
              exact k_cGoing_ruleHour_d_b81 n d _ q (ih) _ _ _ _ _ _ _ _ _ _ h
          · refine bfr_run 1 81 [some (.ref 35), some (.int x1), some (.int x2), some (.int x3), o4] [] [] (mkC ra rb rc 1 rf rg q2.2) (fun _ _ => rfl) ?_
            exact k_cGoing_ruleHour_d_b81 n d _ q (ih) _ _ _ _ _ _ _ _ _ _ h
set_option maxRecDepth 100000 in
theorem k_cGoing_ruleHour_d (n d : Nat) (q : bS) (x1 : Int32) (ra : Nat) (rb : Nat) (rc : Nat) (rf : Value) (rg : Value) (σ : bS) (h : cGoing_ruleHour_d n x1 σ = some q) : bfr MT (d + 5) M_X1_ruleHour 0 [some (.ref 35), some (.int x1), none, none, none] [] [] (mkC ra rb rc 1 rf rg σ) (none, mkC ra rb rc 1 rf rg q) := by
  unfold cGoing_ruleHour_d at h
  refine bfr_run 4 4 [some (.ref 35), some (.int x1), some (.int ci_0), some (.int ci_0), none] [] [] (mkC ra rb rc 1 rf rg σ) (fun _ _ => rfl) ?_
  exact k_cGoing_ruleHour_d_b4 n d q _ _ _ _ _ _ _ _ _ _ _ h
set_option maxRecDepth 100000 in
theorem k_cTop_dreamHours_b13 (n d : Nat) (q : bS) : ∀ (k : Nat) (x1 : Int32) (x2 : Int32) (ra : Nat) (rb : Nat) (rf : Value) (rg : Value) (σ : bS), cTop_dreamHours_b13 n k x1 x2 σ = some q → bfr MT (d + 6) M_X11_dreamHours 13 [some (.ref 0), some (.int x1), some (.int x2)] [] [] (mkC ra rb 1 1 rf rg σ) (none, mkC ra rb 1 1 rf rg q) := by
  intro k
  induction k with
  | zero => intro x1 x2 ra rb rf rg σ h; exact bno h
  | succ k ih =>
    intro x1 x2 ra rb rf rg σ h
    unfold cTop_dreamHours_b13 at h
    refine bfr_br 3 (pc1 := 32) (L1 := [some (.ref 0), some (.int x1), some (.int x2)]) (J1 := []) (st1 := []) (w1 := mkC ra rb 1 1 rf rg σ) (pc2 := 18) (L2 := [some (.ref 0), some (.int x1), some (.int x2)]) (J2 := []) (st2 := []) (w2 := mkC ra rb 1 1 rf rg σ) (fun _ _ => rfl) h (fun h => ?_) (fun h => ?_)
    · cases h
      exact bfr_ret 1 (fun _ _ => rfl)
    · refine bfr_call 4 (d1 := d + 5) (M1 := M_X1_ruleHour) (vs := [(.ref 35), (.int ci_m1)]) (w1 := mkC ra rb 1 1 rf rg σ) (pc2 := 26) (L2 := [some (.ref 0), some (.int x1), some (.int x2)]) (J2 := []) (rest := []) (fun _ => none) (fun a => mkC ra rb 1 1 rf rg a) (fun _ _ => rfl) h (fun a ha => k_cGoing_ruleHour_d n (d + 0) _ _ _ _ _ _ _ _ ha) (fun q1 _ h => ?_)
      refine bfr_run 1 29 [some (.ref 0), some (.int x1), some (.int (x2 + ci_1))] [] [] (mkC ra rb 1 1 rf rg q1) (fun _ _ => rfl) ?_
      refine bfr_run 1 13 [some (.ref 0), some (.int x1), some (.int (x2 + ci_1))] [] [] (mkC ra rb 1 1 rf rg q1) (fun _ _ => rfl) ?_
      exact ih _ _ _ _ _ _ _ h
set_option maxRecDepth 100000 in
theorem k_cTop_dreamHours (n d : Nat) (q : bS) (x1 : Int32) (ra : Nat) (rb : Nat) (re : Nat) (rf : Value) (rg : Value) (σ : bS) (h : cTop_dreamHours n x1 σ = some q) : bfr MT (d + 6) M_X11_dreamHours 0 [some (.ref 0), some (.int x1), none] [] [] (mkC ra rb 1 re rf rg σ) (none, mkC ra rb 1 1 rf rg q) := by
  unfold cTop_dreamHours at h
  refine bfr_call 5 (d1 := d + 5) (M1 := M_X1_copyFrom) (vs := [(.ref 35), (.ref 27)]) (w1 := mkC ra rb 1 re rf rg σ) (pc2 := 11) (L2 := [some (.ref 0), some (.int x1), none]) (J2 := []) (rest := []) (fun _ => none) (fun a => mkC ra rb 1 1 rf rg a) (fun _ _ => rfl) h (fun a ha => k_cGoing_copyFrom_d_27 n (d + 4) _ _ _ _ _ _ _ _ ha) (fun q2 _ h => ?_)
  refine bfr_run 2 13 [some (.ref 0), some (.int x1), some (.int ci_0)] [] [] (mkC ra rb 1 1 rf rg q2) (fun _ _ => rfl) ?_
  exact k_cTop_dreamHours_b13 n d q _ _ _ _ _ _ _ _ h
set_option maxRecDepth 100000 in
theorem k_cTop_where_b15 (n d : Nat) (q : (Int32 × bS)) (o0 : Option Value) (o1 : Option Value) (o2 : Option Value) (rb : Nat) (re : Nat) (rf : Value) (rg : Value) (σ : bS) (h : cTop_where_b15 n σ = some q) : bfx MT (d + 7) M_X11_where 15 [o0, o1, o2] [] [] (mkC 1 rb 1 re rf rg σ) (fun ze => (some (.int q.1), mkC 1 rb 1 ze rf rg q.2)) := by
  unfold cTop_where_b15 at h
  cases h
  exact ⟨re, bfr_ret 2 (fun _ _ => rfl)⟩
set_option maxRecDepth 100000 in
theorem k_cTop_where (n d : Nat) (q : (Int32 × bS)) (x1 : Int32) (x2 : Int32) (rb : Nat) (re : Nat) (rf : Value) (rg : Value) (σ : bS) (h : cTop_where n x1 x2 σ = some q) : bfx MT (d + 7) M_X11_where 0 [some (.ref 0), some (.int x1), some (.int x2)] [] [] (mkC 1 rb 1 re rf rg σ) (fun ze => (some (.int q.1), mkC 1 rb 1 ze rf rg q.2)) := by
  unfold cTop_where at h
  refine bfx_call 3 (d1 := d + 6) (M1 := M_X11_isMan) (vs := [(.ref 0), (.int x1)]) (w1 := mkC 1 rb 1 re rf rg σ) (pc2 := 5) (L2 := [some (.ref 0), some (.int x1), some (.int x2)]) (J2 := []) (rest := []) (fun a => some (.int a.1)) (fun a => mkC 1 rb 1 re rf rg a.2) (fun _ _ => rfl) h (fun a ha => k_cTop_isMan n (d + 6) _ _ _ _ _ _ _ _ ha) (fun q1 _ h => ?_)
  refine bfx_br 1 (pc1 := 15) (L1 := [some (.ref 0), some (.int x1), some (.int x2)]) (J1 := []) (st1 := []) (w1 := mkC 1 rb 1 re rf rg q1.2) (pc2 := 8) (L2 := [some (.ref 0), some (.int x1), some (.int x2)]) (J2 := []) (st2 := []) (w2 := mkC 1 rb 1 re rf rg q1.2) (fun _ _ => rfl) h (fun h => ?_) (fun h => ?_)
  · exact k_cTop_where_b15 n d q _ _ _ _ _ _ _ _ h
  · refine bfx_call 2 (d1 := d + 6) (M1 := M_X11_isFar) (vs := [(.int x2)]) (w1 := mkC 1 rb 1 re rf rg q1.2) (pc2 := 12) (L2 := [some (.ref 0), some (.int x1), some (.int x2)]) (J2 := []) (rest := []) (fun a => some (.int a.1)) (fun a => mkC 1 rb 1 re rf rg a.2) (fun _ _ => rfl) h (fun a ha => k_cTop_isFar n (d + 6) _ _ _ _ _ _ _ _ _ ha) (fun q2 _ h => ?_)
    refine bfx_br 1 (pc1 := 15) (L1 := [some (.ref 0), some (.int x1), some (.int x2)]) (J1 := []) (st1 := []) (w1 := mkC 1 rb 1 re rf rg q2.2) (pc2 := 17) (L2 := [some (.ref 0), some (.int x1), some (.int x2)]) (J2 := []) (st2 := []) (w2 := mkC 1 rb 1 re rf rg q2.2) (fun _ _ => rfl) h (fun h => ?_) (fun h => ?_)
    · exact k_cTop_where_b15 n d q _ _ _ _ _ _ _ _ h
    · refine bfx_call 3 (d1 := d + 6) (M1 := M_X11_dreamHours) (vs := [(.ref 0), (.int x2)]) (w1 := mkC 1 rb 1 re rf rg q2.2) (pc2 := 22) (L2 := [some (.ref 0), some (.int x1), some (.int x2)]) (J2 := []) (rest := []) (fun _ => none) (fun a => mkC 1 rb 1 1 rf rg a) (fun _ _ => rfl) h (fun a ha => k_cTop_dreamHours n (d + 0) _ _ _ _ _ _ _ _ ha) (fun q3 _ h => ?_)
      refine bfx_in (i := x1) (m := 7) 5 (pc1 := 31) (L1 := [some (.ref 0), some (.int x1), some (.int x2)]) (J1 := []) (st1 := [(.int (sA q3 38 x1))]) (w1 := mkC 1 rb 1 1 rf rg q3) (fun _ _ => rfl) h (fun h => ?_)
      refine bfx_call 1 (d1 := d + 6) (M1 := M_X11_orNot) (vs := [(.int (sA q3 38 x1))]) (w1 := mkC 1 rb 1 1 rf rg q3) (pc2 := 34) (L2 := [some (.ref 0), some (.int x1), some (.int x2)]) (J2 := []) (rest := []) (fun a => some (.int a.1)) (fun a => mkC 1 rb 1 1 rf rg a.2) (fun _ _ => rfl) h (fun a ha => k_cTop_orNot n (d + 6) _ _ _ _ _ _ _ _ _ ha) (fun q4 _ h => ?_)
      cases h
      exact ⟨1, bfr_ret 1 (fun _ _ => rfl)⟩
set_option maxRecDepth 100000 in
theorem k_cTop_last_b15 (n d : Nat) (q : (Int32 × bS)) (o0 : Option Value) (o1 : Option Value) (o2 : Option Value) (rb : Nat) (re : Nat) (rf : Value) (rg : Value) (σ : bS) (h : cTop_last_b15 n σ = some q) : bfx MT (d + 7) M_X11_last 15 [o0, o1, o2] [] [] (mkC 1 rb 1 re rf rg σ) (fun ze => (some (.int q.1), mkC 1 rb 1 ze rf rg q.2)) := by
  unfold cTop_last_b15 at h
  cases h
  exact ⟨re, bfr_ret 2 (fun _ _ => rfl)⟩
set_option maxRecDepth 100000 in
theorem k_cTop_last (n d : Nat) (q : (Int32 × bS)) (x1 : Int32) (x2 : Int32) (rb : Nat) (re : Nat) (rf : Value) (rg : Value) (σ : bS) (h : cTop_last n x1 x2 σ = some q) : bfx MT (d + 7) M_X11_last 0 [some (.ref 0), some (.int x1), some (.int x2)] [] [] (mkC 1 rb 1 re rf rg σ) (fun ze => (some (.int q.1), mkC 1 rb 1 ze rf rg q.2)) := by
  unfold cTop_last at h
  refine bfx_call 3 (d1 := d + 6) (M1 := M_X11_isBridge) (vs := [(.ref 0), (.int x1)]) (w1 := mkC 1 rb 1 re rf rg σ) (pc2 := 5) (L2 := [some (.ref 0), some (.int x1), some (.int x2)]) (J2 := []) (rest := []) (fun a => some (.int a.1)) (fun a => mkC 1 rb 1 re rf rg a.2) (fun _ _ => rfl) h (fun a ha => k_cTop_isBridge n (d + 6) _ _ _ _ _ _ _ _ ha) (fun q1 _ h => ?_)
  refine bfx_br 1 (pc1 := 15) (L1 := [some (.ref 0), some (.int x1), some (.int x2)]) (J1 := []) (st1 := []) (w1 := mkC 1 rb 1 re rf rg q1.2) (pc2 := 8) (L2 := [some (.ref 0), some (.int x1), some (.int x2)]) (J2 := []) (st2 := []) (w2 := mkC 1 rb 1 re rf rg q1.2) (fun _ _ => rfl) h (fun h => ?_) (fun h => ?_)
  · exact k_cTop_last_b15 n d q _ _ _ _ _ _ _ _ h
  · refine bfx_call 2 (d1 := d + 6) (M1 := M_X11_isFar) (vs := [(.int x2)]) (w1 := mkC 1 rb 1 re rf rg q1.2) (pc2 := 12) (L2 := [some (.ref 0), some (.int x1), some (.int x2)]) (J2 := []) (rest := []) (fun a => some (.int a.1)) (fun a => mkC 1 rb 1 re rf rg a.2) (fun _ _ => rfl) h (fun a ha => k_cTop_isFar n (d + 6) _ _ _ _ _ _ _ _ _ ha) (fun q2 _ h => ?_)
    refine bfx_br 1 (pc1 := 15) (L1 := [some (.ref 0), some (.int x1), some (.int x2)]) (J1 := []) (st1 := []) (w1 := mkC 1 rb 1 re rf rg q2.2) (pc2 := 17) (L2 := [some (.ref 0), some (.int x1), some (.int x2)]) (J2 := []) (st2 := []) (w2 := mkC 1 rb 1 re rf rg q2.2) (fun _ _ => rfl) h (fun h => ?_) (fun h => ?_)
    · exact k_cTop_last_b15 n d q _ _ _ _ _ _ _ _ h
    · refine bfx_call 3 (d1 := d + 6) (M1 := M_X11_dreamHours) (vs := [(.ref 0), (.int x2)]) (w1 := mkC 1 rb 1 re rf rg q2.2) (pc2 := 22) (L2 := [some (.ref 0), some (.int x1), some (.int x2)]) (J2 := []) (rest := []) (fun _ => none) (fun a => mkC 1 rb 1 1 rf rg a) (fun _ _ => rfl) h (fun a ha => k_cTop_dreamHours n (d + 0) _ _ _ _ _ _ _ _ ha) (fun q3 _ h => ?_)
      refine bfx_in (i := x1) (m := 4) 5 (pc1 := 31) (L1 := [some (.ref 0), some (.int x1), some (.int x2)]) (J1 := []) (st1 := [(.int (sA q3 36 x1))]) (w1 := mkC 1 rb 1 1 rf rg q3) (fun _ _ => rfl) h (fun h => ?_)
      refine bfx_call 1 (d1 := d + 6) (M1 := M_X11_orNot) (vs := [(.int (sA q3 36 x1))]) (w1 := mkC 1 rb 1 1 rf rg q3) (pc2 := 34) (L2 := [some (.ref 0), some (.int x1), some (.int x2)]) (J2 := []) (rest := []) (fun a => some (.int a.1)) (fun a => mkC 1 rb 1 1 rf rg a.2) (fun _ _ => rfl) h (fun a ha => k_cTop_orNot n (d + 6) _ _ _ _ _ _ _ _ _ ha) (fun q4 _ h => ?_)
      cases h
      exact ⟨1, bfr_ret 1 (fun _ _ => rfl)⟩
