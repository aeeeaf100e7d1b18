set_option maxRecDepth 100000 in
theorem k_cMarket_lineUp_b42 (n d : Nat) (r7 : Int32 → Int32 → bS → Option bS) (q : bS) (hr7 : ∀ (x1 : Int32) (x2 : Int32) (ra : Nat) (rb : Nat) (rc : Nat) (re : Nat) (rf : Value) (rg : Value) (σ : bS), r7 x1 x2 σ = some q → bfr MT (d + 0) M_X3_lineUp 7 [some (.ref 71), some (.int x1), some (.int x2)] [] [] (mkC ra rb rc re rf rg σ) (none, mkC ra rb rc re rf rg q)) (x1 : Int32) (x2 : Int32) (ra : Nat) (rb : Nat) (rc : Nat) (re : Nat) (rf : Value) (rg : Value) (σ : bS) (h : cMarket_lineUp_b42 n r7 x1 x2 σ = some q) : bfr MT (d + 0) M_X3_lineUp 42 [some (.ref 71), some (.int x1), some (.int x2)] [] [] (mkC ra rb rc re rf rg σ) (none, mkC ra rb rc re rf rg q) := by
  unfold cMarket_lineUp_b42 at h
  refine bfr_run 1 45 [some (.ref 71), some (.int x1), some (.int (x2 + ci_1))] [] [] (mkC ra rb rc re rf rg σ) (fun _ _ => rfl) ?_
  refine bfr_run 1 7 [some (.ref 71), some (.int x1), some (.int (x2 + ci_1))] [] [] (mkC ra rb rc re rf rg σ) (fun _ _ => rfl) ?_
  exact hr7 _ _ _ _ _ _ _ _ _ h
set_option maxRecDepth 100000 in
theorem k_cMarket_lineUp_b7 (n d : Nat) (q : bS) : ∀ (k : Nat) (x1 : Int32) (x2 : Int32) (ra : Nat) (rb : Nat) (rc : Nat) (re : Nat) (rf : Value) (rg : Value) (σ : bS), cMarket_lineUp_b7 n k x1 x2 σ = some q → bfr MT (d + 0) M_X3_lineUp 7 [some (.ref 71), some (.int x1), some (.int x2)] [] [] (mkC ra rb rc re rf rg σ) (none, mkC ra rb rc re rf rg q) := by
  intro k
  induction k with
  | zero => intro x1 x2 ra rb rc re rf rg σ h; exact bno h
  | succ k ih =>
    intro x1 x2 ra rb rc re rf rg σ h
    unfold cMarket_lineUp_b7 at h
    refine bfr_br 3 (pc1 := 48) (L1 := [some (.ref 71), some (.int x1), some (.int x2)]) (J1 := []) (st1 := []) (w1 := mkC ra rb rc re rf rg σ) (pc2 := 13) (L2 := [some (.ref 71), some (.int x1), some (.int x2)]) (J2 := []) (st2 := []) (w2 := mkC ra rb rc re rf rg σ) (fun _ _ => rfl) h (fun h => ?_) (fun h => ?_)
    · cases h
      exact bfr_ret 1 (fun _ _ => rfl)
    · refine bfr_run 6 19 [some (.ref 71), some (.int x1), some (.int x2)] [] [(.int ci_1), (.int ((x1 >>> (x2 &&& 31)) &&& ci_1))] (mkC ra rb rc re rf rg σ) (fun _ _ => rfl) ?_
      refine bfr_br 1 (pc1 := 22) (L1 := [some (.ref 71), some (.int x1), some (.int x2)]) (J1 := []) (st1 := []) (w1 := mkC ra rb rc re rf rg σ) (pc2 := 42) (L2 := [some (.ref 71), some (.int x1), some (.int x2)]) (J2 := []) (st2 := []) (w2 := mkC ra rb rc re rf rg σ) (fun _ _ => rfl) h (fun h => ?_) (fun h => ?_)
      · refine bfr_in (i := (sI σ 71 5)) (m := 7) 6 (pc1 := 32) (L1 := [some (.ref 71), some (.int x1), some (.int x2)]) (J1 := []) (st1 := []) (w1 := ((mkC ra rb rc re rf rg σ).set 74 (.inl (0, 7, upd (σ.2.1 74) ((sI σ 71 5)).toNatClampNeg x2)))) (fun _ _ => rfl) h (fun h => ?_)
        rw [mkC_A74]
        refine bfr_run 6 42 [some (.ref 71), some (.int x1), some (.int x2)] [] [] ((mkC ra rb rc re rf rg (uA σ 74 (sI σ 71 5) x2)).set 71 (.inr (.inr (3, (mkC_71  ra rb rc re rf rg (uA σ 74 (sI σ 71 5) x2)).set 5 (.int ((sI (uA σ 74 (sI σ 71 5) x2) 71 5) + ci_1)))))) (fun _ _ => rfl) ?_
        rw [mkC_I71_5]
        exact k_cMarket_lineUp_b42 n d _ q (ih) _ _ _ _ _ _ _ _ _ h
      · exact k_cMarket_lineUp_b42 n d _ q (ih) _ _ _ _ _ _ _ _ _ h
set_option maxRecDepth 100000 in
theorem k_cMarket_lineUp (n d : Nat) (q : bS) (x1 : Int32) (ra : Nat) (rb : Nat) (rc : Nat) (re : Nat) (rf : Value) (rg : Value) (σ : bS) (h : cMarket_lineUp n x1 σ = some q) : bfr MT (d + 0) M_X3_lineUp 0 [some (.ref 71), some (.int x1), none] [] [] (mkC ra rb rc re rf rg σ) (none, mkC ra rb rc re rf rg q) := by
  unfold cMarket_lineUp at h
  refine bfr_run 3 5 [some (.ref 71), some (.int x1), none] [] [] ((mkC ra rb rc re rf rg σ).set 71 (.inr (.inr (3, (mkC_71  ra rb rc re rf rg σ).set 5 (.int ci_0))))) (fun _ _ => rfl) ?_
  rw [mkC_I71_5]
  refine bfr_run 2 7 [some (.ref 71), some (.int x1), some (.int ci_0)] [] [] (mkC ra rb rc re rf rg (uI σ 71 5 ci_0)) (fun _ _ => rfl) ?_
  exact k_cMarket_lineUp_b7 n d q _ _ _ _ _ _ _ _ _ _ h
set_option maxRecDepth 100000 in
theorem k_cMarket_findNeeds_b98 (n d : Nat) (r61 : Int32 → bS → Option (Int32 × bS)) (q : (Int32 × bS)) (hr61 : ∀ (x3 : Int32) (o1 : Option Value) (ra : Nat) (rb : Nat) (re : Nat) (rf : Value) (rg : Value) (σ : bS), r61 x3 σ = some q → bfr MT (d + 0) M_X3_findNeeds 61 [some (.ref 71), o1, some (.ref 6), some (.int x3)] [] [] (mkC ra rb 1 re rf rg σ) (some (.int q.1), mkC ra rb 1 re rf rg q.2)) (x3 : Int32) (s1 : Int32) (s2 : Int32) (o1 : Option Value) (ra : Nat) (rb : Nat) (re : Nat) (rf : Value) (rg : Value) (σ : bS) (h : cMarket_findNeeds_b98 n r61 x3 s1 s2 σ = some q) : bfr MT (d + 0) M_X3_findNeeds 98 [some (.ref 71), o1, some (.ref 6), some (.int x3)] [] [(.int s2), (.int s1), (.ref 73)] (mkC ra rb 1 re rf rg σ) (some (.int q.1), mkC ra rb 1 re rf rg q.2) := by
  unfold cMarket_findNeeds_b98 at h
  refine bfr_in (i := s1) (m := 7) 1 (pc1 := 99) (L1 := [some (.ref 71), o1, some (.ref 6), some (.int x3)]) (J1 := []) (st1 := []) (w1 := ((mkC ra rb 1 re rf rg σ).set 73 (.inl (0, 7, upd (σ.2.1 73) (s1).toNatClampNeg s2)))) (fun _ _ => rfl) h (fun h => ?_)
  rw [mkC_A73]
  refine bfr_run 1 102 [some (.ref 71), o1, some (.ref 6), some (.int (x3 + ci_1))] [] [] (mkC ra rb 1 re rf rg (uA σ 73 s1 s2)) (fun _ _ => rfl) ?_
  refine bfr_run 1 61 [some (.ref 71), o1, some (.ref 6), some (.int (x3 + ci_1))] [] [] (mkC ra rb 1 re rf rg (uA σ 73 s1 s2)) (fun _ _ => rfl) ?_
  exact hr61 _ _ _ _ _ _ _ _ h
set_option maxRecDepth 100000 in
theorem k_cMarket_findNeeds_b61 (n d : Nat) (q : (Int32 × bS)) : ∀ (k : Nat) (x3 : Int32) (o1 : Option Value) (ra : Nat) (rb : Nat) (re : Nat) (rf : Value) (rg : Value) (σ : bS), cMarket_findNeeds_b61 n k x3 σ = some q → bfr MT (d + 0) M_X3_findNeeds 61 [some (.ref 71), o1, some (.ref 6), some (.int x3)] [] [] (mkC ra rb 1 re rf rg σ) (some (.int q.1), mkC ra rb 1 re rf rg q.2) := by
  intro k
  induction k with
  | zero => intro x3 o1 ra rb re rf rg σ h; exact bno h
  | succ k ih =>
    intro x3 o1 ra rb re rf rg σ h
    unfold cMarket_findNeeds_b61 at h
    refine bfr_br 4 (pc1 := 105) (L1 := [some (.ref 71), o1, some (.ref 6), some (.int x3)]) (J1 := []) (st1 := []) (w1 := mkC ra rb 1 re rf rg σ) (pc2 := 69) (L2 := [some (.ref 71), o1, some (.ref 6), some (.int x3)]) (J2 := []) (st2 := []) (w2 := mkC ra rb 1 re rf rg σ) (fun _ _ => rfl) h (fun h => ?_) (fun h => ?_)
    · exact bfr_bz (mk := mkC ra rb 1 re rf rg) 2 (fun _ _ => rfl) h
    · refine bfr_run 6 77 [some (.ref 71), o1, some (.ref 6), some (.int x3)] [] [(.int (x3 + ci_1)), (.int x3), (.ref 73)] (mkC ra rb 1 re rf rg σ) (fun _ _ => rfl) ?_
      refine bfr_br 3 (pc1 := 97) (L1 := [some (.ref 71), o1, some (.ref 6), some (.int x3)]) (J1 := []) (st1 := [(.int x3), (.ref 73)]) (w1 := mkC ra rb 1 re rf rg σ) (pc2 := 84) (L2 := [some (.ref 71), o1, some (.ref 6), some (.int x3)]) (J2 := []) (st2 := [(.int x3), (.ref 73)]) (w2 := mkC ra rb 1 re rf rg σ) (fun _ _ => rfl) h (fun h => ?_) (fun h => ?_)
      · refine bfr_run 1 98 [some (.ref 71), o1, some (.ref 6), some (.int x3)] [] [(.int ci_m1), (.int x3), (.ref 73)] (mkC ra rb 1 re rf rg σ) (fun _ _ => rfl) ?_
        exact k_cMarket_findNeeds_b98 n d _ q (ih) _ _ _ _ _ _ _ _ _ _ h
      · refine bfr_run 6 92 [some (.ref 71), o1, some (.ref 6), some (.int x3)] [] [(.int (x3 + ci_1)), (.ref 74), (.ref 6), (.int x3), (.ref 73)] (mkC ra rb 1 re rf rg σ) (fun _ _ => rfl) ?_
        refine bfr_in (i := (x3 + ci_1)) (m := 7) 1 (pc1 := 93) (L1 := [some (.ref 71), o1, some (.ref 6), some (.int x3)]) (J1 := []) (st1 := [(.int (sA σ 74 (x3 + ci_1))), (.ref 6), (.int x3), (.ref 73)]) (w1 := mkC ra rb 1 re rf rg σ) (fun _ _ => rfl) h (fun h => ?_)
        refine bfr_in (i := (sA σ 74 (x3 + ci_1))) (m := 7) 1 (pc1 := 94) (L1 := [some (.ref 71), o1, some (.ref 6), some (.int x3)]) (J1 := []) (st1 := [(.int (sA σ 6 (sA σ 74 (x3 + ci_1)))), (.int x3), (.ref 73)]) (w1 := mkC ra rb 1 re rf rg σ) (fun _ _ => rfl) h (fun h => ?_)
        refine bfr_run 1 98 [some (.ref 71), o1, some (.ref 6), some (.int x3)] [] [(.int (sA σ 6 (sA σ 74 (x3 + ci_1)))), (.int x3), (.ref 73)] (mkC ra rb 1 re rf rg σ) (fun _ _ => rfl) ?_
        exact k_cMarket_findNeeds_b98 n d _ q (ih) _ _ _ _ _ _ _ _ _ _ h
set_option maxRecDepth 100000 in
theorem k_cMarket_findNeeds_b59 (n d : Nat) (q : (Int32 × bS)) (o1 : Option Value) (o3 : Option Value) (ra : Nat) (rb : Nat) (re : Nat) (rf : Value) (rg : Value) (σ : bS) (h : cMarket_findNeeds_b59 n σ = some q) : bfr MT (d + 0) M_X3_findNeeds 59 [some (.ref 71), o1, some (.ref 6), o3] [] [] (mkC ra rb 1 re rf rg σ) (some (.int q.1), mkC ra rb 1 re rf rg q.2) := by
  unfold cMarket_findNeeds_b59 at h
  refine bfr_run 2 61 [some (.ref 71), o1, some (.ref 6), some (.int ci_0)] [] [] (mkC ra rb 1 re rf rg σ) (fun _ _ => rfl) ?_
  exact k_cMarket_findNeeds_b61 n d q _ _ _ _ _ _ _ _ _ h
set_option maxRecDepth 100000 in
theorem k_cMarket_findNeeds_b57 (n d : Nat) (q : (Int32 × bS)) (o0 : Option Value) (o1 : Option Value) (o2 : Option Value) (o3 : Option Value) (ra : Nat) (rb : Nat) (re : Nat) (rf : Value) (rg : Value) (σ : bS) (h : cMarket_findNeeds_b57 n σ = some q) : bfr MT (d + 0) M_X3_findNeeds 57 [o0, o1, o2, o3] [] [] (mkC ra rb 1 re rf rg σ) (some (.int q.1), mkC ra rb 1 re rf rg q.2) := by
  unfold cMarket_findNeeds_b57 at h
  exact bfr_bz (mk := mkC ra rb 1 re rf rg) 2 (fun _ _ => rfl) h
set_option maxRecDepth 100000 in
theorem k_cMarket_findNeeds (n d : Nat) (q : (Int32 × bS)) (x1 : Int32) (ra : Nat) (rb : Nat) (re : Nat) (rf : Value) (rg : Value) (σ : bS) (h : cMarket_findNeeds n x1 σ = some q) : bfr MT (d + 0) M_X3_findNeeds 0 [some (.ref 71), some (.int x1), none, none] [] [] (mkC ra rb 1 re rf rg σ) (some (.int q.1), mkC ra rb 1 re rf rg q.2) := by
  unfold cMarket_findNeeds at h
  refine bfr_run 6 12 [some (.ref 71), some (.int x1), some (.ref 6), none] [] [(.int x1)] (mkC ra rb 1 re rf rg σ) (fun _ _ => rfl) ?_
  refine bfr_br 1 (pc1 := 45) (L1 := [some (.ref 71), some (.int x1), some (.ref 6), none]) (J1 := []) (st1 := []) (w1 := mkC ra rb 1 re rf rg σ) (pc2 := 15) (L2 := [some (.ref 71), some (.int x1), some (.ref 6), none]) (J2 := []) (st2 := []) (w2 := mkC ra rb 1 re rf rg σ) (fun _ _ => rfl) h (fun h => ?_) (fun h => ?_)
  · refine bfr_in (i := ci_0) (m := 7) 5 (pc1 := 52) (L1 := [some (.ref 71), some (.int x1), some (.ref 6), none]) (J1 := []) (st1 := [(.int (sA σ 74 ci_0)), (.ref 6)]) (w1 := mkC ra rb 1 re rf rg σ) (fun _ _ => rfl) h (fun h => ?_)
    refine bfr_in (i := (sA σ 74 ci_0)) (m := 7) 1 (pc1 := 53) (L1 := [some (.ref 71), some (.int x1), some (.ref 6), none]) (J1 := []) (st1 := [(.int (sA σ 6 (sA σ 74 ci_0)))]) (w1 := mkC ra rb 1 re rf rg σ) (fun _ _ => rfl) h (fun h => ?_)
    refine bfr_br 2 (pc1 := 59) (L1 := [some (.ref 71), some (.int x1), some (.ref 6), none]) (J1 := []) (st1 := []) (w1 := mkC ra rb 1 re rf rg σ) (pc2 := 57) (L2 := [some (.ref 71), some (.int x1), some (.ref 6), none]) (J2 := []) (st2 := []) (w2 := mkC ra rb 1 re rf rg σ) (fun _ _ => rfl) h (fun h => ?_) (fun h => ?_)
    · exact k_cMarket_findNeeds_b59 n d q _ _ _ _ _ _ _ _ h
    · exact k_cMarket_findNeeds_b57 n d q _ _ _ _ _ _ _ _ _ _ h
  · refine bfr_br 4 (pc1 := 57) (L1 := [some (.ref 71), some (.int x1), some (.ref 6), none]) (J1 := []) (st1 := []) (w1 := mkC ra rb 1 re rf rg σ) (pc2 := 23) (L2 := [some (.ref 71), some (.int x1), some (.ref 6), none]) (J2 := []) (st2 := []) (w2 := mkC ra rb 1 re rf rg σ) (fun _ _ => rfl) h (fun h => ?_) (fun h => ?_)
    · exact k_cMarket_findNeeds_b57 n d q _ _ _ _ _ _ _ _ _ _ h
    · refine bfr_in (i := ci_0) (m := 7) 5 (pc1 := 30) (L1 := [some (.ref 71), some (.int x1), some (.ref 6), none]) (J1 := []) (st1 := [(.int (sA σ 74 ci_0)), (.ref 6)]) (w1 := mkC ra rb 1 re rf rg σ) (fun _ _ => rfl) h (fun h => ?_)
      refine bfr_in (i := (sA σ 74 ci_0)) (m := 7) 1 (pc1 := 31) (L1 := [some (.ref 71), some (.int x1), some (.ref 6), none]) (J1 := []) (st1 := [(.int (sA σ 6 (sA σ 74 ci_0)))]) (w1 := mkC ra rb 1 re rf rg σ) (fun _ _ => rfl) h (fun h => ?_)
      refine bfr_in (i := ci_1) (m := 7) 5 (pc1 := 38) (L1 := [some (.ref 71), some (.int x1), some (.ref 6), none]) (J1 := []) (st1 := [(.int (sA σ 74 ci_1)), (.ref 6), (.int (sA σ 6 (sA σ 74 ci_0)))]) (w1 := mkC ra rb 1 re rf rg σ) (fun _ _ => rfl) h (fun h => ?_)
      refine bfr_in (i := (sA σ 74 ci_1)) (m := 7) 1 (pc1 := 39) (L1 := [some (.ref 71), some (.int x1), some (.ref 6), none]) (J1 := []) (st1 := [(.int (sA σ 6 (sA σ 74 ci_1))), (.int (sA σ 6 (sA σ 74 ci_0)))]) (w1 := mkC ra rb 1 re rf rg σ) (fun _ _ => rfl) h (fun h => ?_)
      refine bfr_br 1 (pc1 := 59) (L1 := [some (.ref 71), some (.int x1), some (.ref 6), none]) (J1 := []) (st1 := []) (w1 := mkC ra rb 1 re rf rg σ) (pc2 := 42) (L2 := [some (.ref 71), some (.int x1), some (.ref 6), none]) (J2 := []) (st2 := []) (w2 := mkC ra rb 1 re rf rg σ) (fun _ _ => rfl) h (fun h => ?_) (fun h => ?_)
      · exact k_cMarket_findNeeds_b59 n d q _ _ _ _ _ _ _ _ h
      · refine bfr_run 1 57 [some (.ref 71), some (.int x1), some (.ref 6), none] [] [] (mkC ra rb 1 re rf rg σ) (fun _ _ => rfl) ?_
        exact k_cMarket_findNeeds_b57 n d q _ _ _ _ _ _ _ _ _ _ h
set_option maxRecDepth 100000 in
theorem k_cGoing_fancyAs (n d : Nat) (q : (Int32 × bS)) (x1 : Int32) (x2 : Int32) (x3 : Int32) (ra : Nat) (rb : Nat) (re : Nat) (rf : Value) (rg : Value) (σ : bS) (h : cGoing_fancyAs n x1 x2 x3 σ = some q) : bfr MT (d + 2) M_X1_fancyAs 0 [some (.ref 27), some (.int x1), some (.int x2), some (.int x3)] [] [] (mkC ra rb 1 re rf rg σ) (some (.int q.1), mkC ra rb 1 re rf rg q.2) := by
  unfold cGoing_fancyAs at h
  refine bfr_br 4 (pc1 := 12) (L1 := [some (.ref 27), some (.int x1), some (.int x2), some (.int x3)]) (J1 := []) (st1 := []) (w1 := mkC ra rb 1 re rf rg σ) (pc2 := 10) (L2 := [some (.ref 27), some (.int x1), some (.int x2), some (.int x3)]) (J2 := []) (st2 := []) (w2 := mkC ra rb 1 re rf rg σ) (fun _ _ => rfl) h (fun h => ?_) (fun h => ?_)
  · refine bfr_call 5 (d1 := d + 1) (M1 := M_X1_look) (vs := [(.ref 27), (.int x1), (.int x2), (.int x3)]) (w1 := mkC ra rb 1 re rf rg σ) (pc2 := 19) (L2 := [some (.ref 27), some (.int x1), some (.int x2), some (.int x3)]) (J2 := []) (rest := []) (fun _ => none) (fun a => mkC ra rb 1 re rf rg a) (fun _ _ => rfl) h (fun a ha => k_cGoing_look n (d + 0) _ _ _ _ _ _ _ _ _ _ ha) (fun q1 _ h => ?_)
    refine bfr_run 6 33 [some (.ref 27), some (.int x1), some (.int x2), some (.int x3)] [] [(.int (sI q1 1 14)), (.ref 10)] (mkC ra rb 1 re rf rg q1) (fun _ _ => rfl) ?_
    refine bfr_call 1 (d1 := d + 1) (M1 := M_X2_valueOf) (vs := [(.ref 10), (.int (sI q1 1 14))]) (w1 := mkC ra rb 1 re rf rg q1) (pc2 := 36) (L2 := [some (.ref 27), some (.int x1), some (.int x2), some (.int x3)]) (J2 := []) (rest := []) (fun a => some (.int a.1)) (fun a => mkC ra rb 1 re rf rg a.2) (fun _ _ => rfl) h (fun a ha => k_cLaws_valueOf n (d + 0) _ _ _ _ _ _ _ _ _ ha) (fun q2 _ h => ?_)
    refine bfr_call 3 (d1 := d + 1) (M1 := M_X1_held) (vs := [(.int q2.1), (.int cb_m99), (.int cb_99)]) (w1 := mkC ra rb 1 re rf rg q2.2) (pc2 := 43) (L2 := [some (.ref 27), some (.int x1), some (.int x2), some (.int x3)]) (J2 := []) (rest := []) (fun a => some (.int a.1)) (fun a => mkC ra rb 1 re rf rg a.2) (fun _ _ => rfl) h (fun a ha => k_cGoing_held n (d + 0) _ _ _ _ _ _ _ _ _ _ _ ha) (fun q3 _ h => ?_)
    cases h
    exact bfr_ret 1 (fun _ _ => rfl)
  · cases h
    exact bfr_ret 2 (fun _ _ => rfl)
set_option maxRecDepth 100000 in
theorem k_cMarket_askFancies_b12 (n d : Nat) (r2 : Int32 → bS → Option bS) (q : bS) (hr2 : ∀ (x1 : Int32) (o2 : Option Value) (ra : Nat) (rb : Nat) (re : Nat) (rf : Value) (rg : Value) (σ : bS), r2 x1 σ = some q → bfr MT (d + 3) M_X3_askFancies 2 [some (.ref 71), some (.int x1), o2] [] [] (mkC ra rb 1 re rf rg σ) (none, mkC ra rb 1 re rf rg q)) : ∀ (k : Nat) (x1 : Int32) (x2 : Int32) (ra : Nat) (rb : Nat) (re : Nat) (rf : Value) (rg : Value) (σ : bS), cMarket_askFancies_b12 n r2 k x1 x2 σ = some q → bfr MT (d + 3) M_X3_askFancies 12 [some (.ref 71), some (.int x1), some (.int x2)] [] [] (mkC ra rb 1 re rf rg σ) (none, mkC ra rb 1 re rf rg q) := by
  intro k
  induction k with
  | zero => intro x1 x2 ra rb re rf rg σ h; exact bno h
  | succ k ih =>
    intro x1 x2 ra rb re rf rg σ h
    unfold cMarket_askFancies_b12 at h
    refine bfr_br 4 (pc1 := 60) (L1 := [some (.ref 71), some (.int x1), some (.int x2)]) (J1 := []) (st1 := []) (w1 := mkC ra rb 1 re rf rg σ) (pc2 := 20) (L2 := [some (.ref 71), some (.int x1), some (.int x2)]) (J2 := []) (st2 := []) (w2 := mkC ra rb 1 re rf rg σ) (fun _ _ => rfl) h (fun h => ?_) (fun h => ?_)
    · refine bfr_run 1 63 [some (.ref 71), some (.int (x1 + ci_1)), some (.int x2)] [] [] (mkC ra rb 1 re rf rg σ) (fun _ _ => rfl) ?_
      refine bfr_run 1 2 [some (.ref 71), some (.int (x1 + ci_1)), some (.int x2)] [] [] (mkC ra rb 1 re rf rg σ) (fun _ _ => rfl) ?_
      exact hr2 _ _ _ _ _ _ _ _ h
    · refine bfr_run 6 29 [some (.ref 71), some (.int x1), some (.int x2)] [] [(.int x2), (.int (x1 * cb_6)), (.ref 72)] (mkC ra rb 1 re rf rg σ) (fun _ _ => rfl) ?_
      refine bfr_run 6 39 [some (.ref 71), some (.int x1), some (.int x2)] [] [(.int x1), (.ref 74), (.ref 27), (.int ((x1 * cb_6) + x2)), (.ref 72)] (mkC ra rb 1 re rf rg σ) (fun _ _ => rfl) ?_
      refine bfr_in (i := x1) (m := 7) 1 (pc1 := 40) (L1 := [some (.ref 71), some (.int x1), some (.int x2)]) (J1 := []) (st1 := [(.int (sA σ 74 x1)), (.ref 27), (.int ((x1 * cb_6) + x2)), (.ref 72)]) (w1 := mkC ra rb 1 re rf rg σ) (fun _ _ => rfl) h (fun h => ?_)
      refine bfr_run 6 50 [some (.ref 71), some (.int x1), some (.int x2)] [] [(.int ((sI σ 27 2) + x1)), (.int x2), (.int (sA σ 74 x1)), (.ref 27), (.int ((x1 * cb_6) + x2)), (.ref 72)] (mkC ra rb 1 re rf rg σ) (fun _ _ => rfl) ?_
      refine bfr_call 1 (d1 := d + 2) (M1 := M_X1_fancyAs) (vs := [(.ref 27), (.int (sA σ 74 x1)), (.int x2), (.int ((sI σ 27 2) + x1))]) (w1 := mkC ra rb 1 re rf rg σ) (pc2 := 53) (L2 := [some (.ref 71), some (.int x1), some (.int x2)]) (J2 := []) (rest := [(.int ((x1 * cb_6) + x2)), (.ref 72)]) (fun a => some (.int a.1)) (fun a => mkC ra rb 1 re rf rg a.2) (fun _ _ => rfl) h (fun a ha => k_cGoing_fancyAs n (d + 0) _ _ _ _ _ _ _ _ _ _ ha) (fun q1 _ h => ?_)
      refine bfr_in (i := ((x1 * cb_6) + x2)) (m := 42) 1 (pc1 := 54) (L1 := [some (.ref 71), some (.int x1), some (.int x2)]) (J1 := []) (st1 := []) (w1 := ((mkC ra rb 1 re rf rg q1.2).set 72 (.inl (0, 42, upd (q1.2.2.1 72) (((x1 * cb_6) + x2)).toNatClampNeg q1.1)))) (fun _ _ => rfl) h (fun h => ?_)
      rw [mkC_A72]
      refine bfr_run 1 57 [some (.ref 71), some (.int x1), some (.int (x2 + ci_1))] [] [] (mkC ra rb 1 re rf rg (uA q1.2 72 ((x1 * cb_6) + x2) q1.1)) (fun _ _ => rfl) ?_
      refine bfr_run 1 12 [some (.ref 71), some (.int x1), some (.int (x2 + ci_1))] [] [] (mkC ra rb 1 re rf rg (uA q1.2 72 ((x1 * cb_6) + x2) q1.1)) (fun _ _ => rfl) ?_
      exact ih _ _ _ _ _ _ _ _ h
set_option maxRecDepth 100000 in
theorem k_cMarket_askFancies_b2 (n d : Nat) (q : bS) : ∀ (k : Nat) (x1 : Int32) (o2 : Option Value) (ra : Nat) (rb : Nat) (re : Nat) (rf : Value) (rg : Value) (σ : bS), cMarket_askFancies_b2 n k x1 σ = some q → bfr MT (d + 3) M_X3_askFancies 2 [some (.ref 71), some (.int x1), o2] [] [] (mkC ra rb 1 re rf rg σ) (none, mkC ra rb 1 re rf rg q) := by
  intro k
  induction k with
  | zero => intro x1 o2 ra rb re rf rg σ h; exact bno h
  | succ k ih =>
    intro x1 o2 ra rb re rf rg σ h
    unfold cMarket_askFancies_b2 at h
    refine bfr_br 4 (pc1 := 66) (L1 := [some (.ref 71), some (.int x1), o2]) (J1 := []) (st1 := []) (w1 := mkC ra rb 1 re rf rg σ) (pc2 := 10) (L2 := [some (.ref 71), some (.int x1), o2]) (J2 := []) (st2 := []) (w2 := mkC ra rb 1 re rf rg σ) (fun _ _ => rfl) h (fun h => ?_) (fun h => ?_)
    · cases h
      exact bfr_ret 1 (fun _ _ => rfl)
    · refine bfr_run 2 12 [some (.ref 71), some (.int x1), some (.int ci_0)] [] [] (mkC ra rb 1 re rf rg σ) (fun _ _ => rfl) ?_
      exact k_cMarket_askFancies_b12 n d _ q (ih) _ _ _ _ _ _ _ _ _ h
set_option maxRecDepth 100000 in
theorem k_cMarket_askFancies (n d : Nat) (q : bS) (ra : Nat) (rb : Nat) (re : Nat) (rf : Value) (rg : Value) (σ : bS) (h : cMarket_askFancies n σ = some q) : bfr MT (d + 3) M_X3_askFancies 0 [some (.ref 71), none, none] [] [] (mkC ra rb 1 re rf rg σ) (none, mkC ra rb 1 re rf rg q) := by
  unfold cMarket_askFancies at h
  refine bfr_run 2 2 [some (.ref 71), some (.int ci_0), none] [] [] (mkC ra rb 1 re rf rg σ) (fun _ _ => rfl) ?_
  exact k_cMarket_askFancies_b2 n d q _ _ _ _ _ _ _ _ _ h
set_option maxRecDepth 100000 in
theorem k_cj_fill_75_b5 (n d : Nat) (q : bS) : ∀ (k : Nat) (x1 : Int32) (x2 : Int32) (x3 : Int32) (ra : Nat) (rb : Nat) (rc : Nat) (re : Nat) (rf : Value) (rg : Value) (σ : bS), cj_fill_75_b5 n k x1 x2 x3 σ = some q → bfr MT (d + 0) M_J7_fill_53178 5 [some (.ref 75), some (.int x1), some (.int x2), some (.int x3)] [] [] (mkC ra rb rc re rf rg σ) (none, mkC ra rb rc re rf rg q) := by
  intro k
  induction k with
  | zero => intro x1 x2 x3 ra rb rc re rf rg σ h; exact bno h
  | succ k ih =>
    intro x1 x2 x3 ra rb rc re rf rg σ h
    unfold cj_fill_75_b5 at h
    refine bfr_br 3 (pc1 := 20) (L1 := [some (.ref 75), some (.int x1), some (.int x2), some (.int x3)]) (J1 := []) (st1 := []) (w1 := mkC ra rb rc re rf rg σ) (pc2 := 10) (L2 := [some (.ref 75), some (.int x1), some (.int x2), some (.int x3)]) (J2 := []) (st2 := []) (w2 := mkC ra rb rc re rf rg σ) (fun _ _ => rfl) h (fun h => ?_) (fun h => ?_)
    · cases h
      exact bfr_ret 1 (fun _ _ => rfl)
    · refine bfr_in (i := x2) (m := 6) 4 (pc1 := 14) (L1 := [some (.ref 75), some (.int x1), some (.int x2), some (.int x3)]) (J1 := []) (st1 := []) (w1 := ((mkC ra rb rc re rf rg σ).set 75 (.inl (0, 6, upd (σ.2.1 75) (x2).toNatClampNeg x1)))) (fun _ _ => rfl) h (fun h => ?_)
      rw [mkC_A75]
      refine bfr_run 1 17 [some (.ref 75), some (.int x1), some (.int (x2 + ci_1)), some (.int x3)] [] [] (mkC ra rb rc re rf rg (uA σ 75 x2 x1)) (fun _ _ => rfl) ?_
      refine bfr_run 1 5 [some (.ref 75), some (.int x1), some (.int (x2 + ci_1)), some (.int x3)] [] [] (mkC ra rb rc re rf rg (uA σ 75 x2 x1)) (fun _ _ => rfl) ?_
      exact ih _ _ _ _ _ _ _ _ _ _ h
set_option maxRecDepth 100000 in
theorem k_cj_fill_75 (n d : Nat) (q : bS) (x1 : Int32) (ra : Nat) (rb : Nat) (rc : Nat) (re : Nat) (rf : Value) (rg : Value) (σ : bS) (h : cj_fill_75 n x1 σ = some q) : bfr MT (d + 0) M_J7_fill_53178 0 [some (.ref 75), some (.int x1), none, none] [] [] (mkC ra rb rc re rf rg σ) (none, mkC ra rb rc re rf rg q) := by
  unfold cj_fill_75 at h
  refine bfr_run 5 5 [some (.ref 75), some (.int x1), some (.int ci_0), some (.int cn_6)] [] [] (mkC ra rb rc re rf rg σ) (fun _ _ => rfl) ?_
  exact k_cj_fill_75_b5 n d q _ _ _ _ _ _ _ _ _ _ _ h
set_option maxRecDepth 100000 in
theorem k_cMarket_liking_b18 (n d : Nat) (q : (Int32 × bS)) (s0 : Int32) (o0 : Option Value) (o1 : Option Value) (o2 : Option Value) (ra : Nat) (rb : Nat) (rc : Nat) (re : Nat) (rf : Value) (rg : Value) (σ : bS) (h : cMarket_liking_b18 n s0 σ = some q) : bfr MT (d + 0) M_X3_liking 18 [o0, o1, o2] [] [(.int s0)] (mkC ra rb rc re rf rg σ) (some (.int q.1), mkC ra rb rc re rf rg q.2) := by
  unfold cMarket_liking_b18 at h
  cases h
  exact bfr_ret 1 (fun _ _ => rfl)
set_option maxRecDepth 100000 in
theorem k_cMarket_liking (n d : Nat) (q : (Int32 × bS)) (x1 : Int32) (x2 : Int32) (ra : Nat) (rb : Nat) (rc : Nat) (re : Nat) (rf : Value) (rg : Value) (σ : bS) (h : cMarket_liking n x1 x2 σ = some q) : bfr MT (d + 0) M_X3_liking 0 [some (.ref 71), some (.int x1), some (.int x2)] [] [] (mkC ra rb rc re rf rg σ) (some (.int q.1), mkC ra rb rc re rf rg q.2) := by
  unfold cMarket_liking at h
  refine bfr_run 6 9 [some (.ref 71), some (.int x1), some (.int x2)] [] [(.int x2), (.int (x1 * cb_6)), (.ref 72)] (mkC ra rb rc re rf rg σ) (fun _ _ => rfl) ?_
  refine bfr_in (i := ((x1 * cb_6) + x2)) (m := 42) 2 (pc1 := 11) (L1 := [some (.ref 71), some (.int x1), some (.int x2)]) (J1 := []) (st1 := [(.int (sA σ 72 ((x1 * cb_6) + x2)))]) (w1 := mkC ra rb rc re rf rg σ) (fun _ _ => rfl) h (fun h => ?_)
  refine bfr_in (i := x2) (m := 6) 4 (pc1 := 17) (L1 := [some (.ref 71), some (.int x1), some (.int x2)]) (J1 := []) (st1 := [(.int (sA σ 75 x2)), (.int (sA σ 72 ((x1 * cb_6) + x2)))]) (w1 := mkC ra rb rc re rf rg σ) (fun _ _ => rfl) h (fun h => ?_)
  refine bfr_run 1 18 [some (.ref 71), some (.int x1), some (.int x2)] [] [(.int ((sA σ 72 ((x1 * cb_6) + x2)) - (sA σ 75 x2)))] (mkC ra rb rc re rf rg σ) (fun _ _ => rfl) ?_
  exact k_cMarket_liking_b18 n d q _ _ _ _ _ _ _ _ _ _ _ h
set_option maxRecDepth 100000 in
theorem k_cMarket_favourite_b29 (n d : Nat) (r4 : Int32 → Int32 → Int32 → bS → Option (Int32 × bS)) (q : (Int32 × bS)) (hr4 : ∀ (x1 : Int32) (x2 : Int32) (x3 : Int32) (ra : Nat) (rb : Nat) (rc : Nat) (re : Nat) (rf : Value) (rg : Value) (σ : bS), r4 x1 x2 x3 σ = some q → bfr MT (d + 1) M_X3_favourite 4 [some (.ref 71), some (.int x1), some (.int x2), some (.int x3)] [] [] (mkC ra rb rc re rf rg σ) (some (.int q.1), mkC ra rb rc re rf rg q.2)) (x1 : Int32) (x2 : Int32) (x3 : Int32) (ra : Nat) (rb : Nat) (rc : Nat) (re : Nat) (rf : Value) (rg : Value) (σ : bS) (h : cMarket_favourite_b29 n r4 x1 x2 x3 σ = some q) : bfr MT (d + 1) M_X3_favourite 29 [some (.ref 71), some (.int x1), some (.int x2), some (.int x3)] [] [] (mkC ra rb rc re rf rg σ) (some (.int q.1), mkC ra rb rc re rf rg q.2) := by
  unfold cMarket_favourite_b29 at h
  refine bfr_run 1 32 [some (.ref 71), some (.int x1), some (.int x2), some (.int (x3 + ci_1))] [] [] (mkC ra rb rc re rf rg σ) (fun _ _ => rfl) ?_
  refine bfr_run 1 4 [some (.ref 71), some (.int x1), some (.int x2), some (.int (x3 + ci_1))] [] [] (mkC ra rb rc re rf rg σ) (fun _ _ => rfl) ?_
  exact hr4 _ _ _ _ _ _ _ _ _ _ h
set_option maxRecDepth 100000 in
theorem k_cMarket_favourite_b4 (n d : Nat) (q : (Int32 × bS)) : ∀ (k : Nat) (x1 : Int32) (x2 : Int32) (x3 : Int32) (ra : Nat) (rb : Nat) (rc : Nat) (re : Nat) (rf : Value) (rg : Value) (σ : bS), cMarket_favourite_b4 n k x1 x2 x3 σ = some q → bfr MT (d + 1) M_X3_favourite 4 [some (.ref 71), some (.int x1), some (.int x2), some (.int x3)] [] [] (mkC ra rb rc re rf rg σ) (some (.int q.1), mkC ra rb rc re rf rg q.2) := by
  intro k
  induction k with
  | zero => intro x1 x2 x3 ra rb rc re rf rg σ h; exact bno h
  | succ k ih =>
    intro x1 x2 x3 ra rb rc re rf rg σ h
    unfold cMarket_favourite_b4 at h
    refine bfr_br 4 (pc1 := 35) (L1 := [some (.ref 71), some (.int x1), some (.int x2), some (.int x3)]) (J1 := []) (st1 := []) (w1 := mkC ra rb rc re rf rg σ) (pc2 := 12) (L2 := [some (.ref 71), some (.int x1), some (.int x2), some (.int x3)]) (J2 := []) (st2 := []) (w2 := mkC ra rb rc re rf rg σ) (fun _ _ => rfl) h (fun h => ?_) (fun h => ?_)
    · cases h
      exact bfr_ret 2 (fun _ _ => rfl)
    · refine bfr_call 4 (d1 := d + 0) (M1 := M_X3_liking) (vs := [(.ref 71), (.int x1), (.int x3)]) (w1 := mkC ra rb rc re rf rg σ) (pc2 := 18) (L2 := [some (.ref 71), some (.int x1), some (.int x2), some (.int x3)]) (J2 := []) (rest := []) (fun a => some (.int a.1)) (fun a => mkC ra rb rc re rf rg a.2) (fun _ _ => rfl) h (fun a ha => k_cMarket_liking n (d + 0) _ _ _ _ _ _ _ _ _ _ ha) (fun q1 _ h => ?_)
      refine bfr_call 4 (d1 := d + 0) (M1 := M_X3_liking) (vs := [(.ref 71), (.int x1), (.int x2)]) (w1 := mkC ra rb rc re rf rg q1.2) (pc2 := 24) (L2 := [some (.ref 71), some (.int x1), some (.int x2), some (.int x3)]) (J2 := []) (rest := [(.int q1.1)]) (fun a => some (.int a.1)) (fun a => mkC ra rb rc re rf rg a.2) (fun _ _ => rfl) h (fun a ha => k_cMarket_liking n (d + 0) _ _ _ _ _ _ _ _ _ _ ha) (fun q2 _ h => ?_)
      refine bfr_br 1 (pc1 := 29) (L1 := [some (.ref 71), some (.int x1), some (.int x2), some (.int x3)]) (J1 := []) (st1 := []) (w1 := mkC ra rb rc re rf rg q2.2) (pc2 := 27) (L2 := [some (.ref 71), some (.int x1), some (.int x2), some (.int x3)]) (J2 := []) (st2 := []) (w2 := mkC ra rb rc re rf rg q2.2) (fun _ _ => rfl) h (fun h => ?_) (fun h => ?_)
      · exact k_cMarket_favourite_b29 n d _ q (ih) _ _ _ _ _ _ _ _ _ _ h
      · refine bfr_run 2 29 [some (.ref 71), some (.int x1), some (.int x3), some (.int x3)] [] [] (mkC ra rb rc re rf rg q2.2) (fun _ _ => rfl) ?_
        exact k_cMarket_favourite_b29 n d _ q (ih) _ _ _ _ _ _ _ _ _ _ h
set_option maxRecDepth 100000 in
theorem k_cMarket_favourite (n d : Nat) (q : (Int32 × bS)) (x1 : Int32) (ra : Nat) (rb : Nat) (rc : Nat) (re : Nat) (rf : Value) (rg : Value) (σ : bS) (h : cMarket_favourite n x1 σ = some q) : bfr MT (d + 1) M_X3_favourite 0 [some (.ref 71), some (.int x1), none, none] [] [] (mkC ra rb rc re rf rg σ) (some (.int q.1), mkC ra rb rc re rf rg q.2) := by
  unfold cMarket_favourite at h
  refine bfr_run 4 4 [some (.ref 71), some (.int x1), some (.int ci_0), some (.int ci_1)] [] [] (mkC ra rb rc re rf rg σ) (fun _ _ => rfl) ?_
  exact k_cMarket_favourite_b4 n d q _ _ _ _ _ _ _ _ _ _ _ h
set_option maxRecDepth 100000 in
theorem k_cMarket_allLeaveWhatIsNeeded_b35 (n d : Nat) (r2 : Int32 → bS → Option (Int32 × bS)) (q : (Int32 × bS)) (hr2 : ∀ (x1 : Int32) (ra : Nat) (rb : Nat) (rc : Nat) (re : Nat) (rf : Value) (rg : Value) (σ : bS), r2 x1 σ = some q → bfr MT (d + 2) M_X3_allLeaveWhatIsNeeded 2 [some (.ref 71), some (.int x1)] [] [] (mkC ra rb rc re rf rg σ) (some (.int q.1), mkC ra rb rc re rf rg q.2)) (x1 : Int32) (ra : Nat) (rb : Nat) (rc : Nat) (re : Nat) (rf : Value) (rg : Value) (σ : bS) (h : cMarket_allLeaveWhatIsNeeded_b35 n r2 x1 σ = some q) : bfr MT (d + 2) M_X3_allLeaveWhatIsNeeded 35 [some (.ref 71), some (.int x1)] [] [] (mkC ra rb rc re rf rg σ) (some (.int q.1), mkC ra rb rc re rf rg q.2) := by
  unfold cMarket_allLeaveWhatIsNeeded_b35 at h
  refine bfr_run 1 38 [some (.ref 71), some (.int (x1 + ci_1))] [] [] (mkC ra rb rc re rf rg σ) (fun _ _ => rfl) ?_
  refine bfr_run 1 2 [some (.ref 71), some (.int (x1 + ci_1))] [] [] (mkC ra rb rc re rf rg σ) (fun _ _ => rfl) ?_
  exact hr2 _ _ _ _ _ _ _ _ h
set_option maxRecDepth 100000 in
theorem k_cMarket_allLeaveWhatIsNeeded_b2 (n d : Nat) (q : (Int32 × bS)) : ∀ (k : Nat) (x1 : Int32) (ra : Nat) (rb : Nat) (rc : Nat) (re : Nat) (rf : Value) (rg : Value) (σ : bS), cMarket_allLeaveWhatIsNeeded_b2 n k x1 σ = some q → bfr MT (d + 2) M_X3_allLeaveWhatIsNeeded 2 [some (.ref 71), some (.int x1)] [] [] (mkC ra rb rc re rf rg σ) (some (.int q.1), mkC ra rb rc re rf rg q.2) := by
  intro k
  induction k with
  | zero => intro x1 ra rb rc re rf rg σ h; exact bno h
  | succ k ih =>
    intro x1 ra rb rc re rf rg σ h
    unfold cMarket_allLeaveWhatIsNeeded_b2 at h
    refine bfr_br 4 (pc1 := 41) (L1 := [some (.ref 71), some (.int x1)]) (J1 := []) (st1 := []) (w1 := mkC ra rb rc re rf rg σ) (pc2 := 10) (L2 := [some (.ref 71), some (.int x1)]) (J2 := []) (st2 := []) (w2 := mkC ra rb rc re rf rg σ) (fun _ _ => rfl) h (fun h => ?_) (fun h => ?_)
    · exact bfr_bz (mk := mkC ra rb rc re rf rg) 2 (fun _ _ => rfl) h
    · refine bfr_in (i := x1) (m := 7) 4 (pc1 := 16) (L1 := [some (.ref 71), some (.int x1)]) (J1 := []) (st1 := [(.int (sA σ 73 x1))]) (w1 := mkC ra rb rc re rf rg σ) (fun _ _ => rfl) h (fun h => ?_)
      refine bfr_br 1 (pc1 := 35) (L1 := [some (.ref 71), some (.int x1)]) (J1 := []) (st1 := []) (w1 := mkC ra rb rc re rf rg σ) (pc2 := 19) (L2 := [some (.ref 71), some (.int x1)]) (J2 := []) (st2 := []) (w2 := mkC ra rb rc re rf rg σ) (fun _ _ => rfl) h (fun h => ?_) (fun h => ?_)
      · exact k_cMarket_allLeaveWhatIsNeeded_b35 n d _ q (ih) _ _ _ _ _ _ _ _ h
      · refine bfr_call 3 (d1 := d + 1) (M1 := M_X3_favourite) (vs := [(.ref 71), (.int x1)]) (w1 := mkC ra rb rc re rf rg σ) (pc2 := 24) (L2 := [some (.ref 71), some (.int x1)]) (J2 := []) (rest := []) (fun a => some (.int a.1)) (fun a => mkC ra rb rc re rf rg a.2) (fun _ _ => rfl) h (fun a ha => k_cMarket_favourite n (d + 0) _ _ _ _ _ _ _ _ _ ha) (fun q1 _ h => ?_)
        refine bfr_in (i := x1) (m := 7) 4 (pc1 := 30) (L1 := [some (.ref 71), some (.int x1)]) (J1 := []) (st1 := [(.int (sA q1.2 73 x1)), (.int q1.1)]) (w1 := mkC ra rb rc re rf rg q1.2) (fun _ _ => rfl) h (fun h => ?_)
        refine bfr_br 1 (pc1 := 35) (L1 := [some (.ref 71), some (.int x1)]) (J1 := []) (st1 := []) (w1 := mkC ra rb rc re rf rg q1.2) (pc2 := 33) (L2 := [some (.ref 71), some (.int x1)]) (J2 := []) (st2 := []) (w2 := mkC ra rb rc re rf rg q1.2) (fun _ _ => rfl) h (fun h => ?_) (fun h => ?_)
        · exact k_cMarket_allLeaveWhatIsNeeded_b35 n d _ q (ih) _ _ _ _ _ _ _ _ h
        · exact bfr_bz (mk := mkC ra rb rc re rf rg) 2 (fun _ _ => rfl) h
set_option maxRecDepth 100000 in
theorem k_cMarket_allLeaveWhatIsNeeded (n d : Nat) (q : (Int32 × bS)) (ra : Nat) (rb : Nat) (rc : Nat) (re : Nat) (rf : Value) (rg : Value) (σ : bS) (h : cMarket_allLeaveWhatIsNeeded n σ = some q) : bfr MT (d + 2) M_X3_allLeaveWhatIsNeeded 0 [some (.ref 71), none] [] [] (mkC ra rb rc re rf rg σ) (some (.int q.1), mkC ra rb rc re rf rg q.2) := by
  unfold cMarket_allLeaveWhatIsNeeded at h
  refine bfr_run 2 2 [some (.ref 71), some (.int ci_0)] [] [] (mkC ra rb rc re rf rg σ) (fun _ _ => rfl) ?_
  exact k_cMarket_allLeaveWhatIsNeeded_b2 n d q _ _ _ _ _ _ _ _ _ h
set_option maxRecDepth 100000 in
theorem k_cMarket_tryPrices_b62 (n d : Nat) (q : bS) (o0 : Option Value) (o1 : Option Value) (o2 : Option Value) (ra : Nat) (rb : Nat) (rc : Nat) (re : Nat) (rf : Value) (rg : Value) (σ : bS) (h : cMarket_tryPrices_b62 n σ = some q) : bfr MT (d + 3) M_X3_tryPrices 62 [o0, o1, o2] [] [] (mkC ra rb rc re rf rg σ) (none, mkC ra rb rc re rf rg q) := by
  unfold cMarket_tryPrices_b62 at h
  cases h
  exact bfr_ret 1 (fun _ _ => rfl)
set_option maxRecDepth 100000 in
theorem k_cMarket_tryPrices_b4 (n d : Nat) (q : bS) : ∀ (k : Nat) (x1 : Int32) (x2 : Int32) (ra : Nat) (rb : Nat) (rc : Nat) (re : Nat) (rf : Value) (rg : Value) (σ : bS), cMarket_tryPrices_b4 n k x1 x2 σ = some q → bfr MT (d + 3) M_X3_tryPrices 4 [some (.ref 71), some (.int x1), some (.int x2)] [] [] (mkC ra rb rc re rf rg σ) (none, mkC ra rb rc re rf rg q) := by
  intro k
  induction k with
  | zero => intro x1 x2 ra rb rc re rf rg σ h; exact bno h
  | succ k ih =>
    intro x1 x2 ra rb rc re rf rg σ h
    unfold cMarket_tryPrices_b4 at h
    refine bfr_br 4 (pc1 := 27) (L1 := [some (.ref 71), some (.int x1), some (.int x2)]) (J1 := []) (st1 := []) (w1 := mkC ra rb rc re rf rg σ) (pc2 := 12) (L2 := [some (.ref 71), some (.int x1), some (.int x2)]) (J2 := []) (st2 := []) (w2 := mkC ra rb rc re rf rg σ) (fun _ _ => rfl) h (fun h => ?_) (fun h => ?_)
    · refine bfr_br 4 (pc1 := 62) (L1 := [some (.ref 71), some (.int x1), some (.int x2)]) (J1 := []) (st1 := []) (w1 := mkC ra rb rc re rf rg σ) (pc2 := 35) (L2 := [some (.ref 71), some (.int x1), some (.int x2)]) (J2 := []) (st2 := []) (w2 := mkC ra rb rc re rf rg σ) (fun _ _ => rfl) h (fun h => ?_) (fun h => ?_)
      · exact k_cMarket_tryPrices_b62 n d q _ _ _ _ _ _ _ _ _ _ h
      · refine bfr_call 2 (d1 := d + 2) (M1 := M_X3_allLeaveWhatIsNeeded) (vs := [(.ref 71)]) (w1 := mkC ra rb rc re rf rg σ) (pc2 := 39) (L2 := [some (.ref 71), some (.int x1), some (.int x2)]) (J2 := []) (rest := []) (fun a => some (.int a.1)) (fun a => mkC ra rb rc re rf rg a.2) (fun _ _ => rfl) h (fun a ha => k_cMarket_allLeaveWhatIsNeeded n (d + 0) _ _ _ _ _ _ _ _ ha) (fun q1 _ h => ?_)
        refine bfr_br 1 (pc1 := 62) (L1 := [some (.ref 71), some (.int x1), some (.int x2)]) (J1 := []) (st1 := []) (w1 := mkC ra rb rc re rf rg q1.2) (pc2 := 42) (L2 := [some (.ref 71), some (.int x1), some (.int x2)]) (J2 := []) (st2 := []) (w2 := mkC ra rb rc re rf rg q1.2) (fun _ _ => rfl) h (fun h => ?_) (fun h => ?_)
        · exact k_cMarket_tryPrices_b62 n d q _ _ _ _ _ _ _ _ _ _ h
        · refine bfr_run 3 47 [some (.ref 71), some (.int x1), some (.int x2)] [] [] ((mkC ra rb rc re rf rg q1.2).set 71 (.inr (.inr (3, (mkC_71  ra rb rc re rf rg q1.2).set 8 (.int x1))))) (fun _ _ => rfl) ?_
          rw [mkC_I71_8]
          refine bfr_run 6 57 [some (.ref 71), some (.int x1), some (.int x2)] [] [(.int ci_0), (.ref 76), (.int ci_0), (.ref 75)] (mkC ra rb rc re rf rg (uI q1.2 71 8 x1)) (fun _ _ => rfl) ?_
          refine bfr_chk 2 (pc1 := 62) (L1 := [some (.ref 71), some (.int x1), some (.int x2)]) (J1 := []) (st1 := []) (w1 := ((mkC ra rb rc re rf rg (uI q1.2 71 8 x1)).set 76 (.inl (0, 6, va_cpy ((uI q1.2 71 8 x1).2.1 75) ((uI q1.2 71 8 x1).2.1 76) (ci_0).toNatClampNeg (ci_0).toNatClampNeg (cb_6).toNatClampNeg)))) (fun _ _ => rfl) h (fun h => ?_)
          rw [mkC_C76]
          exact k_cMarket_tryPrices_b62 n d q _ _ _ _ _ _ _ _ _ _ h
    · refine bfr_in (i := x2) (m := 6) 5 (pc1 := 19) (L1 := [some (.ref 71), some (.int x1), some (.int x2)]) (J1 := []) (st1 := [(.int (sA σ 75 x2)), (.int x1)]) (w1 := mkC ra rb rc re rf rg σ) (fun _ _ => rfl) h (fun h => ?_)
      refine bfr_run 3 24 [some (.ref 71), some (.int (x1 + (sA σ 75 x2))), some (.int (x2 + ci_1))] [] [] (mkC ra rb rc re rf rg σ) (fun _ _ => rfl) ?_
      refine bfr_run 1 4 [some (.ref 71), some (.int (x1 + (sA σ 75 x2))), some (.int (x2 + ci_1))] [] [] (mkC ra rb rc re rf rg σ) (fun _ _ => rfl) ?_
      exact ih _ _ _ _ _ _ _ _ _ h
set_option maxRecDepth 100000 in
theorem k_cMarket_tryPrices (n d : Nat) (q : bS) (ra : Nat) (rb : Nat) (rc : Nat) (re : Nat) (rf : Value) (rg : Value) (σ : bS) (h : cMarket_tryPrices n σ = some q) : bfr MT (d + 3) M_X3_tryPrices 0 [some (.ref 71), none, none] [] [] (mkC ra rb rc re rf rg σ) (none, mkC ra rb rc re rf rg q) := by
  unfold cMarket_tryPrices at h
  refine bfr_run 4 4 [some (.ref 71), some (.int ci_0), some (.int ci_0)] [] [] (mkC ra rb rc re rf rg σ) (fun _ _ => rfl) ?_
  exact k_cMarket_tryPrices_b4 n d q _ _ _ _ _ _ _ _ _ _ h
set_option maxRecDepth 100000 in
theorem k_cMarket_nextPrices_b42 (n d : Nat) (r7 : Int32 → Int32 → bS → Option bS) (q : bS) (hr7 : ∀ (x1 : Int32) (x2 : Int32) (ra : Nat) (rb : Nat) (rc : Nat) (re : Nat) (rf : Value) (rg : Value) (σ : bS), r7 x1 x2 σ = some q → bfr MT (d + 0) M_X3_nextPrices 7 [some (.ref 71), some (.int x1), some (.int x2)] [] [] (mkC ra rb rc re rf rg σ) (none, mkC ra rb rc re rf rg q)) (x1 : Int32) (x2 : Int32) (ra : Nat) (rb : Nat) (rc : Nat) (re : Nat) (rf : Value) (rg : Value) (σ : bS) (h : cMarket_nextPrices_b42 n r7 x1 x2 σ = some q) : bfr MT (d + 0) M_X3_nextPrices 42 [some (.ref 71), some (.int x1), some (.int x2)] [] [] (mkC ra rb rc re rf rg σ) (none, mkC ra rb rc re rf rg q) := by
  unfold cMarket_nextPrices_b42 at h
  refine bfr_run 1 7 [some (.ref 71), some (.int x1), some (.int x2)] [] [] (mkC ra rb rc re rf rg σ) (fun _ _ => rfl) ?_
  exact hr7 _ _ _ _ _ _ _ _ _ h
set_option maxRecDepth 100000 in
theorem k_cMarket_nextPrices_b7 (n d : Nat) (q : bS) : ∀ (k : Nat) (x1 : Int32) (x2 : Int32) (ra : Nat) (rb : Nat) (rc : Nat) (re : Nat) (rf : Value) (rg : Value) (σ : bS), cMarket_nextPrices_b7 n k x1 x2 σ = some q → bfr MT (d + 0) M_X3_nextPrices 7 [some (.ref 71), some (.int x1), some (.int x2)] [] [] (mkC ra rb rc re rf rg σ) (none, mkC ra rb rc re rf rg q) := by
  intro k
  induction k with
  | zero => intro x1 x2 ra rb rc re rf rg σ h; exact bno h
  | succ k ih =>
    intro x1 x2 ra rb rc re rf rg σ h
    unfold cMarket_nextPrices_b7 at h
    refine bfr_br 2 (pc1 := 45) (L1 := [some (.ref 71), some (.int x1), some (.int x2)]) (J1 := []) (st1 := []) (w1 := mkC ra rb rc re rf rg σ) (pc2 := 11) (L2 := [some (.ref 71), some (.int x1), some (.int x2)]) (J2 := []) (st2 := []) (w2 := mkC ra rb rc re rf rg σ) (fun _ _ => rfl) h (fun h => ?_) (fun h => ?_)
    · cases h
      exact bfr_ret 1 (fun _ _ => rfl)
    · refine bfr_in (i := x2) (m := 6) 4 (pc1 := 17) (L1 := [some (.ref 71), some (.int x1), some (.int x2)]) (J1 := []) (st1 := [(.int (sA σ 75 x2))]) (w1 := mkC ra rb rc re rf rg σ) (fun _ _ => rfl) h (fun h => ?_)
      refine bfr_br 2 (pc1 := 32) (L1 := [some (.ref 71), some (.int x1), some (.int x2)]) (J1 := []) (st1 := []) (w1 := mkC ra rb rc re rf rg σ) (pc2 := 21) (L2 := [some (.ref 71), some (.int x1), some (.int x2)]) (J2 := []) (st2 := []) (w2 := mkC ra rb rc re rf rg σ) (fun _ _ => rfl) h (fun h => ?_) (fun h => ?_)
      · refine bfr_in (i := x2) (m := 6) 5 (pc1 := 39) (L1 := [some (.ref 71), some (.int x1), some (.int x2)]) (J1 := []) (st1 := []) (w1 := ((mkC ra rb rc re rf rg σ).set 75 (.inl (0, 6, upd (σ.2.1 75) (x2).toNatClampNeg ci_0)))) (fun _ _ => rfl) h (fun h => ?_)
        rw [mkC_A75]
        refine bfr_run 1 42 [some (.ref 71), some (.int x1), some (.int (x2 + ci_m1))] [] [] (mkC ra rb rc re rf rg (uA σ 75 x2 ci_0)) (fun _ _ => rfl) ?_
        exact k_cMarket_nextPrices_b42 n d _ q (ih) _ _ _ _ _ _ _ _ _ h
      · refine bfr_in (i := x2) (m := 6) 5 (pc1 := 28) (L1 := [some (.ref 71), some (.int x1), some (.int x2)]) (J1 := []) (st1 := [(.int (sA σ 75 x2)), (.int x2), (.ref 75)]) (w1 := mkC ra rb rc re rf rg σ) (fun _ _ => rfl) h (fun h => ?_)
        refine bfr_in (i := x2) (m := 6) 3 (pc1 := 31) (L1 := [some (.ref 71), some (.int x1), some (.int x2)]) (J1 := []) (st1 := []) (w1 := ((mkC ra rb rc re rf rg σ).set 75 (.inl (0, 6, upd (σ.2.1 75) (x2).toNatClampNeg ((sA σ 75 x2) + ci_1))))) (fun _ _ => rfl) h (fun h => ?_)
        rw [mkC_A75]
        cases h
        exact bfr_ret 1 (fun _ _ => rfl)
set_option maxRecDepth 100000 in
theorem k_cMarket_nextPrices_b6 (n d : Nat) (q : bS) (x1 : Int32) (s0 : Int32) (o2 : Option Value) (ra : Nat) (rb : Nat) (rc : Nat) (re : Nat) (rf : Value) (rg : Value) (σ : bS) (h : cMarket_nextPrices_b6 n x1 s0 σ = some q) : bfr MT (d + 0) M_X3_nextPrices 6 [some (.ref 71), some (.int x1), o2] [] [(.int s0)] (mkC ra rb rc re rf rg σ) (none, mkC ra rb rc re rf rg q) := by
  unfold cMarket_nextPrices_b6 at h
  refine bfr_run 1 7 [some (.ref 71), some (.int x1), some (.int s0)] [] [] (mkC ra rb rc re rf rg σ) (fun _ _ => rfl) ?_
  exact k_cMarket_nextPrices_b7 n d q _ _ _ _ _ _ _ _ _ _ h
set_option maxRecDepth 100000 in
theorem k_cMarket_nextPrices (n d : Nat) (q : bS) (x1 : Int32) (ra : Nat) (rb : Nat) (rc : Nat) (re : Nat) (rf : Value) (rg : Value) (σ : bS) (h : cMarket_nextPrices n x1 σ = some q) : bfr MT (d + 0) M_X3_nextPrices 0 [some (.ref 71), some (.int x1), none] [] [] (mkC ra rb rc re rf rg σ) (none, mkC ra rb rc re rf rg q) := by
  unfold cMarket_nextPrices at h
  refine bfr_run 4 6 [some (.ref 71), some (.int x1), none] [] [(.int ((sI σ 71 6) - ci_1))] (mkC ra rb rc re rf rg σ) (fun _ _ => rfl) ?_
  exact k_cMarket_nextPrices_b6 n d q _ _ _ _ _ _ _ _ _ _ h
set_option maxRecDepth 100000 in
theorem k_cMarket_search_b123 (n d : Nat) (q : (Int32 × bS)) (s0 : Int32) (o0 : Option Value) (o1 : Option Value) (o2 : Option Value) (o3 : Option Value) (o4 : Option Value) (o5 : Option Value) (ra : Nat) (rb : Nat) (re : Nat) (rf : Value) (rg : Value) (σ : bS) (h : cMarket_search_b123 n s0 σ = some q) : bfr MT (d + 4) M_X3_search 123 [o0, o1, o2, o3, o4, o5] [] [(.int s0)] (mkC ra rb 1 re rf rg σ) (some (.int q.1), mkC ra rb 1 re rf rg q.2) := by
  unfold cMarket_search_b123 at h
  exact bfr_bz (mk := mkC ra rb 1 re rf rg) 1 (fun _ _ => rfl) h
set_option maxRecDepth 100000 in
theorem k_cMarket_search_b87 (n d : Nat) (q : (Int32 × bS)) : ∀ (k : Nat) (x3 : Int32) (x4 : Int32) (x5 : Int32) (o1 : Option Value) (o2 : Option Value) (ra : Nat) (rb : Nat) (re : Nat) (rf : Value) (rg : Value) (σ : bS), cMarket_search_b87 n k x3 x4 x5 σ = some q → bfr MT (d + 4) M_X3_search 87 [some (.ref 71), o1, o2, some (.int x3), some (.int x4), some (.int x5)] [] [] (mkC ra rb 1 re rf rg σ) (some (.int q.1), mkC ra rb 1 re rf rg q.2) := by
  intro k
  induction k with
  | zero => intro x3 x4 x5 o1 o2 ra rb re rf rg σ h; exact bno h
  | succ k ih =>
    intro x3 x4 x5 o1 o2 ra rb re rf rg σ h
    unfold cMarket_search_b87 at h
    refine bfr_br 3 (pc1 := 109) (L1 := [some (.ref 71), o1, o2, some (.int x3), some (.int x4), some (.int x5)]) (J1 := []) (st1 := []) (w1 := mkC ra rb 1 re rf rg σ) (pc2 := 94) (L2 := [some (.ref 71), o1, o2, some (.int x3), some (.int x4), some (.int x5)]) (J2 := []) (st2 := []) (w2 := mkC ra rb 1 re rf rg σ) (fun _ _ => rfl) h (fun h => ?_) (fun h => ?_)
    · refine bfr_br 4 (pc1 := 122) (L1 := [some (.ref 71), o1, o2, some (.int x3), some (.int x4), some (.int x5)]) (J1 := []) (st1 := []) (w1 := mkC ra rb 1 re rf rg σ) (pc2 := 118) (L2 := [some (.ref 71), o1, o2, some (.int x3), some (.int x4), some (.int x5)]) (J2 := []) (st2 := []) (w2 := mkC ra rb 1 re rf rg σ) (fun _ _ => rfl) h (fun h => ?_) (fun h => ?_)
      · refine bfr_run 1 123 [some (.ref 71), o1, o2, some (.int x3), some (.int x4), some (.int x5)] [] [(.int ci_0)] (mkC ra rb 1 re rf rg σ) (fun _ _ => rfl) ?_
        exact k_cMarket_search_b123 n d q _ _ _ _ _ _ _ _ _ _ _ _ _ h
      · refine bfr_run 2 123 [some (.ref 71), o1, o2, some (.int x3), some (.int x4), some (.int x5)] [] [(.int ci_1)] (mkC ra rb 1 re rf rg σ) (fun _ _ => rfl) ?_
        exact k_cMarket_search_b123 n d q _ _ _ _ _ _ _ _ _ _ _ _ _ h
    · refine bfr_call 2 (d1 := d + 3) (M1 := M_X3_tryPrices) (vs := [(.ref 71)]) (w1 := mkC ra rb 1 re rf rg σ) (pc2 := 98) (L2 := [some (.ref 71), o1, o2, some (.int x3), some (.int x4), some (.int x5)]) (J2 := []) (rest := []) (fun _ => none) (fun a => mkC ra rb 1 re rf rg a) (fun _ _ => rfl) h (fun a ha => k_cMarket_tryPrices n (d + 0) _ _ _ _ _ _ _ _ ha) (fun q1 _ h => ?_)
      refine bfr_call 3 (d1 := d + 3) (M1 := M_X3_nextPrices) (vs := [(.ref 71), (.int x3)]) (w1 := mkC ra rb 1 re rf rg q1) (pc2 := 103) (L2 := [some (.ref 71), o1, o2, some (.int x3), some (.int x4), some (.int x5)]) (J2 := []) (rest := []) (fun _ => none) (fun a => mkC ra rb 1 re rf rg a) (fun _ _ => rfl) h (fun a ha => k_cMarket_nextPrices n (d + 3) _ _ _ _ _ _ _ _ _ ha) (fun q2 _ h => ?_)
      refine bfr_run 1 106 [some (.ref 71), o1, o2, some (.int x3), some (.int x4), some (.int (x5 + ci_1))] [] [] (mkC ra rb 1 re rf rg q2) (fun _ _ => rfl) ?_
      refine bfr_run 1 87 [some (.ref 71), o1, o2, some (.int x3), some (.int x4), some (.int (x5 + ci_1))] [] [] (mkC ra rb 1 re rf rg q2) (fun _ _ => rfl) ?_
      exact ih _ _ _ _ _ _ _ _ _ _ _ h
set_option maxRecDepth 100000 in
theorem k_cMarket_search_b61 (n d : Nat) (q : (Int32 × bS)) : ∀ (k : Nat) (x3 : Int32) (x4 : Int32) (x5 : Int32) (o1 : Option Value) (o2 : Option Value) (ra : Nat) (rb : Nat) (re : Nat) (rf : Value) (rg : Value) (σ : bS), cMarket_search_b61 n k x3 x4 x5 σ = some q → bfr MT (d + 4) M_X3_search 61 [some (.ref 71), o1, o2, some (.int x3), some (.int x4), some (.int x5)] [] [] (mkC ra rb 1 re rf rg σ) (some (.int q.1), mkC ra rb 1 re rf rg q.2) := by
  intro k
  induction k with
  | zero => intro x3 x4 x5 o1 o2 ra rb re rf rg σ h; exact bno h
  | succ k ih =>
    intro x3 x4 x5 o1 o2 ra rb re rf rg σ h
    unfold cMarket_search_b61 at h
    refine bfr_br 4 (pc1 := 84) (L1 := [some (.ref 71), o1, o2, some (.int x3), some (.int x4), some (.int x5)]) (J1 := []) (st1 := []) (w1 := mkC ra rb 1 re rf rg σ) (pc2 := 70) (L2 := [some (.ref 71), o1, o2, some (.int x3), some (.int x4), some (.int x5)]) (J2 := []) (st2 := []) (w2 := mkC ra rb 1 re rf rg σ) (fun _ _ => rfl) h (fun h => ?_) (fun h => ?_)
    · refine bfr_run 2 87 [some (.ref 71), o1, o2, some (.int x3), some (.int x4), some (.int ci_0)] [] [] (mkC ra rb 1 re rf rg σ) (fun _ _ => rfl) ?_
      exact k_cMarket_search_b87 n d q _ _ _ _ _ _ _ _ _ _ _ _ h
    · refine bfr_run 6 78 [some (.ref 71), o1, o2, some (.int x3), some (.int (x4 * (x3 + ci_1))), some (.int x5)] [] [] (mkC ra rb 1 re rf rg σ) (fun _ _ => rfl) ?_
      refine bfr_run 1 81 [some (.ref 71), o1, o2, some (.int x3), some (.int (x4 * (x3 + ci_1))), some (.int (x5 + ci_1))] [] [] (mkC ra rb 1 re rf rg σ) (fun _ _ => rfl) ?_
      refine bfr_run 1 61 [some (.ref 71), o1, o2, some (.int x3), some (.int (x4 * (x3 + ci_1))), some (.int (x5 + ci_1))] [] [] (mkC ra rb 1 re rf rg σ) (fun _ _ => rfl) ?_
      exact ih _ _ _ _ _ _ _ _ _ _ _ h
set_option maxRecDepth 100000 in
theorem k_cMarket_search (n d : Nat) (q : (Int32 × bS)) (x1 : Int32) (x2 : Int32) (x3 : Int32) (ra : Nat) (rb : Nat) (re : Nat) (rf : Value) (rg : Value) (σ : bS) (h : cMarket_search n x1 x2 x3 σ = some q) : bfr MT (d + 4) M_X3_search 0 [some (.ref 71), some (.int x1), some (.int x2), some (.int x3), none, none] [] [] (mkC ra rb 1 re rf rg σ) (some (.int q.1), mkC ra rb 1 re rf rg q.2) := by
  unfold cMarket_search at h
  refine bfr_call 3 (d1 := d + 3) (M1 := M_X3_lineUp) (vs := [(.ref 71), (.int x2)]) (w1 := mkC ra rb 1 re rf rg σ) (pc2 := 5) (L2 := [some (.ref 71), some (.int x1), some (.int x2), some (.int x3), none, none]) (J2 := []) (rest := []) (fun _ => none) (fun a => mkC ra rb 1 re rf rg a) (fun _ _ => rfl) h (fun a ha => k_cMarket_lineUp n (d + 3) _ _ _ _ _ _ _ _ _ ha) (fun q3 _ h => ?_)
  refine bfr_run 6 19 [some (.ref 71), some (.int x1), some (.int x2), some (.int x3), none, none] [] [] ((mkC ra rb 1 re rf rg q3).set 71 (.inr (.inr (3, (mkC_71  ra rb 1 re rf rg q3).set 6 (.int (sI q3 1 0)))))) (fun _ _ => rfl) ?_
  rw [mkC_I71_6]
  refine bfr_in (i := x1) (m := 4) 6 (pc1 := 29) (L1 := [some (.ref 71), some (.int x1), some (.int x2), some (.int x3), none, none]) (J1 := []) (st1 := [(.int (sA (uI q3 71 6 (sI q3 1 0)) 28 x1)), (.ref 71)]) (w1 := mkC ra rb 1 re rf rg (uI q3 71 6 (sI q3 1 0))) (fun _ _ => rfl) h (fun h => ?_)
  refine bfr_call 1 (d1 := d + 3) (M1 := M_X3_findNeeds) (vs := [(.ref 71), (.int (sA (uI q3 71 6 (sI q3 1 0)) 28 x1))]) (w1 := mkC ra rb 1 re rf rg (uI q3 71 6 (sI q3 1 0))) (pc2 := 32) (L2 := [some (.ref 71), some (.int x1), some (.int x2), some (.int x3), none, none]) (J2 := []) (rest := []) (fun a => some (.int a.1)) (fun a => mkC ra rb 1 re rf rg a.2) (fun _ _ => rfl) h (fun a ha => k_cMarket_findNeeds n (d + 3) _ _ _ _ _ _ _ _ ha) (fun q4 _ h => ?_)
  refine bfr_br 1 (pc1 := 35) (L1 := [some (.ref 71), some (.int x1), some (.int x2), some (.int x3), none, none]) (J1 := []) (st1 := []) (w1 := mkC ra rb 1 re rf rg q4.2) (pc2 := 37) (L2 := [some (.ref 71), some (.int x1), some (.int x2), some (.int x3), none, none]) (J2 := []) (st2 := []) (w2 := mkC ra rb 1 re rf rg q4.2) (fun _ _ => rfl) h (fun h => ?_) (fun h => ?_)
  · exact bfr_bz (mk := mkC ra rb 1 re rf rg) 2 (fun _ _ => rfl) h
  · refine bfr_call 2 (d1 := d + 3) (M1 := M_X3_askFancies) (vs := [(.ref 71)]) (w1 := mkC ra rb 1 re rf rg q4.2) (pc2 := 41) (L2 := [some (.ref 71), some (.int x1), some (.int x2), some (.int x3), none, none]) (J2 := []) (rest := []) (fun _ => none) (fun a => mkC ra rb 1 re rf rg a) (fun _ _ => rfl) h (fun a ha => k_cMarket_askFancies n (d + 0) _ _ _ _ _ _ _ ha) (fun q5 _ h => ?_)
    refine bfr_call 4 (d1 := d + 3) (M1 := M_J7_fill_53178) (vs := [(.ref 75), (.int ci_0)]) (w1 := mkC ra rb 1 re rf rg q5) (pc2 := 49) (L2 := [some (.ref 71), some (.int x1), some (.int x2), some (.int x3), none, none]) (J2 := []) (rest := []) (fun _ => none) (fun a => mkC ra rb 1 re rf rg a) (fun _ _ => rfl) h (fun a ha => k_cj_fill_75 n (d + 3) _ _ _ _ _ _ _ _ _ ha) (fun q6 _ h => ?_)
    refine bfr_run 3 55 [some (.ref 71), some (.int x1), some (.int x2), some (.int x3), none, none] [] [] ((mkC ra rb 1 re rf rg q6).set 71 (.inr (.inr (3, (mkC_71  ra rb 1 re rf rg q6).set 8 (.int (1073741824 : Int32)))))) (fun _ _ => rfl) ?_
    rw [mkC_I71_8]
    refine bfr_run 4 61 [some (.ref 71), some (.int x1), some (.int x2), some (.int x3), some (.int ci_1), some (.int ci_0)] [] [] (mkC ra rb 1 re rf rg (uI q6 71 8 (1073741824 : Int32))) (fun _ _ => rfl) ?_
    exact k_cMarket_search_b61 n d q _ _ _ _ _ _ _ _ _ _ _ _ h
set_option maxRecDepth 100000 in
theorem k_cTop_prices_b84 (n d : Nat) (q : (Int32 × bS)) (s0 : Int32) (o0 : Option Value) (o1 : Option Value) (o2 : Option Value) (o3 : Option Value) (o4 : Option Value) (o5 : Option Value) (rb : Nat) (re : Nat) (rf : Value) (rg : Value) (σ : bS) (h : cTop_prices_b84 n s0 σ = some q) : bfr MT (d + 5) M_X11_prices 84 [o0, o1, o2, o3, o4, o5] [] [(.int s0)] (mkC 1 rb 1 re rf rg σ) (some (.int q.1), mkC 1 rb 1 re rf rg q.2) := by
  unfold cTop_prices_b84 at h
  cases h
  exact bfr_ret 1 (fun _ _ => rfl)
set_option maxRecDepth 100000 in
theorem k_cTop_prices_b26 (n d : Nat) (q : (Int32 × bS)) (x1 : Int32) (x2 : Int32) (x3 : Int32) (x4 : Int32) (o5 : Option Value) (rb : Nat) (re : Nat) (rf : Value) (rg : Value) (σ : bS) (h : cTop_prices_b26 n x1 x2 x3 x4 σ = some q) : bfr MT (d + 5) M_X11_prices 26 [some (.ref 0), some (.int x1), some (.int x2), some (.int x3), some (.int x4), o5] [] [] (mkC 1 rb 1 re rf rg σ) (some (.int q.1), mkC 1 rb 1 re rf rg q.2) := by
  unfold cTop_prices_b26 at h
  refine bfr_call 4 (d1 := d + 4) (M1 := M_X11_rowFault) (vs := [(.ref 0), (.int x1), (.int x2)]) (w1 := mkC 1 rb 1 re rf rg σ) (pc2 := 32) (L2 := [some (.ref 0), some (.int x1), some (.int x2), some (.int x3), some (.int x4), o5]) (J2 := []) (rest := []) (fun a => some (.int a.1)) (fun a => mkC 1 rb 1 re rf rg a.2) (fun _ _ => rfl) h (fun a ha => k_cTop_rowFault n (d + 3) _ _ _ _ _ _ _ _ ha) (fun q1 _ h => ?_)
  refine bfr_br 3 (pc1 := 42) (L1 := [some (.ref 0), some (.int x1), some (.int x2), some (.int x3), some (.int x4), some (.int q1.1)]) (J1 := []) (st1 := []) (w1 := mkC 1 rb 1 re rf rg q1.2) (pc2 := 39) (L2 := [some (.ref 0), some (.int x1), some (.int x2), some (.int x3), some (.int x4), some (.int q1.1)]) (J2 := []) (st2 := []) (w2 := mkC 1 rb 1 re rf rg q1.2) (fun _ _ => rfl) h (fun h => ?_) (fun h => ?_)
  · refine bfr_call 6 (d1 := d + 4) (M1 := M_X3_search) (vs := [(.ref 71), (.int x1), (.int x2), (.int x3)]) (w1 := mkC 1 rb 1 re rf rg q1.2) (pc2 := 52) (L2 := [some (.ref 0), some (.int x1), some (.int x2), some (.int x3), some (.int x4), some (.int q1.1)]) (J2 := []) (rest := []) (fun a => some (.int a.1)) (fun a => mkC 1 rb 1 re rf rg a.2) (fun _ _ => rfl) h (fun a ha => k_cMarket_search n (d + 0) _ _ _ _ _ _ _ _ _ _ ha) (fun q2 _ h => ?_)
    refine bfr_br 1 (pc1 := 55) (L1 := [some (.ref 0), some (.int x1), some (.int x2), some (.int x3), some (.int x4), some (.int q1.1)]) (J1 := []) (st1 := []) (w1 := mkC 1 rb 1 re rf rg q2.2) (pc2 := 58) (L2 := [some (.ref 0), some (.int x1), some (.int x2), some (.int x3), some (.int x4), some (.int q1.1)]) (J2 := []) (st2 := []) (w2 := mkC 1 rb 1 re rf rg q2.2) (fun _ _ => rfl) h (fun h => ?_) (fun h => ?_)
    · cases h
      exact bfr_ret 2 (fun _ _ => rfl)
    · refine bfr_br 3 (pc1 := 64) (L1 := [some (.ref 0), some (.int x1), some (.int x2), some (.int x3), some (.int x4), some (.int q1.1)]) (J1 := []) (st1 := []) (w1 := mkC 1 rb 1 re rf rg q2.2) (pc2 := 74) (L2 := [some (.ref 0), some (.int x1), some (.int x2), some (.int x3), some (.int x4), some (.int q1.1)]) (J2 := []) (st2 := []) (w2 := mkC 1 rb 1 re rf rg q2.2) (fun _ _ => rfl) h (fun h => ?_) (fun h => ?_)
      · refine bfr_run 4 84 [some (.ref 0), some (.int x1), some (.int x2), some (.int x3), some (.int x4), some (.int q1.1)] [] [(.int (sI q2.2 71 8))] (mkC 1 rb 1 re rf rg q2.2) (fun _ _ => rfl) ?_
        exact k_cTop_prices_b84 n d q _ _ _ _ _ _ _ _ _ _ _ _ h
      · refine bfr_in (i := x4) (m := 6) 5 (pc1 := 84) (L1 := [some (.ref 0), some (.int x1), some (.int x2), some (.int x3), some (.int x4), some (.int q1.1)]) (J1 := []) (st1 := [(.int (sA q2.2 76 x4))]) (w1 := mkC 1 rb 1 re rf rg q2.2) (fun _ _ => rfl) h (fun h => ?_)
        exact k_cTop_prices_b84 n d q _ _ _ _ _ _ _ _ _ _ _ _ h
  · cases h
    exact bfr_ret 2 (fun _ _ => rfl)
set_option maxRecDepth 100000 in
theorem k_cTop_prices_b24 (n d : Nat) (q : (Int32 × bS)) (o0 : Option Value) (o1 : Option Value) (o2 : Option Value) (o3 : Option Value) (o4 : Option Value) (o5 : Option Value) (rb : Nat) (re : Nat) (rf : Value) (rg : Value) (σ : bS) (h : cTop_prices_b24 n σ = some q) : bfr MT (d + 5) M_X11_prices 24 [o0, o1, o2, o3, o4, o5] [] [] (mkC 1 rb 1 re rf rg σ) (some (.int q.1), mkC 1 rb 1 re rf rg q.2) := by
  unfold cTop_prices_b24 at h
  cases h
  exact bfr_ret 2 (fun _ _ => rfl)
set_option maxRecDepth 100000 in
theorem k_cTop_prices (n d : Nat) (q : (Int32 × bS)) (x1 : Int32) (x2 : Int32) (x3 : Int32) (x4 : Int32) (rb : Nat) (re : Nat) (rf : Value) (rg : Value) (σ : bS) (h : cTop_prices n x1 x2 x3 x4 σ = some q) : bfr MT (d + 5) M_X11_prices 0 [some (.ref 0), some (.int x1), some (.int x2), some (.int x3), some (.int x4), none] [] [] (mkC 1 rb 1 re rf rg σ) (some (.int q.1), mkC 1 rb 1 re rf rg q.2) := by
  unfold cTop_prices at h
  refine bfr_br 2 (pc1 := 24) (L1 := [some (.ref 0), some (.int x1), some (.int x2), some (.int x3), some (.int x4), none]) (J1 := []) (st1 := []) (w1 := mkC 1 rb 1 re rf rg σ) (pc2 := 4) (L2 := [some (.ref 0), some (.int x1), some (.int x2), some (.int x3), some (.int x4), none]) (J2 := []) (st2 := []) (w2 := mkC 1 rb 1 re rf rg σ) (fun _ _ => rfl) h (fun h => ?_) (fun h => ?_)
  · exact k_cTop_prices_b24 n d q _ _ _ _ _ _ _ _ _ _ _ h
  · refine bfr_br 3 (pc1 := 24) (L1 := [some (.ref 0), some (.int x1), some (.int x2), some (.int x3), some (.int x4), none]) (J1 := []) (st1 := []) (w1 := mkC 1 rb 1 re rf rg σ) (pc2 := 9) (L2 := [some (.ref 0), some (.int x1), some (.int x2), some (.int x3), some (.int x4), none]) (J2 := []) (st2 := []) (w2 := mkC 1 rb 1 re rf rg σ) (fun _ _ => rfl) h (fun h => ?_) (fun h => ?_)
    · exact k_cTop_prices_b24 n d q _ _ _ _ _ _ _ _ _ _ _ h
    · refine bfr_br 3 (pc1 := 26) (L1 := [some (.ref 0), some (.int x1), some (.int x2), some (.int x3), some (.int x4), none]) (J1 := []) (st1 := []) (w1 := mkC 1 rb 1 re rf rg σ) (pc2 := 15) (L2 := [some (.ref 0), some (.int x1), some (.int x2), some (.int x3), some (.int x4), none]) (J2 := []) (st2 := []) (w2 := mkC 1 rb 1 re rf rg σ) (fun _ _ => rfl) h (fun h => ?_) (fun h => ?_)
      · exact k_cTop_prices_b26 n d q _ _ _ _ _ _ _ _ _ _ h
      · refine bfr_call 3 (d1 := d + 4) (M1 := M_X11_isBank) (vs := [(.ref 0), (.int x4)]) (w1 := mkC 1 rb 1 re rf rg σ) (pc2 := 21) (L2 := [some (.ref 0), some (.int x1), some (.int x2), some (.int x3), some (.int x4), none]) (J2 := []) (rest := []) (fun a => some (.int a.1)) (fun a => mkC 1 rb 1 re rf rg a.2) (fun _ _ => rfl) h (fun a ha => k_cTop_isBank n (d + 4) _ _ _ _ _ _ _ _ ha) (fun q3 _ h => ?_)
        refine bfr_br 1 (pc1 := 24) (L1 := [some (.ref 0), some (.int x1), some (.int x2), some (.int x3), some (.int x4), none]) (J1 := []) (st1 := []) (w1 := mkC 1 rb 1 re rf rg q3.2) (pc2 := 26) (L2 := [some (.ref 0), some (.int x1), some (.int x2), some (.int x3), some (.int x4), none]) (J2 := []) (st2 := []) (w2 := mkC 1 rb 1 re rf rg q3.2) (fun _ _ => rfl) h (fun h => ?_) (fun h => ?_)
        · exact k_cTop_prices_b24 n d q _ _ _ _ _ _ _ _ _ _ _ h
        · exact k_cTop_prices_b26 n d q _ _ _ _ _ _ _ _ _ _ h
set_option maxRecDepth 100000 in
theorem k_cSeen_add_b47 (n d : Nat) (q : (Int32 × bS)) (s0 : Int32) (o0 : Option Value) (o1 : Option Value) (o2 : Option Value) (ra : Nat) (rb : Nat) (rc : Nat) (re : Nat) (rf : Value) (rg : Value) (σ : bS) (h : cSeen_add_b47 n s0 σ = some q) : bfr MT (d + 0) M_X6_add 47 [o0, o1, o2] [] [(.int s0)] (mkC ra rb rc re rf rg σ) (some (.int q.1), mkC ra rb rc re rf rg q.2) := by
  unfold cSeen_add_b47 at h
  cases h
  exact bfr_ret 1 (fun _ _ => rfl)
set_option maxRecDepth 100000 in
theorem k_cSeen_add (n d : Nat) (q : (Int32 × bS)) (x1 : Int32) (x2 : Int32) (ra : Nat) (rb : Nat) (rc : Nat) (re : Nat) (rf : Value) (rg : Value) (σ : bS) (h : cSeen_add n x1 x2 σ = some q) : bfr MT (d + 0) M_X6_add 0 [some (.ref 77), some (.int x1), some (.int x2)] [] [] (mkC ra rb rc re rf rg σ) (some (.int q.1), mkC ra rb rc re rf rg q.2) := by
  unfold cSeen_add at h
  refine bfr_br 4 (pc1 := 11) (L1 := [some (.ref 77), some (.int x1), some (.int x2)]) (J1 := []) (st1 := []) (w1 := mkC ra rb rc re rf rg σ) (pc2 := 9) (L2 := [some (.ref 77), some (.int x1), some (.int x2)]) (J2 := []) (st2 := []) (w2 := mkC ra rb rc re rf rg σ) (fun _ _ => rfl) h (fun h => ?_) (fun h => ?_)
  · refine bfr_in (i := (sI σ 77 4)) (m := 12) 6 (pc1 := 21) (L1 := [some (.ref 77), some (.int x1), some (.int x2)]) (J1 := []) (st1 := []) (w1 := ((mkC ra rb rc re rf rg σ).set 78 (.inl (0, 12, upd (σ.2.1 78) ((sI σ 77 4)).toNatClampNeg x1)))) (fun _ _ => rfl) h (fun h => ?_)
    rw [mkC_A78]
    refine bfr_in (i := (sI (uA σ 78 (sI σ 77 4) x1) 77 4)) (m := 12) 6 (pc1 := 31) (L1 := [some (.ref 77), some (.int x1), some (.int x2)]) (J1 := []) (st1 := []) (w1 := ((mkC ra rb rc re rf rg (uA σ 78 (sI σ 77 4) x1)).set 79 (.inl (0, 12, upd ((uA σ 78 (sI σ 77 4) x1).2.1 79) ((sI (uA σ 78 (sI σ 77 4) x1) 77 4)).toNatClampNeg x2)))) (fun _ _ => rfl) h (fun h => ?_)
    rw [mkC_A79]
    refine bfr_run 6 41 [some (.ref 77), some (.int x1), some (.int x2)] [] [] ((mkC ra rb rc re rf rg (uA (uA σ 78 (sI σ 77 4) x1) 79 (sI (uA σ 78 (sI σ 77 4) x1) 77 4) x2)).set 77 (.inr (.inr (6, (mkC_77  ra rb rc re rf rg (uA (uA σ 78 (sI σ 77 4) x1) 79 (sI (uA σ 78 (sI σ 77 4) x1) 77 4) x2)).set 4 (.int ((sI (uA (uA σ 78 (sI σ 77 4) x1) 79 (sI (uA σ 78 (sI σ 77 4) x1) 77 4) x2) 77 4) + ci_1)))))) (fun _ _ => rfl) ?_
    rw [mkC_I77_4]
    refine bfr_run 4 47 [some (.ref 77), some (.int x1), some (.int x2)] [] [(.int ((sI (uI (uA (uA σ 78 (sI σ 77 4) x1) 79 (sI (uA σ 78 (sI σ 77 4) x1) 77 4) x2) 77 4 ((sI (uA (uA σ 78 (sI σ 77 4) x1) 79 (sI (uA σ 78 (sI σ 77 4) x1) 77 4) x2) 77 4) + ci_1)) 77 4) - ci_1))] (mkC ra rb rc re rf rg (uI (uA (uA σ 78 (sI σ 77 4) x1) 79 (sI (uA σ 78 (sI σ 77 4) x1) 77 4) x2) 77 4 ((sI (uA (uA σ 78 (sI σ 77 4) x1) 79 (sI (uA σ 78 (sI σ 77 4) x1) 77 4) x2) 77 4) + ci_1))) (fun _ _ => rfl) ?_
    exact k_cSeen_add_b47 n d q _ _ _ _ _ _ _ _ _ _ _ h
  · cases h
    exact bfr_ret 2 (fun _ _ => rfl)
set_option maxRecDepth 100000 in
theorem k_cTop_see_b29 (n d : Nat) (q : (Int32 × bS)) (s0 : Int32) (o0 : Option Value) (o1 : Option Value) (o2 : Option Value) (rb : Nat) (rc : Nat) (re : Nat) (rf : Value) (rg : Value) (σ : bS) (h : cTop_see_b29 n s0 σ = some q) : bfr MT (d + 1) M_X11_see 29 [o0, o1, o2] [] [(.int s0)] (mkC 1 rb rc re rf rg σ) (some (.int q.1), mkC 1 rb rc re rf rg q.2) := by
  unfold cTop_see_b29 at h
  cases h
  exact bfr_ret 1 (fun _ _ => rfl)
set_option maxRecDepth 100000 in
theorem k_cTop_see_b28 (n d : Nat) (q : (Int32 × bS)) (o0 : Option Value) (o1 : Option Value) (o2 : Option Value) (rb : Nat) (rc : Nat) (re : Nat) (rf : Value) (rg : Value) (σ : bS) (h : cTop_see_b28 n σ = some q) : bfr MT (d + 1) M_X11_see 28 [o0, o1, o2] [] [] (mkC 1 rb rc re rf rg σ) (some (.int q.1), mkC 1 rb rc re rf rg q.2) := by
  unfold cTop_see_b28 at h
  refine bfr_run 1 29 [o0, o1, o2] [] [(.int ci_m1)] (mkC 1 rb rc re rf rg σ) (fun _ _ => rfl) ?_
  exact k_cTop_see_b29 n d q _ _ _ _ _ _ _ _ _ _ h
set_option maxRecDepth 100000 in
theorem k_cTop_see (n d : Nat) (q : (Int32 × bS)) (x1 : Int32) (x2 : Int32) (rb : Nat) (rc : Nat) (re : Nat) (rf : Value) (rg : Value) (σ : bS) (h : cTop_see n x1 x2 σ = some q) : bfr MT (d + 1) M_X11_see 0 [some (.ref 0), some (.int x1), some (.int x2)] [] [] (mkC 1 rb rc re rf rg σ) (some (.int q.1), mkC 1 rb rc re rf rg q.2) := by
  unfold cTop_see at h
  refine bfr_call 3 (d1 := d + 0) (M1 := M_X11_isMan) (vs := [(.ref 0), (.int x1)]) (w1 := mkC 1 rb rc re rf rg σ) (pc2 := 5) (L2 := [some (.ref 0), some (.int x1), some (.int x2)]) (J2 := []) (rest := []) (fun a => some (.int a.1)) (fun a => mkC 1 rb rc re rf rg a.2) (fun _ _ => rfl) h (fun a ha => k_cTop_isMan n (d + 0) _ _ _ _ _ _ _ _ ha) (fun q1 _ h => ?_)
  refine bfr_br 1 (pc1 := 28) (L1 := [some (.ref 0), some (.int x1), some (.int x2)]) (J1 := []) (st1 := []) (w1 := mkC 1 rb rc re rf rg q1.2) (pc2 := 8) (L2 := [some (.ref 0), some (.int x1), some (.int x2)]) (J2 := []) (st2 := []) (w2 := mkC 1 rb rc re rf rg q1.2) (fun _ _ => rfl) h (fun h => ?_) (fun h => ?_)
  · exact k_cTop_see_b28 n d q _ _ _ _ _ _ _ _ _ h
  · refine bfr_call 3 (d1 := d + 0) (M1 := M_X11_isBank) (vs := [(.ref 0), (.int x2)]) (w1 := mkC 1 rb rc re rf rg q1.2) (pc2 := 13) (L2 := [some (.ref 0), some (.int x1), some (.int x2)]) (J2 := []) (rest := []) (fun a => some (.int a.1)) (fun a => mkC 1 rb rc re rf rg a.2) (fun _ _ => rfl) h (fun a ha => k_cTop_isBank n (d + 0) _ _ _ _ _ _ _ _ ha) (fun q2 _ h => ?_)
    refine bfr_br 1 (pc1 := 28) (L1 := [some (.ref 0), some (.int x1), some (.int x2)]) (J1 := []) (st1 := []) (w1 := mkC 1 rb rc re rf rg q2.2) (pc2 := 16) (L2 := [some (.ref 0), some (.int x1), some (.int x2)]) (J2 := []) (st2 := []) (w2 := mkC 1 rb rc re rf rg q2.2) (fun _ _ => rfl) h (fun h => ?_) (fun h => ?_)
    · exact k_cTop_see_b28 n d q _ _ _ _ _ _ _ _ _ h
    · refine bfr_call 5 (d1 := d + 0) (M1 := M_X6_add) (vs := [(.ref 77), (.int x1), (.int x2)]) (w1 := mkC 1 rb rc re rf rg q2.2) (pc2 := 25) (L2 := [some (.ref 0), some (.int x1), some (.int x2)]) (J2 := []) (rest := []) (fun a => some (.int a.1)) (fun a => mkC 1 rb rc re rf rg a.2) (fun _ _ => rfl) h (fun a ha => k_cSeen_add n (d + 0) _ _ _ _ _ _ _ _ _ _ ha) (fun q3 _ h => ?_)
      refine bfr_run 1 29 [some (.ref 0), some (.int x1), some (.int x2)] [] [(.int q3.1)] (mkC 1 rb rc re rf rg q3.2) (fun _ _ => rfl) ?_
      exact k_cTop_see_b29 n d q _ _ _ _ _ _ _ _ _ _ h
set_option maxRecDepth 100000 in
theorem k_cTop_say_b16 (n d : Nat) (q : (Int32 × bS)) (o0 : Option Value) (o1 : Option Value) (o2 : Option Value) (rb : Nat) (rc : Nat) (re : Nat) (rf : Value) (rg : Value) (σ : bS) (h : cTop_say_b16 n σ = some q) : bfr MT (d + 1) M_X11_say 16 [o0, o1, o2] [] [] (mkC 1 rb rc re rf rg σ) (some (.int q.1), mkC 1 rb rc re rf rg q.2) := by
  unfold cTop_say_b16 at h
  exact bfr_bz (mk := mkC 1 rb rc re rf rg) 2 (fun _ _ => rfl) h
set_option maxRecDepth 100000 in
theorem k_cTop_say (n d : Nat) (q : (Int32 × bS)) (x1 : Int32) (x2 : Int32) (rb : Nat) (rc : Nat) (re : Nat) (rf : Value) (rg : Value) (σ : bS) (h : cTop_say n x1 x2 σ = some q) : bfr MT (d + 1) M_X11_say 0 [some (.ref 0), some (.int x1), some (.int x2)] [] [] (mkC 1 rb rc re rf rg σ) (some (.int q.1), mkC 1 rb rc re rf rg q.2) := by
  unfold cTop_say at h
  refine bfr_call 3 (d1 := d + 0) (M1 := M_X11_isMan) (vs := [(.ref 0), (.int x1)]) (w1 := mkC 1 rb rc re rf rg σ) (pc2 := 5) (L2 := [some (.ref 0), some (.int x1), some (.int x2)]) (J2 := []) (rest := []) (fun a => some (.int a.1)) (fun a => mkC 1 rb rc re rf rg a.2) (fun _ _ => rfl) h (fun a ha => k_cTop_isMan n (d + 0) _ _ _ _ _ _ _ _ ha) (fun q1 _ h => ?_)
  refine bfr_br 1 (pc1 := 16) (L1 := [some (.ref 0), some (.int x1), some (.int x2)]) (J1 := []) (st1 := []) (w1 := mkC 1 rb rc re rf rg q1.2) (pc2 := 8) (L2 := [some (.ref 0), some (.int x1), some (.int x2)]) (J2 := []) (st2 := []) (w2 := mkC 1 rb rc re rf rg q1.2) (fun _ _ => rfl) h (fun h => ?_) (fun h => ?_)
  · exact k_cTop_say_b16 n d q _ _ _ _ _ _ _ _ _ h
  · refine bfr_call 3 (d1 := d + 0) (M1 := M_X11_isBank) (vs := [(.ref 0), (.int x2)]) (w1 := mkC 1 rb rc re rf rg q1.2) (pc2 := 13) (L2 := [some (.ref 0), some (.int x1), some (.int x2)]) (J2 := []) (rest := []) (fun a => some (.int a.1)) (fun a => mkC 1 rb rc re rf rg a.2) (fun _ _ => rfl) h (fun a ha => k_cTop_isBank n (d + 0) _ _ _ _ _ _ _ _ ha) (fun q2 _ h => ?_)
    refine bfr_br 1 (pc1 := 16) (L1 := [some (.ref 0), some (.int x1), some (.int x2)]) (J1 := []) (st1 := []) (w1 := mkC 1 rb rc re rf rg q2.2) (pc2 := 18) (L2 := [some (.ref 0), some (.int x1), some (.int x2)]) (J2 := []) (st2 := []) (w2 := mkC 1 rb rc re rf rg q2.2) (fun _ _ => rfl) h (fun h => ?_) (fun h => ?_)
    · exact k_cTop_say_b16 n d q _ _ _ _ _ _ _ _ _ h
    · refine bfr_in (i := x1) (m := 7) 6 (pc1 := 28) (L1 := [some (.ref 0), some (.int x1), some (.int x2)]) (J1 := []) (st1 := []) (w1 := ((mkC 1 rb rc re rf rg q2.2).set 81 (.inl (0, 7, upd (q2.2.2.1 81) (x1).toNatClampNeg x2)))) (fun _ _ => rfl) h (fun h => ?_)
      rw [mkC_A81]
      exact bfr_bz (mk := mkC 1 rb rc re rf rg) 2 (fun _ _ => rfl) h
set_option maxRecDepth 100000 in
theorem k_cTop_forget (n d : Nat) (q : (Int32 × bS)) (ra : Nat) (rb : Nat) (rc : Nat) (re : Nat) (rf : Value) (rg : Value) (σ : bS) (h : cTop_forget n σ = some q) : bfr MT (d + 2) M_X11_forget 0 [some (.ref 0), none] [] [] (mkC ra rb rc re rf rg σ) (some (.int q.1), mkC ra rb rc re rf rg q.2) := by
  unfold cTop_forget at h
  refine bfr_run 6 12 [some (.ref 0), some (.int (sI σ 77 4))] [] [(.ref 77)] (mkC ra rb rc re rf rg σ) (fun _ _ => rfl) ?_
  refine bfr_call 1 (d1 := d + 1) (M1 := M_X6_clear) (vs := [(.ref 77)]) (w1 := mkC ra rb rc re rf rg σ) (pc2 := 15) (L2 := [some (.ref 0), some (.int (sI σ 77 4))]) (J2 := []) (rest := []) (fun _ => none) (fun a => mkC ra rb rc re rf rg a) (fun _ _ => rfl) h (fun a ha => k_cSeen_clear n (d + 0) _ _ _ _ _ _ _ _ ha) (fun q1 _ h => ?_)
  cases h
  exact bfr_ret 2 (fun _ _ => rfl)
set_option maxRecDepth 100000 in
theorem k_cTop_isKnown_b20 (n d : Nat) (q : (Int32 × bS)) (s0 : Int32) (o0 : Option Value) (o1 : Option Value) (ra : Nat) (rb : Nat) (rc : Nat) (re : Nat) (rf : Value) (rg : Value) (σ : bS) (h : cTop_isKnown_b20 n s0 σ = some q) : bfr MT (d + 0) M_X11_isKnown 20 [o0, o1] [] [(.int s0)] (mkC ra rb rc re rf rg σ) (some (.int q.1), mkC ra rb rc re rf rg q.2) := by
  unfold cTop_isKnown_b20 at h
  exact bfr_bz (mk := mkC ra rb rc re rf rg) 1 (fun _ _ => rfl) h
set_option maxRecDepth 100000 in
theorem k_cTop_isKnown_b19 (n d : Nat) (q : (Int32 × bS)) (o0 : Option Value) (o1 : Option Value) (ra : Nat) (rb : Nat) (rc : Nat) (re : Nat) (rf : Value) (rg : Value) (σ : bS) (h : cTop_isKnown_b19 n σ = some q) : bfr MT (d + 0) M_X11_isKnown 19 [o0, o1] [] [] (mkC ra rb rc re rf rg σ) (some (.int q.1), mkC ra rb rc re rf rg q.2) := by
  unfold cTop_isKnown_b19 at h
  refine bfr_run 1 20 [o0, o1] [] [(.int ci_0)] (mkC ra rb rc re rf rg σ) (fun _ _ => rfl) ?_
  exact k_cTop_isKnown_b20 n d q _ _ _ _ _ _ _ _ _ _ h
set_option maxRecDepth 100000 in
theorem k_cTop_isKnown (n d : Nat) (q : (Int32 × bS)) (x1 : Int32) (ra : Nat) (rb : Nat) (rc : Nat) (re : Nat) (rf : Value) (rg : Value) (σ : bS) (h : cTop_isKnown n x1 σ = some q) : bfr MT (d + 0) M_X11_isKnown 0 [some (.ref 0), some (.int x1)] [] [] (mkC ra rb rc re rf rg σ) (some (.int q.1), mkC ra rb rc re rf rg q.2) := by
  unfold cTop_isKnown at h
  refine bfr_br 2 (pc1 := 19) (L1 := [some (.ref 0), some (.int x1)]) (J1 := []) (st1 := []) (w1 := mkC ra rb rc re rf rg σ) (pc2 := 4) (L2 := [some (.ref 0), some (.int x1)]) (J2 := []) (st2 := []) (w2 := mkC ra rb rc re rf rg σ) (fun _ _ => rfl) h (fun h => ?_) (fun h => ?_)
  · exact k_cTop_isKnown_b19 n d q _ _ _ _ _ _ _ _ _ h
  · refine bfr_br 5 (pc1 := 19) (L1 := [some (.ref 0), some (.int x1)]) (J1 := []) (st1 := []) (w1 := mkC ra rb rc re rf rg σ) (pc2 := 15) (L2 := [some (.ref 0), some (.int x1)]) (J2 := []) (st2 := []) (w2 := mkC ra rb rc re rf rg σ) (fun _ _ => rfl) h (fun h => ?_) (fun h => ?_)
    · exact k_cTop_isKnown_b19 n d q _ _ _ _ _ _ _ _ _ h
    · refine bfr_run 2 20 [some (.ref 0), some (.int x1)] [] [(.int ci_1)] (mkC ra rb rc re rf rg σ) (fun _ _ => rfl) ?_
      exact k_cTop_isKnown_b20 n d q _ _ _ _ _ _ _ _ _ _ h
set_option maxRecDepth 100000 in
theorem k_cj_fill_80_b5 (n d : Nat) (q : bS) : ∀ (k : Nat) (x1 : Int32) (x2 : Int32) (x3 : Int32) (ra : Nat) (rb : Nat) (rc : Nat) (re : Nat) (rf : Value) (rg : Value) (σ : bS), cj_fill_80_b5 n k x1 x2 x3 σ = some q → bfr MT (d + 0) M_J7_fill_53178 5 [some (.ref 80), some (.int x1), some (.int x2), some (.int x3)] [] [] (mkC ra rb rc re rf rg σ) (none, mkC ra rb rc re rf rg q) := by
  intro k
  induction k with
  | zero => intro x1 x2 x3 ra rb rc re rf rg σ h; exact bno h
  | succ k ih =>
    intro x1 x2 x3 ra rb rc re rf rg σ h
    unfold cj_fill_80_b5 at h
    refine bfr_br 3 (pc1 := 20) (L1 := [some (.ref 80), some (.int x1), some (.int x2), some (.int x3)]) (J1 := []) (st1 := []) (w1 := mkC ra rb rc re rf rg σ) (pc2 := 10) (L2 := [some (.ref 80), some (.int x1), some (.int x2), some (.int x3)]) (J2 := []) (st2 := []) (w2 := mkC ra rb rc re rf rg σ) (fun _ _ => rfl) h (fun h => ?_) (fun h => ?_)
    · cases h
      exact bfr_ret 1 (fun _ _ => rfl)
    · refine bfr_in (i := x2) (m := 7) 4 (pc1 := 14) (L1 := [some (.ref 80), some (.int x1), some (.int x2), some (.int x3)]) (J1 := []) (st1 := []) (w1 := ((mkC ra rb rc re rf rg σ).set 80 (.inl (0, 7, upd (σ.2.1 80) (x2).toNatClampNeg x1)))) (fun _ _ => rfl) h (fun h => ?_)
      rw [mkC_A80]
      refine bfr_run 1 17 [some (.ref 80), some (.int x1), some (.int (x2 + ci_1)), some (.int x3)] [] [] (mkC ra rb rc re rf rg (uA σ 80 x2 x1)) (fun _ _ => rfl) ?_
      refine bfr_run 1 5 [some (.ref 80), some (.int x1), some (.int (x2 + ci_1)), some (.int x3)] [] [] (mkC ra rb rc re rf rg (uA σ 80 x2 x1)) (fun _ _ => rfl) ?_
      exact ih _ _ _ _ _ _ _ _ _ _ h
set_option maxRecDepth 100000 in
theorem k_cj_fill_80 (n d : Nat) (q : bS) (x1 : Int32) (ra : Nat) (rb : Nat) (rc : Nat) (re : Nat) (rf : Value) (rg : Value) (σ : bS) (h : cj_fill_80 n x1 σ = some q) : bfr MT (d + 0) M_J7_fill_53178 0 [some (.ref 80), some (.int x1), none, none] [] [] (mkC ra rb rc re rf rg σ) (none, mkC ra rb rc re rf rg q) := by
  unfold cj_fill_80 at h
  refine bfr_run 5 5 [some (.ref 80), some (.int x1), some (.int ci_0), some (.int cn_7)] [] [] (mkC ra rb rc re rf rg σ) (fun _ _ => rfl) ?_
  exact k_cj_fill_80_b5 n d q _ _ _ _ _ _ _ _ _ _ _ h
set_option maxRecDepth 100000 in
theorem k_cSeen_learn_b53 (n d : Nat) (r10 : Int32 → Int32 → bS → Option (Int32 × bS)) (q : (Int32 × bS)) (hr10 : ∀ (x1 : Int32) (x2 : Int32) (o3 : Option Value) (ra : Nat) (rb : Nat) (rc : Nat) (re : Nat) (rf : Value) (rg : Value) (σ : bS), r10 x1 x2 σ = some q → bfr MT (d + 1) M_X6_learn 10 [some (.ref 77), some (.int x1), some (.int x2), o3] [] [] (mkC ra rb rc re rf rg σ) (some (.int q.1), mkC ra rb rc re rf rg q.2)) (x1 : Int32) (x2 : Int32) (x3 : Int32) (ra : Nat) (rb : Nat) (rc : Nat) (re : Nat) (rf : Value) (rg : Value) (σ : bS) (h : cSeen_learn_b53 n r10 x1 x2 x3 σ = some q) : bfr MT (d + 1) M_X6_learn 53 [some (.ref 77), some (.int x1), some (.int x2), some (.int x3)] [] [] (mkC ra rb rc re rf rg σ) (some (.int q.1), mkC ra rb rc re rf rg q.2) := by
  unfold cSeen_learn_b53 at h
  refine bfr_run 6 63 [some (.ref 77), some (.int x1), some (.int x2), some (.int x3)] [] [(.int x2), (.ref 79), (.int x3), (.ref 80)] (mkC ra rb rc re rf rg σ) (fun _ _ => rfl) ?_
  refine bfr_in (i := (x2 + ci_1)) (m := 12) 3 (pc1 := 66) (L1 := [some (.ref 77), some (.int x1), some (.int x2), some (.int x3)]) (J1 := []) (st1 := [(.int (sA σ 79 (x2 + ci_1))), (.int x3), (.ref 80)]) (w1 := mkC ra rb rc re rf rg σ) (fun _ _ => rfl) h (fun h => ?_)
  refine bfr_in (i := x3) (m := 7) 1 (pc1 := 67) (L1 := [some (.ref 77), some (.int x1), some (.int x2), some (.int x3)]) (J1 := []) (st1 := []) (w1 := ((mkC ra rb rc re rf rg σ).set 80 (.inl (0, 7, upd (σ.2.1 80) (x3).toNatClampNeg (sA σ 79 (x2 + ci_1)))))) (fun _ _ => rfl) h (fun h => ?_)
  rw [mkC_A80]
  refine bfr_run 1 70 [some (.ref 77), some (.int x1), some (.int (x2 + ci_1)), some (.int x3)] [] [] (mkC ra rb rc re rf rg (uA σ 80 x3 (sA σ 79 (x2 + ci_1)))) (fun _ _ => rfl) ?_
  refine bfr_run 1 10 [some (.ref 77), some (.int x1), some (.int (x2 + ci_1)), some (.int x3)] [] [] (mkC ra rb rc re rf rg (uA σ 80 x3 (sA σ 79 (x2 + ci_1)))) (fun _ _ => rfl) ?_
  exact hr10 _ _ _ _ _ _ _ _ _ _ h
set_option maxRecDepth 100000 in
theorem k_cSeen_learn_b10 (n d : Nat) (q : (Int32 × bS)) : ∀ (k : Nat) (x1 : Int32) (x2 : Int32) (o3 : Option Value) (ra : Nat) (rb : Nat) (rc : Nat) (re : Nat) (rf : Value) (rg : Value) (σ : bS), cSeen_learn_b10 n k x1 x2 σ = some q → bfr MT (d + 1) M_X6_learn 10 [some (.ref 77), some (.int x1), some (.int x2), o3] [] [] (mkC ra rb rc re rf rg σ) (some (.int q.1), mkC ra rb rc re rf rg q.2) := by
  intro k
  induction k with
  | zero => intro x1 x2 o3 ra rb rc re rf rg σ h; exact bno h
  | succ k ih =>
    intro x1 x2 o3 ra rb rc re rf rg σ h
    unfold cSeen_learn_b10 at h
    refine bfr_br 5 (pc1 := 73) (L1 := [some (.ref 77), some (.int x1), some (.int x2), o3]) (J1 := []) (st1 := []) (w1 := mkC ra rb rc re rf rg σ) (pc2 := 17) (L2 := [some (.ref 77), some (.int x1), some (.int x2), o3]) (J2 := []) (st2 := []) (w2 := mkC ra rb rc re rf rg σ) (fun _ _ => rfl) h (fun h => ?_) (fun h => ?_)
    · exact bfr_bz (mk := mkC ra rb rc re rf rg) 2 (fun _ _ => rfl) h
    · refine bfr_in (i := x2) (m := 12) 4 (pc1 := 23) (L1 := [some (.ref 77), some (.int x1), some (.int x2), o3]) (J1 := []) (st1 := [(.int (sA σ 78 x2))]) (w1 := mkC ra rb rc re rf rg σ) (fun _ _ => rfl) h (fun h => ?_)
      refine bfr_in (i := (sA σ 78 x2)) (m := 7) 5 (pc1 := 30) (L1 := [some (.ref 77), some (.int x1), some (.int x2), some (.int (sA σ 78 x2))]) (J1 := []) (st1 := [(.int (sA σ 80 (sA σ 78 x2)))]) (w1 := mkC ra rb rc re rf rg σ) (fun _ _ => rfl) h (fun h => ?_)
      refine bfr_br 2 (pc1 := 53) (L1 := [some (.ref 77), some (.int x1), some (.int x2), some (.int (sA σ 78 x2))]) (J1 := []) (st1 := []) (w1 := mkC ra rb rc re rf rg σ) (pc2 := 34) (L2 := [some (.ref 77), some (.int x1), some (.int x2), some (.int (sA σ 78 x2))]) (J2 := []) (st2 := []) (w2 := mkC ra rb rc re rf rg σ) (fun _ _ => rfl) h (fun h => ?_) (fun h => ?_)
      · exact k_cSeen_learn_b53 n d _ q (ih) _ _ _ _ _ _ _ _ _ _ h
      · refine bfr_in (i := (sA σ 78 x2)) (m := 7) 4 (pc1 := 40) (L1 := [some (.ref 77), some (.int x1), some (.int x2), some (.int (sA σ 78 x2))]) (J1 := []) (st1 := [(.int (sA σ 80 (sA σ 78 x2)))]) (w1 := mkC ra rb rc re rf rg σ) (fun _ _ => rfl) h (fun h => ?_)
        refine bfr_in (i := (x2 + ci_1)) (m := 12) 6 (pc1 := 48) (L1 := [some (.ref 77), some (.int x1), some (.int x2), some (.int (sA σ 78 x2))]) (J1 := []) (st1 := [(.int (sA σ 79 (x2 + ci_1))), (.int (sA σ 80 (sA σ 78 x2)))]) (w1 := mkC ra rb rc re rf rg σ) (fun _ _ => rfl) h (fun h => ?_)
        refine bfr_br 1 (pc1 := 53) (L1 := [some (.ref 77), some (.int x1), some (.int x2), some (.int (sA σ 78 x2))]) (J1 := []) (st1 := []) (w1 := mkC ra rb rc re rf rg σ) (pc2 := 51) (L2 := [some (.ref 77), some (.int x1), some (.int x2), some (.int (sA σ 78 x2))]) (J2 := []) (st2 := []) (w2 := mkC ra rb rc re rf rg σ) (fun _ _ => rfl) h (fun h => ?_) (fun h => ?_)
        · exact k_cSeen_learn_b53 n d _ q (ih) _ _ _ _ _ _ _ _ _ _ h
        · exact bfr_bz (mk := mkC ra rb rc re rf rg) 2 (fun _ _ => rfl) h
set_option maxRecDepth 100000 in
theorem k_cSeen_learn (n d : Nat) (q : (Int32 × bS)) (x1 : Int32) (ra : Nat) (rb : Nat) (rc : Nat) (re : Nat) (rf : Value) (rg : Value) (σ : bS) (h : cSeen_learn n x1 σ = some q) : bfr MT (d + 1) M_X6_learn 0 [some (.ref 77), some (.int x1), none, none] [] [] (mkC ra rb rc re rf rg σ) (some (.int q.1), mkC ra rb rc re rf rg q.2) := by
  unfold cSeen_learn at h
  refine bfr_call 4 (d1 := d + 0) (M1 := M_J7_fill_53178) (vs := [(.ref 80), (.int ci_m1)]) (w1 := mkC ra rb rc re rf rg σ) (pc2 := 8) (L2 := [some (.ref 77), some (.int x1), none, none]) (J2 := []) (rest := []) (fun _ => none) (fun a => mkC ra rb rc re rf rg a) (fun _ _ => rfl) h (fun a ha => k_cj_fill_80 n (d + 0) _ _ _ _ _ _ _ _ _ ha) (fun q1 _ h => ?_)
  refine bfr_run 2 10 [some (.ref 77), some (.int x1), some (.int ci_0), none] [] [] (mkC ra rb rc re rf rg q1) (fun _ _ => rfl) ?_
  exact k_cSeen_learn_b10 n d q _ _ _ _ _ _ _ _ _ _ _ h
set_option maxRecDepth 100000 in
theorem k_cSeen_waysToFit_1_b53 (n d : Nat) (r26 : Int32 → Int32 → bS → Option (Int32 × bS)) (q : (Int32 × bS)) (hr26 : ∀ (x3 : Int32) (x4 : Int32) (o1 : Option Value) (ra : Nat) (rb : Nat) (rc : Nat) (re : Nat) (rf : Value) (rg : Value) (σ : bS), r26 x3 x4 σ = some q → bfr MT (d + 2) M_X6_waysToFit 26 [some (.ref 77), o1, some (.ref 1), some (.int x3), some (.int x4)] [] [] (mkC ra rb rc re rf rg σ) (some (.int q.1), mkC ra rb rc re rf rg q.2)) (x3 : Int32) (x4 : Int32) (o1 : Option Value) (ra : Nat) (rb : Nat) (rc : Nat) (re : Nat) (rf : Value) (rg : Value) (σ : bS) (h : cSeen_waysToFit_1_b53 n r26 x3 x4 σ = some q) : bfr MT (d + 2) M_X6_waysToFit 53 [some (.ref 77), o1, some (.ref 1), some (.int x3), some (.int x4)] [] [] (mkC ra rb rc re rf rg σ) (some (.int q.1), mkC ra rb rc re rf rg q.2) := by
  unfold cSeen_waysToFit_1_b53 at h
  refine bfr_run 1 56 [some (.ref 77), o1, some (.ref 1), some (.int x3), some (.int (x4 + ci_1))] [] [] (mkC ra rb rc re rf rg σ) (fun _ _ => rfl) ?_
  refine bfr_run 1 26 [some (.ref 77), o1, some (.ref 1), some (.int x3), some (.int (x4 + ci_1))] [] [] (mkC ra rb rc re rf rg σ) (fun _ _ => rfl) ?_
  exact hr26 _ _ _ _ _ _ _ _ _ _ h
set_option maxRecDepth 100000 in
theorem k_cSeen_waysToFit_1_b26 (n d : Nat) (q : (Int32 × bS)) : ∀ (k : Nat) (x3 : Int32) (x4 : Int32) (o1 : Option Value) (ra : Nat) (rb : Nat) (rc : Nat) (re : Nat) (rf : Value) (rg : Value) (σ : bS), cSeen_waysToFit_1_b26 n k x3 x4 σ = some q → bfr MT (d + 2) M_X6_waysToFit 26 [some (.ref 77), o1, some (.ref 1), some (.int x3), some (.int x4)] [] [] (mkC ra rb rc re rf rg σ) (some (.int q.1), mkC ra rb rc re rf rg q.2) := by
  intro k
  induction k with
  | zero => intro x3 x4 o1 ra rb rc re rf rg σ h; exact bno h
  | succ k ih =>
    intro x3 x4 o1 ra rb rc re rf rg σ h
    unfold cSeen_waysToFit_1_b26 at h
    refine bfr_br 4 (pc1 := 59) (L1 := [some (.ref 77), o1, some (.ref 1), some (.int x3), some (.int x4)]) (J1 := []) (st1 := []) (w1 := mkC ra rb rc re rf rg σ) (pc2 := 35) (L2 := [some (.ref 77), o1, some (.ref 1), some (.int x3), some (.int x4)]) (J2 := []) (st2 := []) (w2 := mkC ra rb rc re rf rg σ) (fun _ _ => rfl) h (fun h => ?_) (fun h => ?_)
    · cases h
      exact bfr_ret 2 (fun _ _ => rfl)
    · refine bfr_in (i := x4) (m := 7) 4 (pc1 := 42) (L1 := [some (.ref 77), o1, some (.ref 1), some (.int x3), some (.int x4)]) (J1 := []) (st1 := [(.int (sA σ 80 x4))]) (w1 := mkC ra rb rc re rf rg σ) (fun _ _ => rfl) h (fun h => ?_)
      refine bfr_br 2 (pc1 := 46) (L1 := [some (.ref 77), o1, some (.ref 1), some (.int x3), some (.int x4)]) (J1 := []) (st1 := []) (w1 := mkC ra rb rc re rf rg σ) (pc2 := 53) (L2 := [some (.ref 77), o1, some (.ref 1), some (.int x3), some (.int x4)]) (J2 := []) (st2 := []) (w2 := mkC ra rb rc re rf rg σ) (fun _ _ => rfl) h (fun h => ?_) (fun h => ?_)
      · refine bfr_run 5 53 [some (.ref 77), o1, some (.ref 1), some (.int (x3 * (sI σ 1 0))), some (.int x4)] [] [] (mkC ra rb rc re rf rg σ) (fun _ _ => rfl) ?_
        exact k_cSeen_waysToFit_1_b53 n d _ q (ih) _ _ _ _ _ _ _ _ _ _ h
      · exact k_cSeen_waysToFit_1_b53 n d _ q (ih) _ _ _ _ _ _ _ _ _ _ h
set_option maxRecDepth 100000 in
theorem k_cSeen_waysToFit_1_b22 (n d : Nat) (q : (Int32 × bS)) (s0 : Int32) (o1 : Option Value) (o3 : Option Value) (o4 : Option Value) (ra : Nat) (rb : Nat) (rc : Nat) (re : Nat) (rf : Value) (rg : Value) (σ : bS) (h : cSeen_waysToFit_1_b22 n s0 σ = some q) : bfr MT (d + 2) M_X6_waysToFit 22 [some (.ref 77), o1, some (.ref 1), o3, o4] [] [(.int s0)] (mkC ra rb rc re rf rg σ) (some (.int q.1), mkC ra rb rc re rf rg q.2) := by
  unfold cSeen_waysToFit_1_b22 at h
  refine bfr_run 3 26 [some (.ref 77), o1, some (.ref 1), some (.int s0), some (.int ci_0)] [] [] (mkC ra rb rc re rf rg σ) (fun _ _ => rfl) ?_
  exact k_cSeen_waysToFit_1_b26 n d q _ _ _ _ _ _ _ _ _ _ _ h
set_option maxRecDepth 100000 in
theorem k_cSeen_waysToFit_1 (n d : Nat) (q : (Int32 × bS)) (x1 : Int32) (ra : Nat) (rb : Nat) (rc : Nat) (re : Nat) (rf : Value) (rg : Value) (σ : bS) (h : cSeen_waysToFit_1 n x1 σ = some q) : bfr MT (d + 2) M_X6_waysToFit 0 [some (.ref 77), some (.int x1), some (.ref 1), none, none] [] [] (mkC ra rb rc re rf rg σ) (some (.int q.1), mkC ra rb rc re rf rg q.2) := by
  unfold cSeen_waysToFit_1 at h
  refine bfr_call 3 (d1 := d + 1) (M1 := M_X6_learn) (vs := [(.ref 77), (.int x1)]) (w1 := mkC ra rb rc re rf rg σ) (pc2 := 5) (L2 := [some (.ref 77), some (.int x1), some (.ref 1), none, none]) (J2 := []) (rest := []) (fun a => some (.int a.1)) (fun a => mkC ra rb rc re rf rg a.2) (fun _ _ => rfl) h (fun a ha => k_cSeen_learn n (d + 0) _ _ _ _ _ _ _ _ _ ha) (fun q1 _ h => ?_)
  refine bfr_br 1 (pc1 := 8) (L1 := [some (.ref 77), some (.int x1), some (.ref 1), none, none]) (J1 := []) (st1 := []) (w1 := mkC ra rb rc re rf rg q1.2) (pc2 := 10) (L2 := [some (.ref 77), some (.int x1), some (.ref 1), none, none]) (J2 := []) (st2 := []) (w2 := mkC ra rb rc re rf rg q1.2) (fun _ _ => rfl) h (fun h => ?_) (fun h => ?_)
  · cases h
    exact bfr_ret 2 (fun _ _ => rfl)
  · refine bfr_br 2 (pc1 := 14) (L1 := [some (.ref 77), some (.int x1), some (.ref 1), none, none]) (J1 := []) (st1 := []) (w1 := mkC ra rb rc re rf rg q1.2) (pc2 := 21) (L2 := [some (.ref 77), some (.int x1), some (.ref 1), none, none]) (J2 := []) (st2 := []) (w2 := mkC ra rb rc re rf rg q1.2) (fun _ _ => rfl) h (fun h => ?_) (fun h => ?_)
    · refine bfr_run 3 22 [some (.ref 77), some (.int x1), some (.ref 1), none, none] [] [(.int (sI q1.2 1 0))] (mkC ra rb rc re rf rg q1.2) (fun _ _ => rfl) ?_
      exact k_cSeen_waysToFit_1_b22 n d q _ _ _ _ _ _ _ _ _ _ _ h
    · refine bfr_run 1 22 [some (.ref 77), some (.int x1), some (.ref 1), none, none] [] [(.int ci_1)] (mkC ra rb rc re rf rg q1.2) (fun _ _ => rfl) ?_
      exact k_cSeen_waysToFit_1_b22 n d q _ _ _ _ _ _ _ _ _ _ _ h
set_option maxRecDepth 100000 in
theorem k_cTop_fits_b24 (n d : Nat) (q : (Int32 × bS)) (s0 : Int32) (o0 : Option Value) (o1 : Option Value) (rb : Nat) (rc : Nat) (re : Nat) (rf : Value) (rg : Value) (σ : bS) (h : cTop_fits_b24 n s0 σ = some q) : bfr MT (d + 3) M_X11_fits 24 [o0, o1] [] [(.int s0)] (mkC 1 rb rc re rf rg σ) (some (.int q.1), mkC 1 rb rc re rf rg q.2) := by
  unfold cTop_fits_b24 at h
  cases h
  exact bfr_ret 1 (fun _ _ => rfl)
set_option maxRecDepth 100000 in
theorem k_cTop_fits (n d : Nat) (q : (Int32 × bS)) (x1 : Int32) (rb : Nat) (rc : Nat) (re : Nat) (rf : Value) (rg : Value) (σ : bS) (h : cTop_fits n x1 σ = some q) : bfr MT (d + 3) M_X11_fits 0 [some (.ref 0), some (.int x1)] [] [] (mkC 1 rb rc re rf rg σ) (some (.int q.1), mkC 1 rb rc re rf rg q.2) := by
  unfold cTop_fits at h
  refine bfr_call 3 (d1 := d + 2) (M1 := M_X11_isKnown) (vs := [(.ref 0), (.int x1)]) (w1 := mkC 1 rb rc re rf rg σ) (pc2 := 5) (L2 := [some (.ref 0), some (.int x1)]) (J2 := []) (rest := []) (fun a => some (.int a.1)) (fun a => mkC 1 rb rc re rf rg a.2) (fun _ _ => rfl) h (fun a ha => k_cTop_isKnown n (d + 2) _ _ _ _ _ _ _ _ _ ha) (fun q1 _ h => ?_)
  refine bfr_br 1 (pc1 := 23) (L1 := [some (.ref 0), some (.int x1)]) (J1 := []) (st1 := []) (w1 := mkC 1 rb rc re rf rg q1.2) (pc2 := 8) (L2 := [some (.ref 0), some (.int x1)]) (J2 := []) (st2 := []) (w2 := mkC 1 rb rc re rf rg q1.2) (fun _ _ => rfl) h (fun h => ?_) (fun h => ?_)
  · refine bfr_run 1 24 [some (.ref 0), some (.int x1)] [] [(.int ci_m1)] (mkC 1 rb rc re rf rg q1.2) (fun _ _ => rfl) ?_
    exact k_cTop_fits_b24 n d q _ _ _ _ _ _ _ _ _ h
  · refine bfr_call 6 (d1 := d + 2) (M1 := M_X6_waysToFit) (vs := [(.ref 77), (.int x1), (.ref 1)]) (w1 := mkC 1 rb rc re rf rg q1.2) (pc2 := 20) (L2 := [some (.ref 0), some (.int x1)]) (J2 := []) (rest := []) (fun a => some (.int a.1)) (fun a => mkC 1 rb rc re rf rg a.2) (fun _ _ => rfl) h (fun a ha => k_cSeen_waysToFit_1 n (d + 0) _ _ _ _ _ _ _ _ _ ha) (fun q2 _ h => ?_)
    refine bfr_run 1 24 [some (.ref 0), some (.int x1)] [] [(.int q2.1)] (mkC 1 rb rc re rf rg q2.2) (fun _ _ => rfl) ?_
    exact k_cTop_fits_b24 n d q _ _ _ _ _ _ _ _ _ h
set_option maxRecDepth 100000 in
theorem k_cSeen_sureWish_1_b35 (n d : Nat) (q : (Int32 × bS)) (s0 : Int32) (o0 : Option Value) (o1 : Option Value) (o2 : Option Value) (o3 : Option Value) (ra : Nat) (rb : Nat) (rc : Nat) (re : Nat) (rf : Value) (rg : Value) (σ : bS) (h : cSeen_sureWish_1_b35 n s0 σ = some q) : bfr MT (d + 2) M_X6_sureWish 35 [o0, o1, o2, o3] [] [(.int s0)] (mkC ra rb rc re rf rg σ) (some (.int q.1), mkC ra rb rc re rf rg q.2) := by
  unfold cSeen_sureWish_1_b35 at h
  cases h
  exact bfr_ret 1 (fun _ _ => rfl)
set_option maxRecDepth 100000 in
theorem k_cSeen_sureWish_1 (n d : Nat) (q : (Int32 × bS)) (x1 : Int32) (x2 : Int32) (ra : Nat) (rb : Nat) (rc : Nat) (re : Nat) (rf : Value) (rg : Value) (σ : bS) (h : cSeen_sureWish_1 n x1 x2 σ = some q) : bfr MT (d + 2) M_X6_sureWish 0 [some (.ref 77), some (.int x1), some (.int x2), some (.ref 1)] [] [] (mkC ra rb rc re rf rg σ) (some (.int q.1), mkC ra rb rc re rf rg q.2) := by
  unfold cSeen_sureWish_1 at h
  refine bfr_call 3 (d1 := d + 1) (M1 := M_X6_learn) (vs := [(.ref 77), (.int x1)]) (w1 := mkC ra rb rc re rf rg σ) (pc2 := 5) (L2 := [some (.ref 77), some (.int x1), some (.int x2), some (.ref 1)]) (J2 := []) (rest := []) (fun a => some (.int a.1)) (fun a => mkC ra rb rc re rf rg a.2) (fun _ _ => rfl) h (fun a ha => k_cSeen_learn n (d + 0) _ _ _ _ _ _ _ _ _ ha) (fun q1 _ h => ?_)
  refine bfr_br 1 (pc1 := 8) (L1 := [some (.ref 77), some (.int x1), some (.int x2), some (.ref 1)]) (J1 := []) (st1 := []) (w1 := mkC ra rb rc re rf rg q1.2) (pc2 := 11) (L2 := [some (.ref 77), some (.int x1), some (.int x2), some (.ref 1)]) (J2 := []) (st2 := []) (w2 := mkC ra rb rc re rf rg q1.2) (fun _ _ => rfl) h (fun h => ?_) (fun h => ?_)
  · cases h
    exact bfr_ret 2 (fun _ _ => rfl)
  · refine bfr_in (i := x2) (m := 7) 4 (pc1 := 17) (L1 := [some (.ref 77), some (.int x1), some (.int x2), some (.ref 1)]) (J1 := []) (st1 := [(.int (sA q1.2 80 x2))]) (w1 := mkC ra rb rc re rf rg q1.2) (fun _ _ => rfl) h (fun h => ?_)
    refine bfr_br 2 (pc1 := 21) (L1 := [some (.ref 77), some (.int x1), some (.int x2), some (.ref 1)]) (J1 := []) (st1 := []) (w1 := mkC ra rb rc re rf rg q1.2) (pc2 := 36) (L2 := [some (.ref 77), some (.int x1), some (.int x2), some (.ref 1)]) (J2 := []) (st2 := []) (w2 := mkC ra rb rc re rf rg q1.2) (fun _ _ => rfl) h (fun h => ?_) (fun h => ?_)
    · refine bfr_br 4 (pc1 := 29) (L1 := [some (.ref 77), some (.int x1), some (.int x2), some (.ref 1)]) (J1 := []) (st1 := []) (w1 := mkC ra rb rc re rf rg q1.2) (pc2 := 33) (L2 := [some (.ref 77), some (.int x1), some (.int x2), some (.ref 1)]) (J2 := []) (st2 := []) (w2 := mkC ra rb rc re rf rg q1.2) (fun _ _ => rfl) h (fun h => ?_) (fun h => ?_)
      · refine bfr_run 2 35 [some (.ref 77), some (.int x1), some (.int x2), some (.ref 1)] [] [(.int ci_0)] (mkC ra rb rc re rf rg q1.2) (fun _ _ => rfl) ?_
        exact k_cSeen_sureWish_1_b35 n d q _ _ _ _ _ _ _ _ _ _ _ _ h
      · refine bfr_run 1 35 [some (.ref 77), some (.int x1), some (.int x2), some (.ref 1)] [] [(.int cb_m2)] (mkC ra rb rc re rf rg q1.2) (fun _ _ => rfl) ?_
        exact k_cSeen_sureWish_1_b35 n d q _ _ _ _ _ _ _ _ _ _ _ _ h
    · refine bfr_in (i := x2) (m := 7) 4 (pc1 := 42) (L1 := [some (.ref 77), some (.int x1), some (.int x2), some (.ref 1)]) (J1 := []) (st1 := [(.int (sA q1.2 80 x2))]) (w1 := mkC ra rb rc re rf rg q1.2) (fun _ _ => rfl) h (fun h => ?_)
      cases h
      exact bfr_ret 1 (fun _ _ => rfl)
set_option maxRecDepth 100000 in
theorem k_cTop_sure_b33 (n d : Nat) (q : (Int32 × bS)) (s0 : Int32) (o0 : Option Value) (o1 : Option Value) (o2 : Option Value) (rb : Nat) (rc : Nat) (re : Nat) (rf : Value) (rg : Value) (σ : bS) (h : cTop_sure_b33 n s0 σ = some q) : bfr MT (d + 3) M_X11_sure 33 [o0, o1, o2] [] [(.int s0)] (mkC 1 rb rc re rf rg σ) (some (.int q.1), mkC 1 rb rc re rf rg q.2) := by
  unfold cTop_sure_b33 at h
  cases h
  exact bfr_ret 1 (fun _ _ => rfl)
set_option maxRecDepth 100000 in
theorem k_cTop_sure_b32 (n d : Nat) (q : (Int32 × bS)) (o0 : Option Value) (o1 : Option Value) (o2 : Option Value) (rb : Nat) (rc : Nat) (re : Nat) (rf : Value) (rg : Value) (σ : bS) (h : cTop_sure_b32 n σ = some q) : bfr MT (d + 3) M_X11_sure 32 [o0, o1, o2] [] [] (mkC 1 rb rc re rf rg σ) (some (.int q.1), mkC 1 rb rc re rf rg q.2) := by
  unfold cTop_sure_b32 at h
  refine bfr_run 1 33 [o0, o1, o2] [] [(.int ci_m1)] (mkC 1 rb rc re rf rg σ) (fun _ _ => rfl) ?_
  exact k_cTop_sure_b33 n d q _ _ _ _ _ _ _ _ _ _ h
set_option maxRecDepth 100000 in
theorem k_cTop_sure (n d : Nat) (q : (Int32 × bS)) (x1 : Int32) (x2 : Int32) (rb : Nat) (rc : Nat) (re : Nat) (rf : Value) (rg : Value) (σ : bS) (h : cTop_sure n x1 x2 σ = some q) : bfr MT (d + 3) M_X11_sure 0 [some (.ref 0), some (.int x1), some (.int x2)] [] [] (mkC 1 rb rc re rf rg σ) (some (.int q.1), mkC 1 rb rc re rf rg q.2) := by
  unfold cTop_sure at h
  refine bfr_call 3 (d1 := d + 2) (M1 := M_X11_isKnown) (vs := [(.ref 0), (.int x1)]) (w1 := mkC 1 rb rc re rf rg σ) (pc2 := 5) (L2 := [some (.ref 0), some (.int x1), some (.int x2)]) (J2 := []) (rest := []) (fun a => some (.int a.1)) (fun a => mkC 1 rb rc re rf rg a.2) (fun _ _ => rfl) h (fun a ha => k_cTop_isKnown n (d + 2) _ _ _ _ _ _ _ _ _ ha) (fun q1 _ h => ?_)
  refine bfr_br 1 (pc1 := 32) (L1 := [some (.ref 0), some (.int x1), some (.int x2)]) (J1 := []) (st1 := []) (w1 := mkC 1 rb rc re rf rg q1.2) (pc2 := 8) (L2 := [some (.ref 0), some (.int x1), some (.int x2)]) (J2 := []) (st2 := []) (w2 := mkC 1 rb rc re rf rg q1.2) (fun _ _ => rfl) h (fun h => ?_) (fun h => ?_)
  · exact k_cTop_sure_b32 n d q _ _ _ _ _ _ _ _ _ h
  · refine bfr_call 3 (d1 := d + 2) (M1 := M_X11_isMan) (vs := [(.ref 0), (.int x2)]) (w1 := mkC 1 rb rc re rf rg q1.2) (pc2 := 13) (L2 := [some (.ref 0), some (.int x1), some (.int x2)]) (J2 := []) (rest := []) (fun a => some (.int a.1)) (fun a => mkC 1 rb rc re rf rg a.2) (fun _ _ => rfl) h (fun a ha => k_cTop_isMan n (d + 2) _ _ _ _ _ _ _ _ ha) (fun q2 _ h => ?_)
    refine bfr_br 1 (pc1 := 32) (L1 := [some (.ref 0), some (.int x1), some (.int x2)]) (J1 := []) (st1 := []) (w1 := mkC 1 rb rc re rf rg q2.2) (pc2 := 16) (L2 := [some (.ref 0), some (.int x1), some (.int x2)]) (J2 := []) (st2 := []) (w2 := mkC 1 rb rc re rf rg q2.2) (fun _ _ => rfl) h (fun h => ?_) (fun h => ?_)
    · exact k_cTop_sure_b32 n d q _ _ _ _ _ _ _ _ _ h
    · refine bfr_run 6 26 [some (.ref 0), some (.int x1), some (.int x2)] [] [(.ref 1), (.int x2), (.int x1), (.ref 77)] (mkC 1 rb rc re rf rg q2.2) (fun _ _ => rfl) ?_
      refine bfr_call 1 (d1 := d + 2) (M1 := M_X6_sureWish) (vs := [(.ref 77), (.int x1), (.int x2), (.ref 1)]) (w1 := mkC 1 rb rc re rf rg q2.2) (pc2 := 29) (L2 := [some (.ref 0), some (.int x1), some (.int x2)]) (J2 := []) (rest := []) (fun a => some (.int a.1)) (fun a => mkC 1 rb rc re rf rg a.2) (fun _ _ => rfl) h (fun a ha => k_cSeen_sureWish_1 n (d + 0) _ _ _ _ _ _ _ _ _ _ ha) (fun q3 _ h => ?_)
      refine bfr_run 1 33 [some (.ref 0), some (.int x1), some (.int x2)] [] [(.int q3.1)] (mkC 1 rb rc re rf rg q3.2) (fun _ _ => rfl) ?_
      exact k_cTop_sure_b33 n d q _ _ _ _ _ _ _ _ _ _ h
set_option maxRecDepth 100000 in
theorem k_cSeen_trueOnes_1_b69 (n d : Nat) (r15 : Int32 → Int32 → bS → Option (Int32 × bS)) (q : (Int32 × bS)) (hr15 : ∀ (x3 : Int32) (x4 : Int32) (o1 : Option Value) (ra : Nat) (rb : Nat) (rc : Nat) (re : Nat) (rf : Value) (rg : Value) (σ : bS), r15 x3 x4 σ = some q → bfr MT (d + 2) M_X6_trueOnes 15 [some (.ref 77), o1, some (.ref 1), some (.int x3), some (.int x4)] [] [] (mkC ra rb rc re rf rg σ) (some (.int q.1), mkC ra rb rc re rf rg q.2)) (x3 : Int32) (x4 : Int32) (o1 : Option Value) (ra : Nat) (rb : Nat) (rc : Nat) (re : Nat) (rf : Value) (rg : Value) (σ : bS) (h : cSeen_trueOnes_1_b69 n r15 x3 x4 σ = some q) : bfr MT (d + 2) M_X6_trueOnes 69 [some (.ref 77), o1, some (.ref 1), some (.int x3), some (.int x4)] [] [] (mkC ra rb rc re rf rg σ) (some (.int q.1), mkC ra rb rc re rf rg q.2) := by
  unfold cSeen_trueOnes_1_b69 at h
  refine bfr_run 1 72 [some (.ref 77), o1, some (.ref 1), some (.int x3), some (.int (x4 + ci_1))] [] [] (mkC ra rb rc re rf rg σ) (fun _ _ => rfl) ?_
  refine bfr_run 1 15 [some (.ref 77), o1, some (.ref 1), some (.int x3), some (.int (x4 + ci_1))] [] [] (mkC ra rb rc re rf rg σ) (fun _ _ => rfl) ?_
  exact hr15 _ _ _ _ _ _ _ _ _ _ h
set_option maxRecDepth 100000 in
theorem k_cSeen_trueOnes_1_b62 (n d : Nat) (r15 : Int32 → Int32 → bS → Option (Int32 × bS)) (q : (Int32 × bS)) (hr15 : ∀ (x3 : Int32) (x4 : Int32) (o1 : Option Value) (ra : Nat) (rb : Nat) (rc : Nat) (re : Nat) (rf : Value) (rg : Value) (σ : bS), r15 x3 x4 σ = some q → bfr MT (d + 2) M_X6_trueOnes 15 [some (.ref 77), o1, some (.ref 1), some (.int x3), some (.int x4)] [] [] (mkC ra rb rc re rf rg σ) (some (.int q.1), mkC ra rb rc re rf rg q.2)) (x3 : Int32) (x4 : Int32) (o1 : Option Value) (ra : Nat) (rb : Nat) (rc : Nat) (re : Nat) (rf : Value) (rg : Value) (σ : bS) (h : cSeen_trueOnes_1_b62 n r15 x3 x4 σ = some q) : bfr MT (d + 2) M_X6_trueOnes 62 [some (.ref 77), o1, some (.ref 1), some (.int x3), some (.int x4)] [] [] (mkC ra rb rc re rf rg σ) (some (.int q.1), mkC ra rb rc re rf rg q.2) := by
  unfold cSeen_trueOnes_1_b62 at h
  refine bfr_run 6 69 [some (.ref 77), o1, some (.ref 1), some (.int (x3 ||| (ci_1 <<< (x4 &&& 31)))), some (.int x4)] [] [] (mkC ra rb rc re rf rg σ) (fun _ _ => rfl) ?_
  exact k_cSeen_trueOnes_1_b69 n d _ q hr15 _ _ _ _ _ _ _ _ _ _ h
set_option maxRecDepth 100000 in
theorem k_cSeen_trueOnes_1_b15 (n d : Nat) (q : (Int32 × bS)) : ∀ (k : Nat) (x3 : Int32) (x4 : Int32) (o1 : Option Value) (ra : Nat) (rb : Nat) (rc : Nat) (re : Nat) (rf : Value) (rg : Value) (σ : bS), cSeen_trueOnes_1_b15 n k x3 x4 σ = some q → bfr MT (d + 2) M_X6_trueOnes 15 [some (.ref 77), o1, some (.ref 1), some (.int x3), some (.int x4)] [] [] (mkC ra rb rc re rf rg σ) (some (.int q.1), mkC ra rb rc re rf rg q.2) := by
  intro k
  induction k with
  | zero => intro x3 x4 o1 ra rb rc re rf rg σ h; exact bno h
  | succ k ih =>
    intro x3 x4 o1 ra rb rc re rf rg σ h
    unfold cSeen_trueOnes_1_b15 at h
    refine bfr_br 4 (pc1 := 75) (L1 := [some (.ref 77), o1, some (.ref 1), some (.int x3), some (.int x4)]) (J1 := []) (st1 := []) (w1 := mkC ra rb rc re rf rg σ) (pc2 := 24) (L2 := [some (.ref 77), o1, some (.ref 1), some (.int x3), some (.int x4)]) (J2 := []) (st2 := []) (w2 := mkC ra rb rc re rf rg σ) (fun _ _ => rfl) h (fun h => ?_) (fun h => ?_)
    · cases h
      exact bfr_ret 2 (fun _ _ => rfl)
    · refine bfr_in (i := x4) (m := 7) 4 (pc1 := 31) (L1 := [some (.ref 77), o1, some (.ref 1), some (.int x3), some (.int x4)]) (J1 := []) (st1 := [(.int (sA σ 81 x4))]) (w1 := mkC ra rb rc re rf rg σ) (fun _ _ => rfl) h (fun h => ?_)
      refine bfr_br 1 (pc1 := 69) (L1 := [some (.ref 77), o1, some (.ref 1), some (.int x3), some (.int x4)]) (J1 := []) (st1 := []) (w1 := mkC ra rb rc re rf rg σ) (pc2 := 34) (L2 := [some (.ref 77), o1, some (.ref 1), some (.int x3), some (.int x4)]) (J2 := []) (st2 := []) (w2 := mkC ra rb rc re rf rg σ) (fun _ _ => rfl) h (fun h => ?_) (fun h => ?_)
      · exact k_cSeen_trueOnes_1_b69 n d _ q (ih) _ _ _ _ _ _ _ _ _ _ h
      · refine bfr_in (i := x4) (m := 7) 4 (pc1 := 41) (L1 := [some (.ref 77), o1, some (.ref 1), some (.int x3), some (.int x4)]) (J1 := []) (st1 := [(.int (sA σ 80 x4))]) (w1 := mkC ra rb rc re rf rg σ) (fun _ _ => rfl) h (fun h => ?_)
        refine bfr_br 2 (pc1 := 62) (L1 := [some (.ref 77), o1, some (.ref 1), some (.int x3), some (.int x4)]) (J1 := []) (st1 := []) (w1 := mkC ra rb rc re rf rg σ) (pc2 := 45) (L2 := [some (.ref 77), o1, some (.ref 1), some (.int x3), some (.int x4)]) (J2 := []) (st2 := []) (w2 := mkC ra rb rc re rf rg σ) (fun _ _ => rfl) h (fun h => ?_) (fun h => ?_)
        · exact k_cSeen_trueOnes_1_b62 n d _ q (ih) _ _ _ _ _ _ _ _ _ _ h
        · refine bfr_in (i := x4) (m := 7) 4 (pc1 := 52) (L1 := [some (.ref 77), o1, some (.ref 1), some (.int x3), some (.int x4)]) (J1 := []) (st1 := [(.int (sA σ 80 x4))]) (w1 := mkC ra rb rc re rf rg σ) (fun _ _ => rfl) h (fun h => ?_)
          refine bfr_in (i := x4) (m := 7) 4 (pc1 := 59) (L1 := [some (.ref 77), o1, some (.ref 1), some (.int x3), some (.int x4)]) (J1 := []) (st1 := [(.int (sA σ 81 x4)), (.int (sA σ 80 x4))]) (w1 := mkC ra rb rc re rf rg σ) (fun _ _ => rfl) h (fun h => ?_)
          refine bfr_br 1 (pc1 := 62) (L1 := [some (.ref 77), o1, some (.ref 1), some (.int x3), some (.int x4)]) (J1 := []) (st1 := []) (w1 := mkC ra rb rc re rf rg σ) (pc2 := 69) (L2 := [some (.ref 77), o1, some (.ref 1), some (.int x3), some (.int x4)]) (J2 := []) (st2 := []) (w2 := mkC ra rb rc re rf rg σ) (fun _ _ => rfl) h (fun h => ?_) (fun h => ?_)
          · exact k_cSeen_trueOnes_1_b62 n d _ q (ih) _ _ _ _ _ _ _ _ _ _ h
          · exact k_cSeen_trueOnes_1_b69 n d _ q (ih) _ _ _ _ _ _ _ _ _ _ h
set_option maxRecDepth 100000 in
theorem k_cSeen_trueOnes_1 (n d : Nat) (q : (Int32 × bS)) (x1 : Int32) (ra : Nat) (rb : Nat) (rc : Nat) (re : Nat) (rf : Value) (rg : Value) (σ : bS) (h : cSeen_trueOnes_1 n x1 σ = some q) : bfr MT (d + 2) M_X6_trueOnes 0 [some (.ref 77), some (.int x1), some (.ref 1), none, none] [] [] (mkC ra rb rc re rf rg σ) (some (.int q.1), mkC ra rb rc re rf rg q.2) := by
  unfold cSeen_trueOnes_1 at h
  refine bfr_call 3 (d1 := d + 1) (M1 := M_X6_learn) (vs := [(.ref 77), (.int x1)]) (w1 := mkC ra rb rc re rf rg σ) (pc2 := 5) (L2 := [some (.ref 77), some (.int x1), some (.ref 1), none, none]) (J2 := []) (rest := []) (fun a => some (.int a.1)) (fun a => mkC ra rb rc re rf rg a.2) (fun _ _ => rfl) h (fun a ha => k_cSeen_learn n (d + 0) _ _ _ _ _ _ _ _ _ ha) (fun q1 _ h => ?_)
  refine bfr_br 1 (pc1 := 8) (L1 := [some (.ref 77), some (.int x1), some (.ref 1), none, none]) (J1 := []) (st1 := []) (w1 := mkC ra rb rc re rf rg q1.2) (pc2 := 10) (L2 := [some (.ref 77), some (.int x1), some (.ref 1), none, none]) (J2 := []) (st2 := []) (w2 := mkC ra rb rc re rf rg q1.2) (fun _ _ => rfl) h (fun h => ?_) (fun h => ?_)
  · cases h
    exact bfr_ret 2 (fun _ _ => rfl)
  · refine bfr_run 4 15 [some (.ref 77), some (.int x1), some (.ref 1), some (.int ci_0), some (.int ci_0)] [] [] (mkC ra rb rc re rf rg q1.2) (fun _ _ => rfl) ?_
    exact k_cSeen_trueOnes_1_b15 n d q _ _ _ _ _ _ _ _ _ _ _ h
set_option maxRecDepth 100000 in
theorem k_cTop_trust_b24 (n d : Nat) (q : (Int32 × bS)) (s0 : Int32) (o0 : Option Value) (o1 : Option Value) (rb : Nat) (rc : Nat) (re : Nat) (rf : Value) (rg : Value) (σ : bS) (h : cTop_trust_b24 n s0 σ = some q) : bfr MT (d + 3) M_X11_trust 24 [o0, o1] [] [(.int s0)] (mkC 1 rb rc re rf rg σ) (some (.int q.1), mkC 1 rb rc re rf rg q.2) := by
  unfold cTop_trust_b24 at h
  cases h
  exact bfr_ret 1 (fun _ _ => rfl)
set_option maxRecDepth 100000 in
theorem k_cTop_trust (n d : Nat) (q : (Int32 × bS)) (x1 : Int32) (rb : Nat) (rc : Nat) (re : Nat) (rf : Value) (rg : Value) (σ : bS) (h : cTop_trust n x1 σ = some q) : bfr MT (d + 3) M_X11_trust 0 [some (.ref 0), some (.int x1)] [] [] (mkC 1 rb rc re rf rg σ) (some (.int q.1), mkC 1 rb rc re rf rg q.2) := by
  unfold cTop_trust at h
  refine bfr_call 3 (d1 := d + 2) (M1 := M_X11_isKnown) (vs := [(.ref 0), (.int x1)]) (w1 := mkC 1 rb rc re rf rg σ) (pc2 := 5) (L2 := [some (.ref 0), some (.int x1)]) (J2 := []) (rest := []) (fun a => some (.int a.1)) (fun a => mkC 1 rb rc re rf rg a.2) (fun _ _ => rfl) h (fun a ha => k_cTop_isKnown n (d + 2) _ _ _ _ _ _ _ _ _ ha) (fun q1 _ h => ?_)
  refine bfr_br 1 (pc1 := 23) (L1 := [some (.ref 0), some (.int x1)]) (J1 := []) (st1 := []) (w1 := mkC 1 rb rc re rf rg q1.2) (pc2 := 8) (L2 := [some (.ref 0), some (.int x1)]) (J2 := []) (st2 := []) (w2 := mkC 1 rb rc re rf rg q1.2) (fun _ _ => rfl) h (fun h => ?_) (fun h => ?_)
  · refine bfr_run 1 24 [some (.ref 0), some (.int x1)] [] [(.int ci_m1)] (mkC 1 rb rc re rf rg q1.2) (fun _ _ => rfl) ?_
    exact k_cTop_trust_b24 n d q _ _ _ _ _ _ _ _ _ h
  · refine bfr_call 6 (d1 := d + 2) (M1 := M_X6_trueOnes) (vs := [(.ref 77), (.int x1), (.ref 1)]) (w1 := mkC 1 rb rc re rf rg q1.2) (pc2 := 20) (L2 := [some (.ref 0), some (.int x1)]) (J2 := []) (rest := []) (fun a => some (.int a.1)) (fun a => mkC 1 rb rc re rf rg a.2) (fun _ _ => rfl) h (fun a ha => k_cSeen_trueOnes_1 n (d + 0) _ _ _ _ _ _ _ _ _ ha) (fun q2 _ h => ?_)
    refine bfr_run 1 24 [some (.ref 0), some (.int x1)] [] [(.int q2.1)] (mkC 1 rb rc re rf rg q2.2) (fun _ _ => rfl) ?_
    exact k_cTop_trust_b24 n d q _ _ _ _ _ _ _ _ _ h
set_option maxRecDepth 100000 in
theorem k_cShelf_putInSlot_27_b9 (n d : Nat) (q : (Int32 × bS)) (o0 : Option Value) (o1 : Option Value) (o2 : Option Value) (ra : Nat) (rb : Nat) (rc : Nat) (re : Nat) (rf : Value) (rg : Value) (σ : bS) (h : cShelf_putInSlot_27_b9 n σ = some q) : bfr MT (d + 2) M_X7_putInSlot 9 [o0, o1, o2] [] [] (mkC ra rb rc re rf rg σ) (some (.int q.1), mkC ra rb rc re rf rg q.2) := by
  unfold cShelf_putInSlot_27_b9 at h
  exact bfr_bz (mk := mkC ra rb rc re rf rg) 2 (fun _ _ => rfl) h
set_option maxRecDepth 100000 in
theorem k_cShelf_putInSlot_27 (n d : Nat) (q : (Int32 × bS)) (x1 : Int32) (ra : Nat) (rb : Nat) (rc : Nat) (re : Nat) (rf : Value) (rg : Value) (σ : bS) (h : cShelf_putInSlot_27 n x1 σ = some q) : bfr MT (d + 2) M_X7_putInSlot 0 [some (.ref 54), some (.int x1), some (.ref 27)] [] [] (mkC ra rb rc re rf rg σ) (some (.int q.1), mkC ra rb rc re rf rg q.2) := by
  unfold cShelf_putInSlot_27 at h
  refine bfr_br 2 (pc1 := 9) (L1 := [some (.ref 54), some (.int x1), some (.ref 27)]) (J1 := []) (st1 := []) (w1 := mkC ra rb rc re rf rg σ) (pc2 := 4) (L2 := [some (.ref 54), some (.int x1), some (.ref 27)]) (J2 := []) (st2 := []) (w2 := mkC ra rb rc re rf rg σ) (fun _ _ => rfl) h (fun h => ?_) (fun h => ?_)
  · exact k_cShelf_putInSlot_27_b9 n d q _ _ _ _ _ _ _ _ _ _ h
  · refine bfr_br 3 (pc1 := 11) (L1 := [some (.ref 54), some (.int x1), some (.ref 27)]) (J1 := []) (st1 := []) (w1 := mkC ra rb rc re rf rg σ) (pc2 := 9) (L2 := [some (.ref 54), some (.int x1), some (.ref 27)]) (J2 := []) (st2 := []) (w2 := mkC ra rb rc re rf rg σ) (fun _ _ => rfl) h (fun h => ?_) (fun h => ?_)
    · refine bfr_run 6 20 [some (.ref 54), some (.int x1), some (.ref 27)] [] [(.int (cb_40 + x1)), (.ref 55), (.ref 27)] (mkC ra rb rc re rf rg σ) (fun _ _ => rfl) ?_
      refine bfr_call 3 (d1 := d + 1) (M1 := M_X1_putInto) (vs := [(.ref 27), (.ref 55), (.int ((cb_40 + x1) * cb_46))]) (w1 := mkC ra rb rc re rf rg σ) (pc2 := 26) (L2 := [some (.ref 54), some (.int x1), some (.ref 27)]) (J2 := []) (rest := []) (fun _ => none) (fun a => mkC ra rb rc re rf rg a) (fun _ _ => rfl) h (fun a ha => k_cGoing_putInto_55 n (d + 0) _ _ _ _ _ _ _ _ _ ha) (fun q1 _ h => ?_)
      refine bfr_run 6 34 [some (.ref 54), some (.int x1), some (.ref 27)] [] [(.int (ci_1 <<< (x1 &&& 31))), (.int (sI q1 54 3)), (.ref 54)] (mkC ra rb rc re rf rg q1) (fun _ _ => rfl) ?_
      refine bfr_run 2 38 [some (.ref 54), some (.int x1), some (.ref 27)] [] [] ((mkC ra rb rc re rf rg q1).set 54 (.inr (.inr (7, (mkC_54  ra rb rc re rf rg q1).set 3 (.int ((sI q1 54 3) ||| (ci_1 <<< (x1 &&& 31)))))))) (fun _ _ => rfl) ?_
      rw [mkC_I54_3]
      exact bfr_bz (mk := mkC ra rb rc re rf rg) 2 (fun _ _ => rfl) h
    · exact k_cShelf_putInSlot_27_b9 n d q _ _ _ _ _ _ _ _ _ _ h
set_option maxRecDepth 100000 in
theorem k_cTop_hold (n d : Nat) (q : (Int32 × bS)) (x1 : Int32) (ra : Nat) (rb : Nat) (rc : Nat) (re : Nat) (rf : Value) (rg : Value) (σ : bS) (h : cTop_hold n x1 σ = some q) : bfr MT (d + 3) M_X11_hold 0 [some (.ref 0), some (.int x1)] [] [] (mkC ra rb rc re rf rg σ) (some (.int q.1), mkC ra rb rc re rf rg q.2) := by
  unfold cTop_hold at h
  refine bfr_call 6 (d1 := d + 2) (M1 := M_X7_putInSlot) (vs := [(.ref 54), (.int x1), (.ref 27)]) (w1 := mkC ra rb rc re rf rg σ) (pc2 := 12) (L2 := [some (.ref 0), some (.int x1)]) (J2 := []) (rest := []) (fun a => some (.int a.1)) (fun a => mkC ra rb rc re rf rg a.2) (fun _ _ => rfl) h (fun a ha => k_cShelf_putInSlot_27 n (d + 0) _ _ _ _ _ _ _ _ _ ha) (fun q1 _ h => ?_)
  exact bfr_bz (mk := mkC ra rb rc re rf rg) 1 (fun _ _ => rfl) h
set_option maxRecDepth 100000 in
theorem k_cShelf_goOnFrom_27_b20 (n d : Nat) (q : (Int32 × bS)) (o0 : Option Value) (o1 : Option Value) (o2 : Option Value) (ra : Nat) (rb : Nat) (rc : Nat) (re : Nat) (rf : Value) (rg : Value) (σ : bS) (h : cShelf_goOnFrom_27_b20 n σ = some q) : bfr MT (d + 2) M_X7_goOnFrom 20 [o0, o1, o2] [] [] (mkC ra rb rc re rf rg σ) (some (.int q.1), mkC ra rb rc re rf rg q.2) := by
  unfold cShelf_goOnFrom_27_b20 at h
  exact bfr_bz (mk := mkC ra rb rc re rf rg) 2 (fun _ _ => rfl) h
set_option maxRecDepth 100000 in
theorem k_cShelf_goOnFrom_27 (n d : Nat) (q : (Int32 × bS)) (x1 : Int32) (ra : Nat) (rb : Nat) (rc : Nat) (re : Nat) (rf : Value) (rg : Value) (σ : bS) (h : cShelf_goOnFrom_27 n x1 σ = some q) : bfr MT (d + 2) M_X7_goOnFrom 0 [some (.ref 54), some (.int x1), some (.ref 27)] [] [] (mkC ra rb rc re rf rg σ) (some (.int q.1), mkC ra rb rc re rf rg q.2) := by
  unfold cShelf_goOnFrom_27 at h
  refine bfr_br 2 (pc1 := 20) (L1 := [some (.ref 54), some (.int x1), some (.ref 27)]) (J1 := []) (st1 := []) (w1 := mkC ra rb rc re rf rg σ) (pc2 := 4) (L2 := [some (.ref 54), some (.int x1), some (.ref 27)]) (J2 := []) (st2 := []) (w2 := mkC ra rb rc re rf rg σ) (fun _ _ => rfl) h (fun h => ?_) (fun h => ?_)
  · exact k_cShelf_goOnFrom_27_b20 n d q _ _ _ _ _ _ _ _ _ _ h
  · refine bfr_br 3 (pc1 := 20) (L1 := [some (.ref 54), some (.int x1), some (.ref 27)]) (J1 := []) (st1 := []) (w1 := mkC ra rb rc re rf rg σ) (pc2 := 9) (L2 := [some (.ref 54), some (.int x1), some (.ref 27)]) (J2 := []) (st2 := []) (w2 := mkC ra rb rc re rf rg σ) (fun _ _ => rfl) h (fun h => ?_) (fun h => ?_)
    · exact k_cShelf_goOnFrom_27_b20 n d q _ _ _ _ _ _ _ _ _ _ h
    · refine bfr_run 6 17 [some (.ref 54), some (.int x1), some (.ref 27)] [] [(.int (((sI σ 54 3) >>> (x1 &&& 31)) &&& ci_1))] (mkC ra rb rc re rf rg σ) (fun _ _ => rfl) ?_
      refine bfr_br 1 (pc1 := 20) (L1 := [some (.ref 54), some (.int x1), some (.ref 27)]) (J1 := []) (st1 := []) (w1 := mkC ra rb rc re rf rg σ) (pc2 := 22) (L2 := [some (.ref 54), some (.int x1), some (.ref 27)]) (J2 := []) (st2 := []) (w2 := mkC ra rb rc re rf rg σ) (fun _ _ => rfl) h (fun h => ?_) (fun h => ?_)
      · exact k_cShelf_goOnFrom_27_b20 n d q _ _ _ _ _ _ _ _ _ _ h
      · refine bfr_run 6 31 [some (.ref 54), some (.int x1), some (.ref 27)] [] [(.int (cb_40 + x1)), (.ref 55), (.ref 27)] (mkC ra rb rc re rf rg σ) (fun _ _ => rfl) ?_
        refine bfr_call 3 (d1 := d + 1) (M1 := M_X1_takeOutOf) (vs := [(.ref 27), (.ref 55), (.int ((cb_40 + x1) * cb_46))]) (w1 := mkC ra rb rc re rf rg σ) (pc2 := 37) (L2 := [some (.ref 54), some (.int x1), some (.ref 27)]) (J2 := []) (rest := []) (fun _ => none) (fun a => mkC ra rb rc re rf rg a) (fun _ _ => rfl) h (fun a ha => k_cGoing_takeOutOf_55 n (d + 0) _ _ _ _ _ _ _ _ _ ha) (fun q1 _ h => ?_)
        refine bfr_run 3 42 [some (.ref 54), some (.int x1), some (.ref 27)] [] [] ((mkC ra rb rc re rf rg q1).set 54 (.inr (.inr (7, (mkC_54  ra rb rc re rf rg q1).set 2 (.int ci_0))))) (fun _ _ => rfl) ?_
        rw [mkC_I54_2]
        exact bfr_bz (mk := mkC ra rb rc re rf rg) 2 (fun _ _ => rfl) h
set_option maxRecDepth 100000 in
theorem k_cTop_restore (n d : Nat) (q : (Int32 × bS)) (x1 : Int32) (ra : Nat) (rb : Nat) (rc : Nat) (re : Nat) (rf : Value) (rg : Value) (σ : bS) (h : cTop_restore n x1 σ = some q) : bfr MT (d + 3) M_X11_restore 0 [some (.ref 0), some (.int x1)] [] [] (mkC ra rb rc re rf rg σ) (some (.int q.1), mkC ra rb rc re rf rg q.2) := by
  unfold cTop_restore at h
  refine bfr_call 6 (d1 := d + 2) (M1 := M_X7_goOnFrom) (vs := [(.ref 54), (.int x1), (.ref 27)]) (w1 := mkC ra rb rc re rf rg σ) (pc2 := 12) (L2 := [some (.ref 0), some (.int x1)]) (J2 := []) (rest := []) (fun a => some (.int a.1)) (fun a => mkC ra rb rc re rf rg a.2) (fun _ _ => rfl) h (fun a ha => k_cShelf_goOnFrom_27 n (d + 0) _ _ _ _ _ _ _ _ _ ha) (fun q1 _ h => ?_)
  exact bfr_bz (mk := mkC ra rb rc re rf rg) 1 (fun _ _ => rfl) h
set_option maxRecDepth 100000 in
theorem k_cSeen_sayers_b25 (n d : Nat) (r4 : Int32 → Int32 → bS → Option (Int32 × bS)) (q : (Int32 × bS)) (hr4 : ∀ (x1 : Int32) (x2 : Int32) (ra : Nat) (rb : Nat) (rc : Nat) (re : Nat) (rf : Value) (rg : Value) (σ : bS), r4 x1 x2 σ = some q → bfr MT (d + 0) M_X6_sayers 4 [some (.ref 77), some (.int x1), some (.int x2)] [] [] (mkC ra rb rc re rf rg σ) (some (.int q.1), mkC ra rb rc re rf rg q.2)) (x1 : Int32) (x2 : Int32) (ra : Nat) (rb : Nat) (rc : Nat) (re : Nat) (rf : Value) (rg : Value) (σ : bS) (h : cSeen_sayers_b25 n r4 x1 x2 σ = some q) : bfr MT (d + 0) M_X6_sayers 25 [some (.ref 77), some (.int x1), some (.int x2)] [] [] (mkC ra rb rc re rf rg σ) (some (.int q.1), mkC ra rb rc re rf rg q.2) := by
  unfold cSeen_sayers_b25 at h
  refine bfr_run 1 28 [some (.ref 77), some (.int x1), some (.int (x2 + ci_1))] [] [] (mkC ra rb rc re rf rg σ) (fun _ _ => rfl) ?_
  refine bfr_run 1 4 [some (.ref 77), some (.int x1), some (.int (x2 + ci_1))] [] [] (mkC ra rb rc re rf rg σ) (fun _ _ => rfl) ?_
  exact hr4 _ _ _ _ _ _ _ _ _ h
set_option maxRecDepth 100000 in
theorem k_cSeen_sayers_b4 (n d : Nat) (q : (Int32 × bS)) : ∀ (k : Nat) (x1 : Int32) (x2 : Int32) (ra : Nat) (rb : Nat) (rc : Nat) (re : Nat) (rf : Value) (rg : Value) (σ : bS), cSeen_sayers_b4 n k x1 x2 σ = some q → bfr MT (d + 0) M_X6_sayers 4 [some (.ref 77), some (.int x1), some (.int x2)] [] [] (mkC ra rb rc re rf rg σ) (some (.int q.1), mkC ra rb rc re rf rg q.2) := by
  intro k
  induction k with
  | zero => intro x1 x2 ra rb rc re rf rg σ h; exact bno h
  | succ k ih =>
    intro x1 x2 ra rb rc re rf rg σ h
    unfold cSeen_sayers_b4 at h
    refine bfr_br 3 (pc1 := 31) (L1 := [some (.ref 77), some (.int x1), some (.int x2)]) (J1 := []) (st1 := []) (w1 := mkC ra rb rc re rf rg σ) (pc2 := 10) (L2 := [some (.ref 77), some (.int x1), some (.int x2)]) (J2 := []) (st2 := []) (w2 := mkC ra rb rc re rf rg σ) (fun _ _ => rfl) h (fun h => ?_) (fun h => ?_)
    · cases h
      exact bfr_ret 2 (fun _ _ => rfl)
    · refine bfr_in (i := x2) (m := 7) 4 (pc1 := 16) (L1 := [some (.ref 77), some (.int x1), some (.int x2)]) (J1 := []) (st1 := [(.int (sA σ 81 x2))]) (w1 := mkC ra rb rc re rf rg σ) (fun _ _ => rfl) h (fun h => ?_)
      refine bfr_br 1 (pc1 := 25) (L1 := [some (.ref 77), some (.int x1), some (.int x2)]) (J1 := []) (st1 := []) (w1 := mkC ra rb rc re rf rg σ) (pc2 := 19) (L2 := [some (.ref 77), some (.int x1), some (.int x2)]) (J2 := []) (st2 := []) (w2 := mkC ra rb rc re rf rg σ) (fun _ _ => rfl) h (fun h => ?_) (fun h => ?_)
      · exact k_cSeen_sayers_b25 n d _ q (ih) _ _ _ _ _ _ _ _ _ h
      · refine bfr_run 6 25 [some (.ref 77), some (.int (x1 ||| (ci_1 <<< (x2 &&& 31)))), some (.int x2)] [] [] (mkC ra rb rc re rf rg σ) (fun _ _ => rfl) ?_
        exact k_cSeen_sayers_b25 n d _ q (ih) _ _ _ _ _ _ _ _ _ h
set_option maxRecDepth 100000 in
theorem k_cSeen_sayers (n d : Nat) (q : (Int32 × bS)) (ra : Nat) (rb : Nat) (rc : Nat) (re : Nat) (rf : Value) (rg : Value) (σ : bS) (h : cSeen_sayers n σ = some q) : bfr MT (d + 0) M_X6_sayers 0 [some (.ref 77), none, none] [] [] (mkC ra rb rc re rf rg σ) (some (.int q.1), mkC ra rb rc re rf rg q.2) := by
  unfold cSeen_sayers at h
  refine bfr_run 4 4 [some (.ref 77), some (.int ci_0), some (.int ci_0)] [] [] (mkC ra rb rc re rf rg σ) (fun _ _ => rfl) ?_
  exact k_cSeen_sayers_b4 n d q _ _ _ _ _ _ _ _ _ _ h
set_option maxRecDepth 100000 in
theorem k_cTop_count (n d : Nat) (q : (Int32 × bS)) (x1 : Int32) (rb : Nat) (rc : Nat) (re : Nat) (rf : Value) (rg : Value) (σ : bS) (h : cTop_count n x1 σ = some q) : bfr MT (d + 1) M_X11_count 0 [some (.ref 0), some (.int x1)] [] [] (mkC 1 rb rc re rf rg σ) (some (.int q.1), mkC 1 rb rc re rf rg q.2) := by
  unfold cTop_count at h
  refine bfr_of 2 (fun K => (if (x1).toInt = 0 then K 68 [some (.ref 0), some (.int x1)] [] [] (mkC 1 rb rc re rf rg σ) else (if (x1).toInt = 1 then K 76 [some (.ref 0), some (.int x1)] [] [] (mkC 1 rb rc re rf rg σ) else (if (x1).toInt = 2 then K 84 [some (.ref 0), some (.int x1)] [] [] (mkC 1 rb rc re rf rg σ) else (if (x1).toInt = 3 then K 92 [some (.ref 0), some (.int x1)] [] [] (mkC 1 rb rc re rf rg σ) else (if (x1).toInt = 4 then K 100 [some (.ref 0), some (.int x1)] [] [] (mkC 1 rb rc re rf rg σ) else (if (x1).toInt = 5 then K 108 [some (.ref 0), some (.int x1)] [] [] (mkC 1 rb rc re rf rg σ) else (if (x1).toInt = 6 then K 116 [some (.ref 0), some (.int x1)] [] [] (mkC 1 rb rc re rf rg σ) else (if (x1).toInt = 7 then K 124 [some (.ref 0), some (.int x1)] [] [] (mkC 1 rb rc re rf rg σ) else (if (x1).toInt = 8 then K 129 [some (.ref 0), some (.int x1)] [] [] (mkC 1 rb rc re rf rg σ) else (if (x1).toInt = 9 then K 137 [some (.ref 0), some (.int x1)] [] [] (mkC 1 rb rc re rf rg σ) else (if (x1).toInt = 10 then K 145 [some (.ref 0), some (.int x1)] [] [] (mkC 1 rb rc re rf rg σ) else (if (x1).toInt = 11 then K 156 [some (.ref 0), some (.int x1)] [] [] (mkC 1 rb rc re rf rg σ) else (if (x1).toInt = 12 then K 164 [some (.ref 0), some (.int x1)] [] [] (mkC 1 rb rc re rf rg σ) else K 175 [some (.ref 0), some (.int x1)] [] [] (mkC 1 rb rc re rf rg σ))))))))))))))) (fun _ _ => rfl) ?_
  refine bres_if h (fun h => ?_) (fun h => ?_)
  · cases h
    exact bfr_ret 4 (fun _ _ => rfl)
  refine bres_if h (fun h => ?_) (fun h => ?_)
  · cases h
    exact bfr_ret 4 (fun _ _ => rfl)
  refine bres_if h (fun h => ?_) (fun h => ?_)
  · cases h
    exact bfr_ret 4 (fun _ _ => rfl)
  refine bres_if h (fun h => ?_) (fun h => ?_)
  · cases h
    exact bfr_ret 4 (fun _ _ => rfl)
  refine bres_if h (fun h => ?_) (fun h => ?_)
  · cases h
    exact bfr_ret 4 (fun _ _ => rfl)
  refine bres_if h (fun h => ?_) (fun h => ?_)
  · cases h
    exact bfr_ret 4 (fun _ _ => rfl)
  refine bres_if h (fun h => ?_) (fun h => ?_)
  · cases h
    exact bfr_ret 4 (fun _ _ => rfl)
  refine bres_if h (fun h => ?_) (fun h => ?_)
  · cases h
    exact bfr_ret 3 (fun _ _ => rfl)
  refine bres_if h (fun h => ?_) (fun h => ?_)
  · cases h
    exact bfr_ret 4 (fun _ _ => rfl)
  refine bres_if h (fun h => ?_) (fun h => ?_)
  · cases h
    exact bfr_ret 4 (fun _ _ => rfl)
  refine bres_if h (fun h => ?_) (fun h => ?_)
  · refine bfr_call 4 (d1 := d + 0) (M1 := M_J6_bitCount_0f7a4) (vs := [(.int (sI σ 54 3))]) (w1 := mkC 1 rb rc re rf rg σ) (pc2 := 155) (L2 := [some (.ref 0), some (.int x1)]) (J2 := []) (rest := []) (fun a => some (.int a.1)) (fun a => mkC 1 rb rc re rf rg a.2) (fun _ _ => rfl) h (fun a ha => k_cj_bitCount n (d + 0) _ _ _ _ _ _ _ _ _ ha) (fun q1 _ h => ?_)
    cases h
    exact bfr_ret 1 (fun _ _ => rfl)
  refine bres_if h (fun h => ?_) (fun h => ?_)
  · refine bfr_call 3 (d1 := d + 0) (M1 := M_X6_sayers) (vs := [(.ref 77)]) (w1 := mkC 1 rb rc re rf rg σ) (pc2 := 163) (L2 := [some (.ref 0), some (.int x1)]) (J2 := []) (rest := []) (fun a => some (.int a.1)) (fun a => mkC 1 rb rc re rf rg a.2) (fun _ _ => rfl) h (fun a ha => k_cSeen_sayers n (d + 0) _ _ _ _ _ _ _ _ ha) (fun q2 _ h => ?_)
    cases h
    exact bfr_ret 1 (fun _ _ => rfl)
  refine bres_if h (fun h => ?_) (fun h => ?_)
  · refine bfr_call 4 (d1 := d + 0) (M1 := M_X11_orNot) (vs := [(.int (sI σ 1 15))]) (w1 := mkC 1 rb rc re rf rg σ) (pc2 := 174) (L2 := [some (.ref 0), some (.int x1)]) (J2 := []) (rest := []) (fun a => some (.int a.1)) (fun a => mkC 1 rb rc re rf rg a.2) (fun _ _ => rfl) h (fun a ha => k_cTop_orNot n (d + 0) _ _ _ _ _ _ _ _ _ ha) (fun q3 _ h => ?_)
    cases h
    exact bfr_ret 1 (fun _ _ => rfl)
  cases h
  exact bfr_ret 2 (fun _ _ => rfl)
