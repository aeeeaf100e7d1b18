set_option maxRecDepth 100000 in
theorem k_m_pathOf_b95 (n d : Nat) (r5 : Int32 → Int32 → Int32 → Int32 → bS → Option (Int32 × bS)) (q : (Int32 × bS)) (hr5 : ∀ (x1 : Int32) (x2 : Int32) (x3 : Int32) (x4 : Int32) (o5 : Option Value) (σ : bS), r5 x1 x2 x3 x4 σ = some q → bfr MT (d + 0) M_X12_pathOf 5 [some (.ref 0), some (.int x1), some (.int x2), some (.int x3), some (.int x4), o5] [] [] (mkM σ) (some (.int q.1), mkM q.2)) (x1 : Int32) (x2 : Int32) (x3 : Int32) (x4 : Int32) (o5 : Option Value) (σ : bS) (h : m_pathOf_b95 n r5 x1 x2 x3 x4 σ = some q) : bfr MT (d + 0) M_X12_pathOf 95 [some (.ref 0), some (.int x1), some (.int x2), some (.int x3), some (.int x4), o5] [] [] (mkM σ) (some (.int q.1), mkM q.2) := by
  unfold m_pathOf_b95 at h
  refine bfr_run 1 98 [some (.ref 0), some (.int x1), some (.int x2), some (.int x3), some (.int (x4 + ci_1)), o5] [] [] (mkM σ) (fun _ _ => rfl) ?_
  refine bfr_run 1 5 [some (.ref 0), some (.int x1), some (.int x2), some (.int x3), some (.int (x4 + ci_1)), o5] [] [] (mkM σ) (fun _ _ => rfl) ?_
  exact hr5 _ _ _ _ _ _ h
set_option maxRecDepth 100000 in
theorem k_m_pathOf_b87 (n d : Nat) (r5 : Int32 → Int32 → Int32 → Int32 → bS → Option (Int32 × bS)) (q : (Int32 × bS)) (hr5 : ∀ (x1 : Int32) (x2 : Int32) (x3 : Int32) (x4 : Int32) (o5 : Option Value) (σ : bS), r5 x1 x2 x3 x4 σ = some q → bfr MT (d + 0) M_X12_pathOf 5 [some (.ref 0), some (.int x1), some (.int x2), some (.int x3), some (.int x4), o5] [] [] (mkM σ) (some (.int q.1), mkM q.2)) (x1 : Int32) (x2 : Int32) (x4 : Int32) (o3 : Option Value) (o5 : Option Value) (σ : bS) (h : m_pathOf_b87 n r5 x1 x2 x4 σ = some q) : bfr MT (d + 0) M_X12_pathOf 87 [some (.ref 0), some (.int x1), some (.int x2), o3, some (.int x4), o5] [] [] (mkM σ) (some (.int q.1), mkM q.2) := by
  unfold m_pathOf_b87 at h
  refine bfr_in (i := x4) (m := 20) 4 (pc1 := 94) (L1 := [some (.ref 0), some (.int x1), some (.int x2), o3, some (.int x4), o5]) (J1 := []) (st1 := [(.int (sA σ 16 x4))]) (w1 := mkM σ) (fun _ _ => rfl) h (fun h => ?_)
  refine bfr_run 1 95 [some (.ref 0), some (.int x1), some (.int x2), some (.int (sA σ 16 x4)), some (.int x4), o5] [] [] (mkM σ) (fun _ _ => rfl) ?_
  exact k_m_pathOf_b95 n d _ q hr5 _ _ _ _ _ _ h
set_option maxRecDepth 100000 in
theorem k_m_pathOf_b65 (n d : Nat) (r5 : Int32 → Int32 → Int32 → Int32 → bS → Option (Int32 × bS)) (q : (Int32 × bS)) (hr5 : ∀ (x1 : Int32) (x2 : Int32) (x3 : Int32) (x4 : Int32) (o5 : Option Value) (σ : bS), r5 x1 x2 x3 x4 σ = some q → bfr MT (d + 0) M_X12_pathOf 5 [some (.ref 0), some (.int x1), some (.int x2), some (.int x3), some (.int x4), o5] [] [] (mkM σ) (some (.int q.1), mkM q.2)) (x1 : Int32) (x2 : Int32) (x3 : Int32) (x4 : Int32) (s0 : Int32) (o5 : Option Value) (σ : bS) (h : m_pathOf_b65 n r5 x1 x2 x3 x4 s0 σ = some q) : bfr MT (d + 0) M_X12_pathOf 65 [some (.ref 0), some (.int x1), some (.int x2), some (.int x3), some (.int x4), o5] [] [(.int s0)] (mkM σ) (some (.int q.1), mkM q.2) := by
  unfold m_pathOf_b65 at h
  refine bfr_br 3 (pc1 := 95) (L1 := [some (.ref 0), some (.int x1), some (.int x2), some (.int x3), some (.int x4), some (.int s0)]) (J1 := []) (st1 := []) (w1 := mkM σ) (pc2 := 72) (L2 := [some (.ref 0), some (.int x1), some (.int x2), some (.int x3), some (.int x4), some (.int s0)]) (J2 := []) (st2 := []) (w2 := mkM σ) (fun _ _ => rfl) h (fun h => ?_) (fun h => ?_)
  · exact k_m_pathOf_b95 n d _ q hr5 _ _ _ _ _ _ h
  · refine bfr_br 2 (pc1 := 87) (L1 := [some (.ref 0), some (.int x1), some (.int x2), some (.int x3), some (.int x4), some (.int s0)]) (J1 := []) (st1 := []) (w1 := mkM σ) (pc2 := 76) (L2 := [some (.ref 0), some (.int x1), some (.int x2), some (.int x3), some (.int x4), some (.int s0)]) (J2 := []) (st2 := []) (w2 := mkM σ) (fun _ _ => rfl) h (fun h => ?_) (fun h => ?_)
    · exact k_m_pathOf_b87 n d _ q hr5 _ _ _ _ _ _ h
    · refine bfr_in (i := x4) (m := 20) 4 (pc1 := 83) (L1 := [some (.ref 0), some (.int x1), some (.int x2), some (.int x3), some (.int x4), some (.int s0)]) (J1 := []) (st1 := [(.int (sA σ 16 x4))]) (w1 := mkM σ) (fun _ _ => rfl) h (fun h => ?_)
      refine bfr_br 2 (pc1 := 95) (L1 := [some (.ref 0), some (.int x1), some (.int x2), some (.int x3), some (.int x4), some (.int s0)]) (J1 := []) (st1 := []) (w1 := mkM σ) (pc2 := 87) (L2 := [some (.ref 0), some (.int x1), some (.int x2), some (.int x3), some (.int x4), some (.int s0)]) (J2 := []) (st2 := []) (w2 := mkM σ) (fun _ _ => rfl) h (fun h => ?_) (fun h => ?_)
      · exact k_m_pathOf_b95 n d _ q hr5 _ _ _ _ _ _ h
      · exact k_m_pathOf_b87 n d _ q hr5 _ _ _ _ _ _ h
set_option maxRecDepth 100000 in
theorem k_m_pathOf_b64 (n d : Nat) (r5 : Int32 → Int32 → Int32 → Int32 → bS → Option (Int32 × bS)) (q : (Int32 × bS)) (hr5 : ∀ (x1 : Int32) (x2 : Int32) (x3 : Int32) (x4 : Int32) (o5 : Option Value) (σ : bS), r5 x1 x2 x3 x4 σ = some q → bfr MT (d + 0) M_X12_pathOf 5 [some (.ref 0), some (.int x1), some (.int x2), some (.int x3), some (.int x4), o5] [] [] (mkM σ) (some (.int q.1), mkM q.2)) (x1 : Int32) (x2 : Int32) (x3 : Int32) (x4 : Int32) (o5 : Option Value) (σ : bS) (h : m_pathOf_b64 n r5 x1 x2 x3 x4 σ = some q) : bfr MT (d + 0) M_X12_pathOf 64 [some (.ref 0), some (.int x1), some (.int x2), some (.int x3), some (.int x4), o5] [] [] (mkM σ) (some (.int q.1), mkM q.2) := by
  unfold m_pathOf_b64 at h
  refine bfr_run 1 65 [some (.ref 0), some (.int x1), some (.int x2), some (.int x3), some (.int x4), o5] [] [(.int ci_0)] (mkM σ) (fun _ _ => rfl) ?_
  exact k_m_pathOf_b65 n d _ q hr5 _ _ _ _ _ _ _ h
set_option maxRecDepth 100000 in
theorem k_m_pathOf_b60 (n d : Nat) (r5 : Int32 → Int32 → Int32 → Int32 → bS → Option (Int32 × bS)) (q : (Int32 × bS)) (hr5 : ∀ (x1 : Int32) (x2 : Int32) (x3 : Int32) (x4 : Int32) (o5 : Option Value) (σ : bS), r5 x1 x2 x3 x4 σ = some q → bfr MT (d + 0) M_X12_pathOf 5 [some (.ref 0), some (.int x1), some (.int x2), some (.int x3), some (.int x4), o5] [] [] (mkM σ) (some (.int q.1), mkM q.2)) (x1 : Int32) (x2 : Int32) (x3 : Int32) (x4 : Int32) (o5 : Option Value) (σ : bS) (h : m_pathOf_b60 n r5 x1 x2 x3 x4 σ = some q) : bfr MT (d + 0) M_X12_pathOf 60 [some (.ref 0), some (.int x1), some (.int x2), some (.int x3), some (.int x4), o5] [] [] (mkM σ) (some (.int q.1), mkM q.2) := by
  unfold m_pathOf_b60 at h
  refine bfr_run 2 65 [some (.ref 0), some (.int x1), some (.int x2), some (.int x3), some (.int x4), o5] [] [(.int ci_1)] (mkM σ) (fun _ _ => rfl) ?_
  exact k_m_pathOf_b65 n d _ q hr5 _ _ _ _ _ _ _ h
set_option maxRecDepth 100000 in
theorem k_m_pathOf_b38 (n d : Nat) (r5 : Int32 → Int32 → Int32 → Int32 → bS → Option (Int32 × bS)) (q : (Int32 × bS)) (hr5 : ∀ (x1 : Int32) (x2 : Int32) (x3 : Int32) (x4 : Int32) (o5 : Option Value) (σ : bS), r5 x1 x2 x3 x4 σ = some q → bfr MT (d + 0) M_X12_pathOf 5 [some (.ref 0), some (.int x1), some (.int x2), some (.int x3), some (.int x4), o5] [] [] (mkM σ) (some (.int q.1), mkM q.2)) (x1 : Int32) (x2 : Int32) (x3 : Int32) (x4 : Int32) (o5 : Option Value) (σ : bS) (h : m_pathOf_b38 n r5 x1 x2 x3 x4 σ = some q) : bfr MT (d + 0) M_X12_pathOf 38 [some (.ref 0), some (.int x1), some (.int x2), some (.int x3), some (.int x4), o5] [] [] (mkM σ) (some (.int q.1), mkM q.2) := by
  unfold m_pathOf_b38 at h
  refine bfr_in (i := x4) (m := 20) 4 (pc1 := 45) (L1 := [some (.ref 0), some (.int x1), some (.int x2), some (.int x3), some (.int x4), o5]) (J1 := []) (st1 := [(.int (sA σ 14 x4))]) (w1 := mkM σ) (fun _ _ => rfl) h (fun h => ?_)
  refine bfr_br 2 (pc1 := 49) (L1 := [some (.ref 0), some (.int x1), some (.int x2), some (.int x3), some (.int x4), o5]) (J1 := []) (st1 := []) (w1 := mkM σ) (pc2 := 64) (L2 := [some (.ref 0), some (.int x1), some (.int x2), some (.int x3), some (.int x4), o5]) (J2 := []) (st2 := []) (w2 := mkM σ) (fun _ _ => rfl) h (fun h => ?_) (fun h => ?_)
  · refine bfr_in (i := x4) (m := 20) 4 (pc1 := 56) (L1 := [some (.ref 0), some (.int x1), some (.int x2), some (.int x3), some (.int x4), o5]) (J1 := []) (st1 := [(.int (sA σ 15 x4))]) (w1 := mkM σ) (fun _ _ => rfl) h (fun h => ?_)
    refine bfr_br 2 (pc1 := 60) (L1 := [some (.ref 0), some (.int x1), some (.int x2), some (.int x3), some (.int x4), o5]) (J1 := []) (st1 := []) (w1 := mkM σ) (pc2 := 64) (L2 := [some (.ref 0), some (.int x1), some (.int x2), some (.int x3), some (.int x4), o5]) (J2 := []) (st2 := []) (w2 := mkM σ) (fun _ _ => rfl) h (fun h => ?_) (fun h => ?_)
    · exact k_m_pathOf_b60 n d _ q hr5 _ _ _ _ _ _ h
    · exact k_m_pathOf_b64 n d _ q hr5 _ _ _ _ _ _ h
  · exact k_m_pathOf_b64 n d _ q hr5 _ _ _ _ _ _ h
set_option maxRecDepth 100000 in
theorem k_m_pathOf_b5 (n d : Nat) (q : (Int32 × bS)) : ∀ (k : Nat) (x1 : Int32) (x2 : Int32) (x3 : Int32) (x4 : Int32) (o5 : Option Value) (σ : bS), m_pathOf_b5 n k x1 x2 x3 x4 σ = some q → bfr MT (d + 0) M_X12_pathOf 5 [some (.ref 0), some (.int x1), some (.int x2), some (.int x3), some (.int x4), o5] [] [] (mkM σ) (some (.int q.1), mkM q.2) := by
  intro k
  induction k with
  | zero => intro x1 x2 x3 x4 o5 σ h; exact bno h
  | succ k ih =>
    intro x1 x2 x3 x4 o5 σ h
    unfold m_pathOf_b5 at h
    refine bfr_in (i := ci_0) (m := 2) 5 (pc1 := 13) (L1 := [some (.ref 0), some (.int x1), some (.int x2), some (.int x3), some (.int x4), o5]) (J1 := []) (st1 := [(.int (sA σ 13 ci_0)), (.int x4)]) (w1 := mkM σ) (fun _ _ => rfl) h (fun h => ?_)
    refine bfr_br 1 (pc1 := 101) (L1 := [some (.ref 0), some (.int x1), some (.int x2), some (.int x3), some (.int x4), o5]) (J1 := []) (st1 := []) (w1 := mkM σ) (pc2 := 16) (L2 := [some (.ref 0), some (.int x1), some (.int x2), some (.int x3), some (.int x4), o5]) (J2 := []) (st2 := []) (w2 := mkM σ) (fun _ _ => rfl) h (fun h => ?_) (fun h => ?_)
    · cases h
      exact bfr_ret 2 (fun _ _ => rfl)
    · refine bfr_in (i := x4) (m := 20) 4 (pc1 := 23) (L1 := [some (.ref 0), some (.int x1), some (.int x2), some (.int x3), some (.int x4), o5]) (J1 := []) (st1 := [(.int (sA σ 14 x4))]) (w1 := mkM σ) (fun _ _ => rfl) h (fun h => ?_)
      refine bfr_br 2 (pc1 := 27) (L1 := [some (.ref 0), some (.int x1), some (.int x2), some (.int x3), some (.int x4), o5]) (J1 := []) (st1 := []) (w1 := mkM σ) (pc2 := 38) (L2 := [some (.ref 0), some (.int x1), some (.int x2), some (.int x3), some (.int x4), o5]) (J2 := []) (st2 := []) (w2 := mkM σ) (fun _ _ => rfl) h (fun h => ?_) (fun h => ?_)
      · refine bfr_in (i := x4) (m := 20) 4 (pc1 := 34) (L1 := [some (.ref 0), some (.int x1), some (.int x2), some (.int x3), some (.int x4), o5]) (J1 := []) (st1 := [(.int (sA σ 15 x4))]) (w1 := mkM σ) (fun _ _ => rfl) h (fun h => ?_)
        refine bfr_br 2 (pc1 := 60) (L1 := [some (.ref 0), some (.int x1), some (.int x2), some (.int x3), some (.int x4), o5]) (J1 := []) (st1 := []) (w1 := mkM σ) (pc2 := 38) (L2 := [some (.ref 0), some (.int x1), some (.int x2), some (.int x3), some (.int x4), o5]) (J2 := []) (st2 := []) (w2 := mkM σ) (fun _ _ => rfl) h (fun h => ?_) (fun h => ?_)
        · exact k_m_pathOf_b60 n d _ q (ih) _ _ _ _ _ _ h
        · exact k_m_pathOf_b38 n d _ q (ih) _ _ _ _ _ _ h
      · exact k_m_pathOf_b38 n d _ q (ih) _ _ _ _ _ _ h
set_option maxRecDepth 100000 in
theorem k_m_pathOf (n d : Nat) (q : (Int32 × bS)) (x1 : Int32) (x2 : Int32) (σ : bS) (h : m_pathOf n x1 x2 σ = some q) : bfr MT (d + 0) M_X12_pathOf 0 [some (.ref 0), some (.int x1), some (.int x2), none, none, none] [] [] (mkM σ) (some (.int q.1), mkM q.2) := by
  unfold m_pathOf at h
  refine bfr_run 4 5 [some (.ref 0), some (.int x1), some (.int x2), some (.int ci_0), some (.int ci_0), none] [] [] (mkM σ) (fun _ _ => rfl) ?_
  exact k_m_pathOf_b5 n d q _ _ _ _ _ _ _ h
set_option maxRecDepth 100000 in
theorem k_m_walk_b48 (n d : Nat) (q : (Int32 × bS)) (x1 : Int32) (x2 : Int32) (s0 : Int32) (o3 : Option Value) (σ : bS) (h : m_walk_b48 n x1 x2 s0 σ = some q) : bfr MT (d + 4) M_X12_walk 48 [some (.ref 0), some (.int x1), some (.int x2), o3] [] [(.int s0)] (mkM σ) (some (.int q.1), mkM q.2) := by
  unfold m_walk_b48 at h
  refine bfr_br 3 (pc1 := 53) (L1 := [some (.ref 0), some (.int x1), some (.int x2), some (.int s0)]) (J1 := []) (st1 := []) (w1 := mkM σ) (pc2 := 56) (L2 := [some (.ref 0), some (.int x1), some (.int x2), some (.int s0)]) (J2 := []) (st2 := []) (w2 := mkM σ) (fun _ _ => rfl) h (fun h => ?_) (fun h => ?_)
  · cases h
    exact bfr_ret 2 (fun _ _ => rfl)
  · refine bfr_call 2 (d1 := d + 3) (M1 := M_X12_keeps) (vs := [(.ref 0)]) (w1 := mkM σ) (pc2 := 60) (L2 := [some (.ref 0), some (.int x1), some (.int x2), some (.int s0)]) (J2 := []) (rest := []) (fun _ => none) (fun a => mkM a) (fun _ _ => rfl) h (fun a ha => k_m_keeps n (d + 2) _ _ ha) (fun q1 _ h => ?_)
    refine bfr_run 6 68 [some (.ref 0), some (.int x1), some (.int x2), some (.int s0)] [] [(.int x2), (.int (ci_5 + x1)), (.ref 29)] (mkM q1) (fun _ _ => rfl) ?_
    refine bfr_in (i := (ci_5 + x1)) (m := 2208) 1 (pc1 := 69) (L1 := [some (.ref 0), some (.int x1), some (.int x2), some (.int s0)]) (J1 := []) (st1 := []) (w1 := ((mkM q1).set 29 (.inl (0, 2208, upd (q1.2.1 29) ((ci_5 + x1)).toNatClampNeg x2)))) (fun _ _ => rfl) h (fun h => ?_)
    rw [mkM_A29]
    refine bfr_run 6 78 [some (.ref 0), some (.int x1), some (.int x2), some (.int s0)] [] [(.int ci_0), (.int (cb_33 + x1)), (.ref 29)] (mkM (uA q1 29 (ci_5 + x1) x2)) (fun _ _ => rfl) ?_
    refine bfr_in (i := (cb_33 + x1)) (m := 2208) 1 (pc1 := 79) (L1 := [some (.ref 0), some (.int x1), some (.int x2), some (.int s0)]) (J1 := []) (st1 := []) (w1 := ((mkM (uA q1 29 (ci_5 + x1) x2)).set 29 (.inl (0, 2208, upd ((uA q1 29 (ci_5 + x1) x2).2.1 29) ((cb_33 + x1)).toNatClampNeg ci_0)))) (fun _ _ => rfl) h (fun h => ?_)
    rw [mkM_A29]
    refine bfr_call 3 (d1 := d + 3) (M1 := M_X12_hoursGo) (vs := [(.ref 0), (.int s0)]) (w1 := mkM (uA (uA q1 29 (ci_5 + x1) x2) 29 (cb_33 + x1) ci_0)) (pc2 := 84) (L2 := [some (.ref 0), some (.int x1), some (.int x2), some (.int s0)]) (J2 := []) (rest := []) (fun _ => none) (fun a => mkM a) (fun _ _ => rfl) h (fun a ha => k_m_hoursGo n (d + 0) _ _ _ ha) (fun q2 _ h => ?_)
    cases h
    exact bfr_ret 2 (fun _ _ => rfl)
set_option maxRecDepth 100000 in
theorem k_m_walk_b16 (n d : Nat) (q : (Int32 × bS)) (o0 : Option Value) (o1 : Option Value) (o2 : Option Value) (o3 : Option Value) (σ : bS) (h : m_walk_b16 n σ = some q) : bfr MT (d + 4) M_X12_walk 16 [o0, o1, o2, o3] [] [] (mkM σ) (some (.int q.1), mkM q.2) := by
  unfold m_walk_b16 at h
  cases h
  exact bfr_ret 2 (fun _ _ => rfl)
set_option maxRecDepth 100000 in
theorem k_m_walk (n d : Nat) (q : (Int32 × bS)) (x1 : Int32) (x2 : Int32) (σ : bS) (h : m_walk n x1 x2 σ = some q) : bfr MT (d + 4) M_X12_walk 0 [some (.ref 0), some (.int x1), some (.int x2), none] [] [] (mkM σ) (some (.int q.1), mkM q.2) := by
  unfold m_walk at h
  refine bfr_call 3 (d1 := d + 3) (M1 := M_X12_isMan) (vs := [(.ref 0), (.int x1)]) (w1 := mkM σ) (pc2 := 5) (L2 := [some (.ref 0), some (.int x1), some (.int x2), none]) (J2 := []) (rest := []) (fun a => some (.int a.1)) (fun a => mkM a.2) (fun _ _ => rfl) h (fun a ha => k_m_isMan n (d + 3) _ _ _ ha) (fun q3 _ h => ?_)
  refine bfr_br 1 (pc1 := 16) (L1 := [some (.ref 0), some (.int x1), some (.int x2), none]) (J1 := []) (st1 := []) (w1 := mkM q3.2) (pc2 := 8) (L2 := [some (.ref 0), some (.int x1), some (.int x2), none]) (J2 := []) (st2 := []) (w2 := mkM q3.2) (fun _ _ => rfl) h (fun h => ?_) (fun h => ?_)
  · exact k_m_walk_b16 n d q _ _ _ _ _ h
  · refine bfr_call 3 (d1 := d + 3) (M1 := M_X12_isBank) (vs := [(.ref 0), (.int x2)]) (w1 := mkM q3.2) (pc2 := 13) (L2 := [some (.ref 0), some (.int x1), some (.int x2), none]) (J2 := []) (rest := []) (fun a => some (.int a.1)) (fun a => mkM a.2) (fun _ _ => rfl) h (fun a ha => k_m_isBank n (d + 3) _ _ _ ha) (fun q4 _ h => ?_)
    refine bfr_br 1 (pc1 := 16) (L1 := [some (.ref 0), some (.int x1), some (.int x2), none]) (J1 := []) (st1 := []) (w1 := mkM q4.2) (pc2 := 18) (L2 := [some (.ref 0), some (.int x1), some (.int x2), none]) (J2 := []) (st2 := []) (w2 := mkM q4.2) (fun _ _ => rfl) h (fun h => ?_) (fun h => ?_)
    · exact k_m_walk_b16 n d q _ _ _ _ _ h
    · refine bfr_run 3 23 [some (.ref 0), some (.int x1), some (.int x2), none] [] [] ((mkM q4.2).set 0 (.inr (.inr (12, (mkM_0 q4.2).set 40 (.int ci_0))))) (fun _ _ => rfl) ?_
      rw [mkM_I0_40]
      refine bfr_call 3 (d1 := d + 3) (M1 := M_X12_isOn) (vs := [(.ref 0), (.int x1)]) (w1 := mkM (uI q4.2 0 40 ci_0)) (pc2 := 28) (L2 := [some (.ref 0), some (.int x1), some (.int x2), none]) (J2 := []) (rest := []) (fun a => some (.int a.1)) (fun a => mkM a.2) (fun _ _ => rfl) h (fun a ha => k_m_isOn n (d + 3) _ _ _ ha) (fun q5 _ h => ?_)
      refine bfr_br 1 (pc1 := 35) (L1 := [some (.ref 0), some (.int x1), some (.int x2), none]) (J1 := []) (st1 := []) (w1 := mkM q5.2) (pc2 := 31) (L2 := [some (.ref 0), some (.int x1), some (.int x2), none]) (J2 := []) (st2 := []) (w2 := mkM q5.2) (fun _ _ => rfl) h (fun h => ?_) (fun h => ?_)
      · refine bfr_run 6 43 [some (.ref 0), some (.int x1), some (.int x2), none] [] [(.int (ci_5 + x1)), (.ref 29), (.ref 0)] (mkM q5.2) (fun _ _ => rfl) ?_
        refine bfr_in (i := (ci_5 + x1)) (m := 2208) 1 (pc1 := 44) (L1 := [some (.ref 0), some (.int x1), some (.int x2), none]) (J1 := []) (st1 := [(.int (sA q5.2 29 (ci_5 + x1))), (.ref 0)]) (w1 := mkM q5.2) (fun _ _ => rfl) h (fun h => ?_)
        refine bfr_call 2 (d1 := d + 3) (M1 := M_X12_pathOf) (vs := [(.ref 0), (.int (sA q5.2 29 (ci_5 + x1))), (.int x2)]) (w1 := mkM q5.2) (pc2 := 48) (L2 := [some (.ref 0), some (.int x1), some (.int x2), none]) (J2 := []) (rest := []) (fun a => some (.int a.1)) (fun a => mkM a.2) (fun _ _ => rfl) h (fun a ha => k_m_pathOf n (d + 3) _ _ _ _ ha) (fun q6 _ h => ?_)
        exact k_m_walk_b48 n d q _ _ _ _ _ h
      · refine bfr_run 2 48 [some (.ref 0), some (.int x1), some (.int x2), none] [] [(.int ci_0)] (mkM q5.2) (fun _ _ => rfl) ?_
        exact k_m_walk_b48 n d q _ _ _ _ _ h
set_option maxRecDepth 100000 in
theorem k_m_hours_b21 (n d : Nat) (q : (Int32 × bS)) (x1 : Int32) (σ : bS) (h : m_hours_b21 n x1 σ = some q) : bfr MT (d + 4) M_X12_hours 21 [some (.ref 0), some (.int x1)] [] [] (mkM σ) (some (.int q.1), mkM q.2) := by
  unfold m_hours_b21 at h
  refine bfr_run 3 26 [some (.ref 0), some (.int x1)] [] [] ((mkM σ).set 0 (.inr (.inr (12, (mkM_0 σ).set 40 (.int ci_0))))) (fun _ _ => rfl) ?_
  rw [mkM_I0_40]
  refine bfr_call 3 (d1 := d + 3) (M1 := M_X12_hoursGo) (vs := [(.ref 0), (.int x1)]) (w1 := mkM (uI σ 0 40 ci_0)) (pc2 := 31) (L2 := [some (.ref 0), some (.int x1)]) (J2 := []) (rest := []) (fun _ => none) (fun a => mkM a) (fun _ _ => rfl) h (fun a ha => k_m_hoursGo n (d + 0) _ _ _ ha) (fun q1 _ h => ?_)
  refine bfr_in (i := ci_0) (m := 2208) 4 (pc1 := 37) (L1 := [some (.ref 0), some (.int x1)]) (J1 := []) (st1 := [(.int (sA q1 29 ci_0))]) (w1 := mkM q1) (fun _ _ => rfl) h (fun h => ?_)
  cases h
  exact bfr_ret 1 (fun _ _ => rfl)
set_option maxRecDepth 100000 in
theorem k_m_hours (n d : Nat) (q : (Int32 × bS)) (x1 : Int32) (σ : bS) (h : m_hours n x1 σ = some q) : bfr MT (d + 4) M_X12_hours 0 [some (.ref 0), some (.int x1)] [] [] (mkM σ) (some (.int q.1), mkM q.2) := by
  unfold m_hours at h
  refine bfr_call 4 (d1 := d + 3) (M1 := M_X12_isIn) (vs := [(.int x1), (.int ci_0), (.int cs_200)]) (w1 := mkM σ) (pc2 := 8) (L2 := [some (.ref 0), some (.int x1)]) (J2 := []) (rest := []) (fun a => some (.int a.1)) (fun a => mkM a.2) (fun _ _ => rfl) h (fun a ha => k_m_isIn n (d + 3) _ _ _ _ _ ha) (fun q2 _ h => ?_)
  refine bfr_br 1 (pc1 := 11) (L1 := [some (.ref 0), some (.int x1)]) (J1 := []) (st1 := []) (w1 := mkM q2.2) (pc2 := 13) (L2 := [some (.ref 0), some (.int x1)]) (J2 := []) (st2 := []) (w2 := mkM q2.2) (fun _ _ => rfl) h (fun h => ?_) (fun h => ?_)
  · cases h
    exact bfr_ret 2 (fun _ _ => rfl)
  · refine bfr_br 2 (pc1 := 21) (L1 := [some (.ref 0), some (.int x1)]) (J1 := []) (st1 := []) (w1 := mkM q2.2) (pc2 := 17) (L2 := [some (.ref 0), some (.int x1)]) (J2 := []) (st2 := []) (w2 := mkM q2.2) (fun _ _ => rfl) h (fun h => ?_) (fun h => ?_)
    · exact k_m_hours_b21 n d q _ _ h
    · refine bfr_call 2 (d1 := d + 3) (M1 := M_X12_keeps) (vs := [(.ref 0)]) (w1 := mkM q2.2) (pc2 := 21) (L2 := [some (.ref 0), some (.int x1)]) (J2 := []) (rest := []) (fun _ => none) (fun a => mkM a) (fun _ _ => rfl) h (fun a ha => k_m_keeps n (d + 2) _ _ ha) (fun q3 _ h => ?_)
      exact k_m_hours_b21 n d q _ _ h
set_option maxRecDepth 100000 in
theorem k_m_rule_b21 (n d : Nat) (q : (Int32 × bS)) (x1 : Int32) (σ : bS) (h : m_rule_b21 n x1 σ = some q) : bfr MT (d + 8) M_X12_rule 21 [some (.ref 0), some (.int x1)] [] [] (mkM σ) (some (.int q.1), mkM q.2) := by
  unfold m_rule_b21 at h
  refine bfr_run 3 26 [some (.ref 0), some (.int x1)] [] [] ((mkM σ).set 0 (.inr (.inr (12, (mkM_0 σ).set 40 (.int ci_0))))) (fun _ _ => rfl) ?_
  rw [mkM_I0_40]
  refine bfr_call 3 (d1 := d + 7) (M1 := M_X12_rulesGo) (vs := [(.ref 0), (.int x1)]) (w1 := mkM (uI σ 0 40 ci_0)) (pc2 := 31) (L2 := [some (.ref 0), some (.int x1)]) (J2 := []) (rest := []) (fun _ => none) (fun a => mkM a) (fun _ _ => rfl) h (fun a ha => k_m_rulesGo n (d + 0) _ _ _ ha) (fun q1 _ h => ?_)
  refine bfr_in (i := ci_0) (m := 2208) 4 (pc1 := 37) (L1 := [some (.ref 0), some (.int x1)]) (J1 := []) (st1 := [(.int (sA q1 29 ci_0))]) (w1 := mkM q1) (fun _ _ => rfl) h (fun h => ?_)
  cases h
  exact bfr_ret 1 (fun _ _ => rfl)
set_option maxRecDepth 100000 in
theorem k_m_rule (n d : Nat) (q : (Int32 × bS)) (x1 : Int32) (σ : bS) (h : m_rule n x1 σ = some q) : bfr MT (d + 8) M_X12_rule 0 [some (.ref 0), some (.int x1)] [] [] (mkM σ) (some (.int q.1), mkM q.2) := by
  unfold m_rule at h
  refine bfr_call 4 (d1 := d + 7) (M1 := M_X12_isIn) (vs := [(.int x1), (.int ci_0), (.int cs_200)]) (w1 := mkM σ) (pc2 := 8) (L2 := [some (.ref 0), some (.int x1)]) (J2 := []) (rest := []) (fun a => some (.int a.1)) (fun a => mkM a.2) (fun _ _ => rfl) h (fun a ha => k_m_isIn n (d + 7) _ _ _ _ _ ha) (fun q2 _ h => ?_)
  refine bfr_br 1 (pc1 := 11) (L1 := [some (.ref 0), some (.int x1)]) (J1 := []) (st1 := []) (w1 := mkM q2.2) (pc2 := 13) (L2 := [some (.ref 0), some (.int x1)]) (J2 := []) (st2 := []) (w2 := mkM q2.2) (fun _ _ => rfl) h (fun h => ?_) (fun h => ?_)
  · cases h
    exact bfr_ret 2 (fun _ _ => rfl)
  · refine bfr_br 2 (pc1 := 21) (L1 := [some (.ref 0), some (.int x1)]) (J1 := []) (st1 := []) (w1 := mkM q2.2) (pc2 := 17) (L2 := [some (.ref 0), some (.int x1)]) (J2 := []) (st2 := []) (w2 := mkM q2.2) (fun _ _ => rfl) h (fun h => ?_) (fun h => ?_)
    · exact k_m_rule_b21 n d q _ _ h
    · refine bfr_call 2 (d1 := d + 7) (M1 := M_X12_keeps) (vs := [(.ref 0)]) (w1 := mkM q2.2) (pc2 := 21) (L2 := [some (.ref 0), some (.int x1)]) (J2 := []) (rest := []) (fun _ => none) (fun a => mkM a) (fun _ _ => rfl) h (fun a ha => k_m_keeps n (d + 6) _ _ ha) (fun q3 _ h => ?_)
      exact k_m_rule_b21 n d q _ _ h
set_option maxRecDepth 100000 in
theorem k_m_undo_b16 (n d : Nat) (q : (Int32 × bS)) (s1 : Int32) (σ : bS) (h : m_undo_b16 n s1 σ = some q) : bfr MT (d + 1) M_X12_undo 16 [some (.ref 0)] [] [(.int s1), (.ref 0)] (mkM σ) (some (.int q.1), mkM q.2) := by
  unfold m_undo_b16 at h
  refine bfr_run 1 19 [some (.ref 0)] [] [] ((mkM σ).set 0 (.inr (.inr (12, (mkM_0 σ).set 41 (.int s1))))) (fun _ _ => rfl) ?_
  rw [mkM_I0_41]
  refine bfr_run 6 29 [some (.ref 0)] [] [(.int cb_40), (.int ((sI (uI σ 0 41 s1) 0 42) + cb_39)), (.ref 0)] (mkM (uI σ 0 41 s1)) (fun _ _ => rfl) ?_
  refine bfr_chk 1 (pc1 := 30) (L1 := [some (.ref 0)]) (J1 := []) (st1 := [(.int (brem ((sI (uI σ 0 41 s1) 0 42) + cb_39) cb_40)), (.ref 0)]) (w1 := mkM (uI σ 0 41 s1)) (fun _ _ => rfl) h (fun h => ?_)
  refine bfr_run 1 33 [some (.ref 0)] [] [] ((mkM (uI σ 0 41 s1)).set 0 (.inr (.inr (12, (mkM_0 (uI σ 0 41 s1)).set 42 (.int (brem ((sI (uI σ 0 41 s1) 0 42) + cb_39) cb_40)))))) (fun _ _ => rfl) ?_
  rw [mkM_I0_42]
  refine bfr_run 6 44 [some (.ref 0)] [] [(.int (cb_48 * (sI (uI (uI σ 0 41 s1) 0 42 (brem ((sI (uI σ 0 41 s1) 0 42) + cb_39) cb_40)) 0 42))), (.int cs_288), (.ref 0)] (mkM (uI (uI σ 0 41 s1) 0 42 (brem ((sI (uI σ 0 41 s1) 0 42) + cb_39) cb_40))) (fun _ _ => rfl) ?_
  refine bfr_call 3 (d1 := d + 0) (M1 := M_X12_copies) (vs := [(.ref 0), (.int (cs_288 + (cb_48 * (sI (uI (uI σ 0 41 s1) 0 42 (brem ((sI (uI σ 0 41 s1) 0 42) + cb_39) cb_40)) 0 42)))), (.int ci_0)]) (w1 := mkM (uI (uI σ 0 41 s1) 0 42 (brem ((sI (uI σ 0 41 s1) 0 42) + cb_39) cb_40))) (pc2 := 49) (L2 := [some (.ref 0)]) (J2 := []) (rest := []) (fun _ => none) (fun a => mkM a) (fun _ _ => rfl) h (fun a ha => k_m_copies n (d + 0) _ _ _ _ ha) (fun q1 _ h => ?_)
  exact bfr_bz (mk := mkM) 2 (fun _ _ => rfl) h
set_option maxRecDepth 100000 in
theorem k_m_undo (n d : Nat) (q : (Int32 × bS)) (σ : bS) (h : m_undo n σ = some q) : bfr MT (d + 1) M_X12_undo 0 [some (.ref 0)] [] [] (mkM σ) (some (.int q.1), mkM q.2) := by
  unfold m_undo at h
  refine bfr_br 3 (pc1 := 7) (L1 := [some (.ref 0)]) (J1 := []) (st1 := []) (w1 := mkM σ) (pc2 := 9) (L2 := [some (.ref 0)]) (J2 := []) (st2 := []) (w2 := mkM σ) (fun _ _ => rfl) h (fun h => ?_) (fun h => ?_)
  · exact bfr_bz (mk := mkM) 2 (fun _ _ => rfl) h
  · refine bfr_run 5 16 [some (.ref 0)] [] [(.int ((sI σ 0 41) - ci_1)), (.ref 0)] (mkM σ) (fun _ _ => rfl) ?_
    exact k_m_undo_b16 n d q _ _ h
set_option maxRecDepth 100000 in
theorem k_m_homesNow_b28 (n d : Nat) (r4 : Int32 → Int32 → bS → Option (Int32 × bS)) (q : (Int32 × bS)) (hr4 : ∀ (x1 : Int32) (x2 : Int32) (σ : bS), r4 x1 x2 σ = some q → bfr MT (d + 2) M_X12_homesNow 4 [some (.ref 0), some (.int x1), some (.int x2)] [] [] (mkM σ) (some (.int q.1), mkM q.2)) (x1 : Int32) (x2 : Int32) (σ : bS) (h : m_homesNow_b28 n r4 x1 x2 σ = some q) : bfr MT (d + 2) M_X12_homesNow 28 [some (.ref 0), some (.int x1), some (.int x2)] [] [] (mkM σ) (some (.int q.1), mkM q.2) := by
  unfold m_homesNow_b28 at h
  refine bfr_run 1 31 [some (.ref 0), some (.int x1), some (.int (x2 + ci_1))] [] [] (mkM σ) (fun _ _ => rfl) ?_
  refine bfr_run 1 4 [some (.ref 0), some (.int x1), some (.int (x2 + ci_1))] [] [] (mkM σ) (fun _ _ => rfl) ?_
  exact hr4 _ _ _ h
set_option maxRecDepth 100000 in
theorem k_m_homesNow_b4 (n d : Nat) (q : (Int32 × bS)) : ∀ (k : Nat) (x1 : Int32) (x2 : Int32) (σ : bS), m_homesNow_b4 n k x1 x2 σ = some q → bfr MT (d + 2) M_X12_homesNow 4 [some (.ref 0), some (.int x1), some (.int x2)] [] [] (mkM σ) (some (.int q.1), mkM q.2) := by
  intro k
  induction k with
  | zero => intro x1 x2 σ h; exact bno h
  | succ k ih =>
    intro x1 x2 σ h
    unfold m_homesNow_b4 at h
    refine bfr_in (i := ci_0) (m := 2) 5 (pc1 := 11) (L1 := [some (.ref 0), some (.int x1), some (.int x2)]) (J1 := []) (st1 := [(.int (sA σ 20 ci_0)), (.int x2)]) (w1 := mkM σ) (fun _ _ => rfl) h (fun h => ?_)
    refine bfr_br 1 (pc1 := 34) (L1 := [some (.ref 0), some (.int x1), some (.int x2)]) (J1 := []) (st1 := []) (w1 := mkM σ) (pc2 := 14) (L2 := [some (.ref 0), some (.int x1), some (.int x2)]) (J2 := []) (st2 := []) (w2 := mkM σ) (fun _ _ => rfl) h (fun h => ?_) (fun h => ?_)
    · cases h
      exact bfr_ret 2 (fun _ _ => rfl)
    · refine bfr_call 3 (d1 := d + 1) (M1 := M_X12_isHome) (vs := [(.ref 0), (.int x2)]) (w1 := mkM σ) (pc2 := 19) (L2 := [some (.ref 0), some (.int x1), some (.int x2)]) (J2 := []) (rest := []) (fun a => some (.int a.1)) (fun a => mkM a.2) (fun _ _ => rfl) h (fun a ha => k_m_isHome n (d + 0) _ _ _ ha) (fun q1 _ h => ?_)
      refine bfr_br 1 (pc1 := 28) (L1 := [some (.ref 0), some (.int x1), some (.int x2)]) (J1 := []) (st1 := []) (w1 := mkM q1.2) (pc2 := 22) (L2 := [some (.ref 0), some (.int x1), some (.int x2)]) (J2 := []) (st2 := []) (w2 := mkM q1.2) (fun _ _ => rfl) h (fun h => ?_) (fun h => ?_)
      · exact k_m_homesNow_b28 n d _ q (ih) _ _ _ h
      · refine bfr_run 6 28 [some (.ref 0), some (.int (x1 ||| (ci_1 <<< (x2 &&& 31)))), some (.int x2)] [] [] (mkM q1.2) (fun _ _ => rfl) ?_
        exact k_m_homesNow_b28 n d _ q (ih) _ _ _ h
set_option maxRecDepth 100000 in
theorem k_m_homesNow (n d : Nat) (q : (Int32 × bS)) (σ : bS) (h : m_homesNow n σ = some q) : bfr MT (d + 2) M_X12_homesNow 0 [some (.ref 0), none, none] [] [] (mkM σ) (some (.int q.1), mkM q.2) := by
  unfold m_homesNow at h
  refine bfr_run 4 4 [some (.ref 0), some (.int ci_0), some (.int ci_0)] [] [] (mkM σ) (fun _ _ => rfl) ?_
  exact k_m_homesNow_b4 n d q _ _ _ _ h
set_option maxRecDepth 100000 in
theorem k_m_homes (n d : Nat) (q : (Int32 × bS)) (σ : bS) (h : m_homes n σ = some q) : bfr MT (d + 3) M_X12_homes 0 [some (.ref 0)] [] [] (mkM σ) (some (.int q.1), mkM q.2) := by
  unfold m_homes at h
  refine bfr_run 3 5 [some (.ref 0)] [] [] ((mkM σ).set 0 (.inr (.inr (12, (mkM_0 σ).set 40 (.int ci_0))))) (fun _ _ => rfl) ?_
  rw [mkM_I0_40]
  refine bfr_call 2 (d1 := d + 2) (M1 := M_X12_homesNow) (vs := [(.ref 0)]) (w1 := mkM (uI σ 0 40 ci_0)) (pc2 := 9) (L2 := [some (.ref 0)]) (J2 := []) (rest := []) (fun a => some (.int a.1)) (fun a => mkM a.2) (fun _ _ => rfl) h (fun a ha => k_m_homesNow n (d + 0) _ _ ha) (fun q1 _ h => ?_)
  cases h
  exact bfr_ret 1 (fun _ _ => rfl)
set_option maxRecDepth 100000 in
theorem k_m_where_b19 (n d : Nat) (q : (Int32 × bS)) (o0 : Option Value) (o1 : Option Value) (o2 : Option Value) (σ : bS) (h : m_where_b19 n σ = some q) : bfr MT (d + 8) M_X12_where 19 [o0, o1, o2] [] [] (mkM σ) (some (.int q.1), mkM q.2) := by
  unfold m_where_b19 at h
  cases h
  exact bfr_ret 2 (fun _ _ => rfl)
set_option maxRecDepth 100000 in
theorem k_m_where (n d : Nat) (q : (Int32 × bS)) (x1 : Int32) (x2 : Int32) (σ : bS) (h : m_where n x1 x2 σ = some q) : bfr MT (d + 8) M_X12_where 0 [some (.ref 0), some (.int x1), some (.int x2)] [] [] (mkM σ) (some (.int q.1), mkM q.2) := by
  unfold m_where at h
  refine bfr_call 3 (d1 := d + 7) (M1 := M_X12_isMan) (vs := [(.ref 0), (.int x1)]) (w1 := mkM σ) (pc2 := 5) (L2 := [some (.ref 0), some (.int x1), some (.int x2)]) (J2 := []) (rest := []) (fun a => some (.int a.1)) (fun a => mkM a.2) (fun _ _ => rfl) h (fun a ha => k_m_isMan n (d + 7) _ _ _ ha) (fun q1 _ h => ?_)
  refine bfr_br 1 (pc1 := 19) (L1 := [some (.ref 0), some (.int x1), some (.int x2)]) (J1 := []) (st1 := []) (w1 := mkM q1.2) (pc2 := 8) (L2 := [some (.ref 0), some (.int x1), some (.int x2)]) (J2 := []) (st2 := []) (w2 := mkM q1.2) (fun _ _ => rfl) h (fun h => ?_) (fun h => ?_)
  · exact k_m_where_b19 n d q _ _ _ _ h
  · refine bfr_call 4 (d1 := d + 7) (M1 := M_X12_isIn) (vs := [(.int x2), (.int ci_0), (.int cs_300)]) (w1 := mkM q1.2) (pc2 := 16) (L2 := [some (.ref 0), some (.int x1), some (.int x2)]) (J2 := []) (rest := []) (fun a => some (.int a.1)) (fun a => mkM a.2) (fun _ _ => rfl) h (fun a ha => k_m_isIn n (d + 7) _ _ _ _ _ ha) (fun q2 _ h => ?_)
    refine bfr_br 1 (pc1 := 19) (L1 := [some (.ref 0), some (.int x1), some (.int x2)]) (J1 := []) (st1 := []) (w1 := mkM q2.2) (pc2 := 21) (L2 := [some (.ref 0), some (.int x1), some (.int x2)]) (J2 := []) (st2 := []) (w2 := mkM q2.2) (fun _ _ => rfl) h (fun h => ?_) (fun h => ?_)
    · exact k_m_where_b19 n d q _ _ _ _ h
    · refine bfr_call 2 (d1 := d + 7) (M1 := M_X12_tries) (vs := [(.ref 0)]) (w1 := mkM q2.2) (pc2 := 25) (L2 := [some (.ref 0), some (.int x1), some (.int x2)]) (J2 := []) (rest := []) (fun _ => none) (fun a => mkM a) (fun _ _ => rfl) h (fun a ha => k_m_tries n (d + 6) _ _ ha) (fun q3 _ h => ?_)
      refine bfr_call 3 (d1 := d + 7) (M1 := M_X12_rulesGo) (vs := [(.ref 0), (.int x2)]) (w1 := mkM q3) (pc2 := 30) (L2 := [some (.ref 0), some (.int x1), some (.int x2)]) (J2 := []) (rest := []) (fun _ => none) (fun a => mkM a) (fun _ _ => rfl) h (fun a ha => k_m_rulesGo n (d + 0) _ _ _ ha) (fun q4 _ h => ?_)
      refine bfr_run 6 40 [some (.ref 0), some (.int x1), some (.int x2)] [] [(.int ((sI q4 0 40) + ci_5)), (.ref 29)] (mkM q4) (fun _ _ => rfl) ?_
      refine bfr_in (i := (((sI q4 0 40) + ci_5) + x1)) (m := 2208) 3 (pc1 := 43) (L1 := [some (.ref 0), some (.int x1), some (.int x2)]) (J1 := []) (st1 := [(.int (sA q4 29 (((sI q4 0 40) + ci_5) + x1)))]) (w1 := mkM q4) (fun _ _ => rfl) h (fun h => ?_)
      cases h
      exact bfr_ret 1 (fun _ _ => rfl)
set_option maxRecDepth 100000 in
theorem k_m_last_b19 (n d : Nat) (q : (Int32 × bS)) (o0 : Option Value) (o1 : Option Value) (o2 : Option Value) (σ : bS) (h : m_last_b19 n σ = some q) : bfr MT (d + 8) M_X12_last 19 [o0, o1, o2] [] [] (mkM σ) (some (.int q.1), mkM q.2) := by
  unfold m_last_b19 at h
  cases h
  exact bfr_ret 2 (fun _ _ => rfl)
set_option maxRecDepth 100000 in
theorem k_m_last (n d : Nat) (q : (Int32 × bS)) (x1 : Int32) (x2 : Int32) (σ : bS) (h : m_last n x1 x2 σ = some q) : bfr MT (d + 8) M_X12_last 0 [some (.ref 0), some (.int x1), some (.int x2)] [] [] (mkM σ) (some (.int q.1), mkM q.2) := by
  unfold m_last at h
  refine bfr_call 3 (d1 := d + 7) (M1 := M_X12_isBridge) (vs := [(.ref 0), (.int x1)]) (w1 := mkM σ) (pc2 := 5) (L2 := [some (.ref 0), some (.int x1), some (.int x2)]) (J2 := []) (rest := []) (fun a => some (.int a.1)) (fun a => mkM a.2) (fun _ _ => rfl) h (fun a ha => k_m_isBridge n (d + 7) _ _ _ ha) (fun q1 _ h => ?_)
  refine bfr_br 1 (pc1 := 19) (L1 := [some (.ref 0), some (.int x1), some (.int x2)]) (J1 := []) (st1 := []) (w1 := mkM q1.2) (pc2 := 8) (L2 := [some (.ref 0), some (.int x1), some (.int x2)]) (J2 := []) (st2 := []) (w2 := mkM q1.2) (fun _ _ => rfl) h (fun h => ?_) (fun h => ?_)
  · exact k_m_last_b19 n d q _ _ _ _ h
  · refine bfr_call 4 (d1 := d + 7) (M1 := M_X12_isIn) (vs := [(.int x2), (.int ci_0), (.int cs_300)]) (w1 := mkM q1.2) (pc2 := 16) (L2 := [some (.ref 0), some (.int x1), some (.int x2)]) (J2 := []) (rest := []) (fun a => some (.int a.1)) (fun a => mkM a.2) (fun _ _ => rfl) h (fun a ha => k_m_isIn n (d + 7) _ _ _ _ _ ha) (fun q2 _ h => ?_)
    refine bfr_br 1 (pc1 := 19) (L1 := [some (.ref 0), some (.int x1), some (.int x2)]) (J1 := []) (st1 := []) (w1 := mkM q2.2) (pc2 := 21) (L2 := [some (.ref 0), some (.int x1), some (.int x2)]) (J2 := []) (st2 := []) (w2 := mkM q2.2) (fun _ _ => rfl) h (fun h => ?_) (fun h => ?_)
    · exact k_m_last_b19 n d q _ _ _ _ h
    · refine bfr_call 2 (d1 := d + 7) (M1 := M_X12_tries) (vs := [(.ref 0)]) (w1 := mkM q2.2) (pc2 := 25) (L2 := [some (.ref 0), some (.int x1), some (.int x2)]) (J2 := []) (rest := []) (fun _ => none) (fun a => mkM a) (fun _ _ => rfl) h (fun a ha => k_m_tries n (d + 6) _ _ ha) (fun q3 _ h => ?_)
      refine bfr_call 3 (d1 := d + 7) (M1 := M_X12_rulesGo) (vs := [(.ref 0), (.int x2)]) (w1 := mkM q3) (pc2 := 30) (L2 := [some (.ref 0), some (.int x1), some (.int x2)]) (J2 := []) (rest := []) (fun _ => none) (fun a => mkM a) (fun _ _ => rfl) h (fun a ha => k_m_rulesGo n (d + 0) _ _ _ ha) (fun q4 _ h => ?_)
      refine bfr_run 6 40 [some (.ref 0), some (.int x1), some (.int x2)] [] [(.int ((sI q4 0 40) + ci_1)), (.ref 29)] (mkM q4) (fun _ _ => rfl) ?_
      refine bfr_in (i := (((sI q4 0 40) + ci_1) + x1)) (m := 2208) 3 (pc1 := 43) (L1 := [some (.ref 0), some (.int x1), some (.int x2)]) (J1 := []) (st1 := [(.int (sA q4 29 (((sI q4 0 40) + ci_1) + x1)))]) (w1 := mkM q4) (fun _ _ => rfl) h (fun h => ?_)
      cases h
      exact bfr_ret 1 (fun _ _ => rfl)
set_option maxRecDepth 100000 in
theorem k_m_coins_b26 (n d : Nat) (q : (Int32 × bS)) : ∀ (k : Nat) (x2 : Int32) (x3 : Int32) (o1 : Option Value) (σ : bS), m_coins_b26 n k x2 x3 σ = some q → bfr MT (d + 8) M_X12_coins 26 [some (.ref 0), o1, some (.int x2), some (.int x3)] [] [] (mkM σ) (some (.int q.1), mkM q.2) := by
  intro k
  induction k with
  | zero => intro x2 x3 o1 σ h; exact bno h
  | succ k ih =>
    intro x2 x3 o1 σ h
    unfold m_coins_b26 at h
    refine bfr_in (i := ci_0) (m := 2) 5 (pc1 := 33) (L1 := [some (.ref 0), o1, some (.int x2), some (.int x3)]) (J1 := []) (st1 := [(.int (sA σ 20 ci_0)), (.int x3)]) (w1 := mkM σ) (fun _ _ => rfl) h (fun h => ?_)
    refine bfr_br 1 (pc1 := 59) (L1 := [some (.ref 0), o1, some (.int x2), some (.int x3)]) (J1 := []) (st1 := []) (w1 := mkM σ) (pc2 := 36) (L2 := [some (.ref 0), o1, some (.int x2), some (.int x3)]) (J2 := []) (st2 := []) (w2 := mkM σ) (fun _ _ => rfl) h (fun h => ?_) (fun h => ?_)
    · cases h
      exact bfr_ret 2 (fun _ _ => rfl)
    · refine bfr_run 6 47 [some (.ref 0), o1, some (.int x2), some (.int x3)] [] [(.int cb_19), (.int (sI σ 0 40)), (.ref 29), (.int x2)] (mkM σ) (fun _ _ => rfl) ?_
      refine bfr_in (i := (((sI σ 0 40) + cb_19) + x3)) (m := 2208) 4 (pc1 := 51) (L1 := [some (.ref 0), o1, some (.int x2), some (.int x3)]) (J1 := []) (st1 := [(.int (sA σ 29 (((sI σ 0 40) + cb_19) + x3))), (.int x2)]) (w1 := mkM σ) (fun _ _ => rfl) h (fun h => ?_)
      refine bfr_run 3 56 [some (.ref 0), o1, some (.int (x2 + (sA σ 29 (((sI σ 0 40) + cb_19) + x3)))), some (.int (x3 + ci_1))] [] [] (mkM σ) (fun _ _ => rfl) ?_
      refine bfr_run 1 26 [some (.ref 0), o1, some (.int (x2 + (sA σ 29 (((sI σ 0 40) + cb_19) + x3)))), some (.int (x3 + ci_1))] [] [] (mkM σ) (fun _ _ => rfl) ?_
      exact ih _ _ _ _ h
set_option maxRecDepth 100000 in
theorem k_m_coins (n d : Nat) (q : (Int32 × bS)) (x1 : Int32) (σ : bS) (h : m_coins n x1 σ = some q) : bfr MT (d + 8) M_X12_coins 0 [some (.ref 0), some (.int x1), none, none] [] [] (mkM σ) (some (.int q.1), mkM q.2) := by
  unfold m_coins at h
  refine bfr_call 4 (d1 := d + 7) (M1 := M_X12_isIn) (vs := [(.int x1), (.int ci_0), (.int cs_300)]) (w1 := mkM σ) (pc2 := 8) (L2 := [some (.ref 0), some (.int x1), none, none]) (J2 := []) (rest := []) (fun a => some (.int a.1)) (fun a => mkM a.2) (fun _ _ => rfl) h (fun a ha => k_m_isIn n (d + 7) _ _ _ _ _ ha) (fun q1 _ h => ?_)
  refine bfr_br 1 (pc1 := 11) (L1 := [some (.ref 0), some (.int x1), none, none]) (J1 := []) (st1 := []) (w1 := mkM q1.2) (pc2 := 13) (L2 := [some (.ref 0), some (.int x1), none, none]) (J2 := []) (st2 := []) (w2 := mkM q1.2) (fun _ _ => rfl) h (fun h => ?_) (fun h => ?_)
  · cases h
    exact bfr_ret 2 (fun _ _ => rfl)
  · refine bfr_call 2 (d1 := d + 7) (M1 := M_X12_tries) (vs := [(.ref 0)]) (w1 := mkM q1.2) (pc2 := 17) (L2 := [some (.ref 0), some (.int x1), none, none]) (J2 := []) (rest := []) (fun _ => none) (fun a => mkM a) (fun _ _ => rfl) h (fun a ha => k_m_tries n (d + 6) _ _ ha) (fun q2 _ h => ?_)
    refine bfr_call 3 (d1 := d + 7) (M1 := M_X12_rulesGo) (vs := [(.ref 0), (.int x1)]) (w1 := mkM q2) (pc2 := 22) (L2 := [some (.ref 0), some (.int x1), none, none]) (J2 := []) (rest := []) (fun _ => none) (fun a => mkM a) (fun _ _ => rfl) h (fun a ha => k_m_rulesGo n (d + 0) _ _ _ ha) (fun q3 _ h => ?_)
    refine bfr_run 4 26 [some (.ref 0), some (.int x1), some (.int ci_0), some (.int ci_0)] [] [] (mkM q3) (fun _ _ => rfl) ?_
    exact k_m_coins_b26 n d q _ _ _ _ _ h
set_option maxRecDepth 100000 in
theorem k_m_homeBy_b16 (n d : Nat) (q : (Int32 × bS)) : ∀ (k : Nat) (x1 : Int32) (x2 : Int32) (σ : bS), m_homeBy_b16 n k x1 x2 σ = some q → bfr MT (d + 7) M_X12_homeBy 16 [some (.ref 0), some (.int x1), some (.int x2)] [] [] (mkM σ) (some (.int q.1), mkM q.2) := by
  intro k
  induction k with
  | zero => intro x1 x2 σ h; exact bno h
  | succ k ih =>
    intro x1 x2 σ h
    unfold m_homeBy_b16 at h
    refine bfr_br 3 (pc1 := 44) (L1 := [some (.ref 0), some (.int x1), some (.int x2)]) (J1 := []) (st1 := []) (w1 := mkM σ) (pc2 := 23) (L2 := [some (.ref 0), some (.int x1), some (.int x2)]) (J2 := []) (st2 := []) (w2 := mkM σ) (fun _ _ => rfl) h (fun h => ?_) (fun h => ?_)
    · cases h
      exact bfr_ret 2 (fun _ _ => rfl)
    · refine bfr_call 3 (d1 := d + 6) (M1 := M_X12_isHome) (vs := [(.ref 0), (.int x1)]) (w1 := mkM σ) (pc2 := 28) (L2 := [some (.ref 0), some (.int x1), some (.int x2)]) (J2 := []) (rest := []) (fun a => some (.int a.1)) (fun a => mkM a.2) (fun _ _ => rfl) h (fun a ha => k_m_isHome n (d + 5) _ _ _ ha) (fun q1 _ h => ?_)
      refine bfr_br 1 (pc1 := 33) (L1 := [some (.ref 0), some (.int x1), some (.int x2)]) (J1 := []) (st1 := []) (w1 := mkM q1.2) (pc2 := 31) (L2 := [some (.ref 0), some (.int x1), some (.int x2)]) (J2 := []) (st2 := []) (w2 := mkM q1.2) (fun _ _ => rfl) h (fun h => ?_) (fun h => ?_)
      · refine bfr_call 3 (d1 := d + 6) (M1 := M_X12_ruleGoes) (vs := [(.ref 0), (.int ci_m1)]) (w1 := mkM q1.2) (pc2 := 38) (L2 := [some (.ref 0), some (.int x1), some (.int x2)]) (J2 := []) (rest := []) (fun _ => none) (fun a => mkM a) (fun _ _ => rfl) h (fun a ha => k_m_ruleGoes n (d + 0) _ _ _ ha) (fun q2 _ h => ?_)
        refine bfr_run 1 41 [some (.ref 0), some (.int x1), some (.int (x2 + ci_1))] [] [] (mkM q2) (fun _ _ => rfl) ?_
        refine bfr_run 1 16 [some (.ref 0), some (.int x1), some (.int (x2 + ci_1))] [] [] (mkM q2) (fun _ _ => rfl) ?_
        exact ih _ _ _ h
      · cases h
        exact bfr_ret 2 (fun _ _ => rfl)
set_option maxRecDepth 100000 in
theorem k_m_homeBy (n d : Nat) (q : (Int32 × bS)) (x1 : Int32) (σ : bS) (h : m_homeBy n x1 σ = some q) : bfr MT (d + 7) M_X12_homeBy 0 [some (.ref 0), some (.int x1), none] [] [] (mkM σ) (some (.int q.1), mkM q.2) := by
  unfold m_homeBy at h
  refine bfr_call 3 (d1 := d + 6) (M1 := M_X12_isMan) (vs := [(.ref 0), (.int x1)]) (w1 := mkM σ) (pc2 := 5) (L2 := [some (.ref 0), some (.int x1), none]) (J2 := []) (rest := []) (fun a => some (.int a.1)) (fun a => mkM a.2) (fun _ _ => rfl) h (fun a ha => k_m_isMan n (d + 6) _ _ _ ha) (fun q3 _ h => ?_)
  refine bfr_br 1 (pc1 := 8) (L1 := [some (.ref 0), some (.int x1), none]) (J1 := []) (st1 := []) (w1 := mkM q3.2) (pc2 := 10) (L2 := [some (.ref 0), some (.int x1), none]) (J2 := []) (st2 := []) (w2 := mkM q3.2) (fun _ _ => rfl) h (fun h => ?_) (fun h => ?_)
  · cases h
    exact bfr_ret 2 (fun _ _ => rfl)
  · refine bfr_call 2 (d1 := d + 6) (M1 := M_X12_tries) (vs := [(.ref 0)]) (w1 := mkM q3.2) (pc2 := 14) (L2 := [some (.ref 0), some (.int x1), none]) (J2 := []) (rest := []) (fun _ => none) (fun a => mkM a) (fun _ _ => rfl) h (fun a ha => k_m_tries n (d + 5) _ _ ha) (fun q4 _ h => ?_)
    refine bfr_run 2 16 [some (.ref 0), some (.int x1), some (.int ci_0)] [] [] (mkM q4) (fun _ _ => rfl) ?_
    exact k_m_homeBy_b16 n d q _ _ _ _ h
set_option maxRecDepth 100000 in
theorem k_m_allHome_b27 (n d : Nat) (r6 : Int32 → bS → Option (Int32 × bS)) (q : (Int32 × bS)) (hr6 : ∀ (x1 : Int32) (σ : bS), r6 x1 σ = some q → bfr MT (d + 7) M_X12_allHome 6 [some (.ref 0), some (.int x1)] [] [] (mkM σ) (some (.int q.1), mkM q.2)) (x1 : Int32) (s0 : Int32) (s1 : Int32) (σ : bS) (h : m_allHome_b27 n r6 x1 s0 s1 σ = some q) : bfr MT (d + 7) M_X12_allHome 27 [some (.ref 0), some (.int x1)] [] [(.int s1), (.int s0)] (mkM σ) (some (.int q.1), mkM q.2) := by
  unfold m_allHome_b27 at h
  refine bfr_br 1 (pc1 := 30) (L1 := [some (.ref 0), some (.int x1)]) (J1 := []) (st1 := []) (w1 := mkM σ) (pc2 := 32) (L2 := [some (.ref 0), some (.int x1)]) (J2 := []) (st2 := []) (w2 := mkM σ) (fun _ _ => rfl) h (fun h => ?_) (fun h => ?_)
  · cases h
    exact bfr_ret 2 (fun _ _ => rfl)
  · refine bfr_call 3 (d1 := d + 6) (M1 := M_X12_ruleGoes) (vs := [(.ref 0), (.int ci_m1)]) (w1 := mkM σ) (pc2 := 37) (L2 := [some (.ref 0), some (.int x1)]) (J2 := []) (rest := []) (fun _ => none) (fun a => mkM a) (fun _ _ => rfl) h (fun a ha => k_m_ruleGoes n (d + 0) _ _ _ ha) (fun q1 _ h => ?_)
    refine bfr_run 1 40 [some (.ref 0), some (.int (x1 + ci_1))] [] [] (mkM q1) (fun _ _ => rfl) ?_
    refine bfr_run 1 6 [some (.ref 0), some (.int (x1 + ci_1))] [] [] (mkM q1) (fun _ _ => rfl) ?_
    exact hr6 _ _ h
set_option maxRecDepth 100000 in
theorem k_m_allHome_b6 (n d : Nat) (q : (Int32 × bS)) : ∀ (k : Nat) (x1 : Int32) (σ : bS), m_allHome_b6 n k x1 σ = some q → bfr MT (d + 7) M_X12_allHome 6 [some (.ref 0), some (.int x1)] [] [] (mkM σ) (some (.int q.1), mkM q.2) := by
  intro k
  induction k with
  | zero => intro x1 σ h; exact bno h
  | succ k ih =>
    intro x1 σ h
    unfold m_allHome_b6 at h
    refine bfr_br 3 (pc1 := 43) (L1 := [some (.ref 0), some (.int x1)]) (J1 := []) (st1 := []) (w1 := mkM σ) (pc2 := 13) (L2 := [some (.ref 0), some (.int x1)]) (J2 := []) (st2 := []) (w2 := mkM σ) (fun _ _ => rfl) h (fun h => ?_) (fun h => ?_)
    · cases h
      exact bfr_ret 2 (fun _ _ => rfl)
    · refine bfr_call 2 (d1 := d + 6) (M1 := M_X12_homesNow) (vs := [(.ref 0)]) (w1 := mkM σ) (pc2 := 17) (L2 := [some (.ref 0), some (.int x1)]) (J2 := []) (rest := []) (fun a => some (.int a.1)) (fun a => mkM a.2) (fun _ _ => rfl) h (fun a ha => k_m_homesNow n (d + 4) _ _ ha) (fun q2 _ h => ?_)
      refine bfr_in (i := ci_0) (m := 2) 5 (pc1 := 24) (L1 := [some (.ref 0), some (.int x1)]) (J1 := []) (st1 := [(.int (sA q2.2 20 ci_0)), (.int ci_1), (.int q2.1)]) (w1 := mkM q2.2) (fun _ _ => rfl) h (fun h => ?_)
      refine bfr_run 3 27 [some (.ref 0), some (.int x1)] [] [(.int ((ci_1 <<< ((sA q2.2 20 ci_0) &&& 31)) - ci_1)), (.int q2.1)] (mkM q2.2) (fun _ _ => rfl) ?_
      exact k_m_allHome_b27 n d _ q (ih) _ _ _ _ h
set_option maxRecDepth 100000 in
theorem k_m_allHome (n d : Nat) (q : (Int32 × bS)) (σ : bS) (h : m_allHome n σ = some q) : bfr MT (d + 7) M_X12_allHome 0 [some (.ref 0), none] [] [] (mkM σ) (some (.int q.1), mkM q.2) := by
  unfold m_allHome at h
  refine bfr_call 2 (d1 := d + 6) (M1 := M_X12_tries) (vs := [(.ref 0)]) (w1 := mkM σ) (pc2 := 4) (L2 := [some (.ref 0), none]) (J2 := []) (rest := []) (fun _ => none) (fun a => mkM a) (fun _ _ => rfl) h (fun a ha => k_m_tries n (d + 5) _ _ ha) (fun q3 _ h => ?_)
  refine bfr_run 2 6 [some (.ref 0), some (.int ci_0)] [] [] (mkM q3) (fun _ _ => rfl) ?_
  exact k_m_allHome_b6 n d q _ _ _ h
set_option maxRecDepth 100000 in
theorem k_m_odds_b84 (n d : Nat) (r37 : Int32 → Int32 → Int32 → Int32 → Int32 → bS → Option (Int32 × bS)) (q : (Int32 × bS)) (hr37 : ∀ (x1 : Int32) (x2 : Int32) (x3 : Int32) (x4 : Int32) (x5 : Int32) (σ : bS), r37 x1 x2 x3 x4 x5 σ = some q → bfr MT (d + 8) M_X12_odds 37 [some (.ref 0), some (.int x1), some (.int x2), some (.int x3), some (.int x4), some (.int x5)] [] [] (mkM σ) (some (.int q.1), mkM q.2)) (x1 : Int32) (x2 : Int32) (x3 : Int32) (x4 : Int32) (x5 : Int32) (σ : bS) (h : m_odds_b84 n r37 x1 x2 x3 x4 x5 σ = some q) : bfr MT (d + 8) M_X12_odds 84 [some (.ref 0), some (.int x1), some (.int x2), some (.int x3), some (.int x4), some (.int x5)] [] [] (mkM σ) (some (.int q.1), mkM q.2) := by
  unfold m_odds_b84 at h
  refine bfr_run 1 87 [some (.ref 0), some (.int x1), some (.int x2), some (.int x3), some (.int x4), some (.int (x5 + ci_1))] [] [] (mkM σ) (fun _ _ => rfl) ?_
  refine bfr_run 1 37 [some (.ref 0), some (.int x1), some (.int x2), some (.int x3), some (.int x4), some (.int (x5 + ci_1))] [] [] (mkM σ) (fun _ _ => rfl) ?_
  exact hr37 _ _ _ _ _ _ h
set_option maxRecDepth 100000 in
theorem k_m_odds_b37 (n d : Nat) (q : (Int32 × bS)) : ∀ (k : Nat) (x1 : Int32) (x2 : Int32) (x3 : Int32) (x4 : Int32) (x5 : Int32) (σ : bS), m_odds_b37 n k x1 x2 x3 x4 x5 σ = some q → bfr MT (d + 8) M_X12_odds 37 [some (.ref 0), some (.int x1), some (.int x2), some (.int x3), some (.int x4), some (.int x5)] [] [] (mkM σ) (some (.int q.1), mkM q.2) := by
  intro k
  induction k with
  | zero => intro x1 x2 x3 x4 x5 σ h; exact bno h
  | succ k ih =>
    intro x1 x2 x3 x4 x5 σ h
    unfold m_odds_b37 at h
    refine bfr_br 3 (pc1 := 90) (L1 := [some (.ref 0), some (.int x1), some (.int x2), some (.int x3), some (.int x4), some (.int x5)]) (J1 := []) (st1 := []) (w1 := mkM σ) (pc2 := 43) (L2 := [some (.ref 0), some (.int x1), some (.int x2), some (.int x3), some (.int x4), some (.int x5)]) (J2 := []) (st2 := []) (w2 := mkM σ) (fun _ _ => rfl) h (fun h => ?_) (fun h => ?_)
    · cases h
      exact bfr_ret 2 (fun _ _ => rfl)
    · refine bfr_call 2 (d1 := d + 7) (M1 := M_X12_tries) (vs := [(.ref 0)]) (w1 := mkM σ) (pc2 := 47) (L2 := [some (.ref 0), some (.int x1), some (.int x2), some (.int x3), some (.int x4), some (.int x5)]) (J2 := []) (rest := []) (fun _ => none) (fun a => mkM a) (fun _ _ => rfl) h (fun a ha => k_m_tries n (d + 6) _ _ ha) (fun q1 _ h => ?_)
      refine bfr_run 6 58 [some (.ref 0), some (.int x1), some (.int x2), some (.int x3), some (.int x4), some (.int x5)] [] [(.int ((sI q1 0 40) + cb_46)), (.ref 29)] (mkM q1) (fun _ _ => rfl) ?_
      refine bfr_in (i := ci_3) (m := 8) 4 (pc1 := 64) (L1 := [some (.ref 0), some (.int x1), some (.int x2), some (.int x3), some (.int x4), some (.int x5)]) (J1 := []) (st1 := [(.int (sA q1 24 ci_3)), (.int ((sI q1 0 40) + cb_46)), (.ref 29)]) (w1 := mkM q1) (fun _ _ => rfl) h (fun h => ?_)
      refine bfr_in (i := ((sI q1 0 40) + cb_46)) (m := 2208) 3 (pc1 := 68) (L1 := [some (.ref 0), some (.int x1), some (.int x2), some (.int x3), some (.int x4), some (.int x5)]) (J1 := []) (st1 := []) (w1 := ((mkM q1).set 29 (.inl (0, 2208, upd (q1.2.1 29) (((sI q1 0 40) + cb_46)).toNatClampNeg ((sA q1 24 ci_3) + x5))))) (fun _ _ => rfl) h (fun h => ?_)
      rw [mkM_A29]
      refine bfr_call 3 (d1 := d + 7) (M1 := M_X12_rulesGo) (vs := [(.ref 0), (.int x2)]) (w1 := mkM (uA q1 29 ((sI q1 0 40) + cb_46) ((sA q1 24 ci_3) + x5))) (pc2 := 73) (L2 := [some (.ref 0), some (.int x1), some (.int x2), some (.int x3), some (.int x4), some (.int x5)]) (J2 := []) (rest := []) (fun _ => none) (fun a => mkM a) (fun _ _ => rfl) h (fun a ha => k_m_rulesGo n (d + 0) _ _ _ ha) (fun q2 _ h => ?_)
      refine bfr_call 3 (d1 := d + 7) (M1 := M_X12_isHome) (vs := [(.ref 0), (.int x1)]) (w1 := mkM q2) (pc2 := 78) (L2 := [some (.ref 0), some (.int x1), some (.int x2), some (.int x3), some (.int x4), some (.int x5)]) (J2 := []) (rest := []) (fun a => some (.int a.1)) (fun a => mkM a.2) (fun _ _ => rfl) h (fun a ha => k_m_isHome n (d + 6) _ _ _ ha) (fun q3 _ h => ?_)
      refine bfr_br 1 (pc1 := 84) (L1 := [some (.ref 0), some (.int x1), some (.int x2), some (.int x3), some (.int x4), some (.int x5)]) (J1 := []) (st1 := []) (w1 := mkM q3.2) (pc2 := 81) (L2 := [some (.ref 0), some (.int x1), some (.int x2), some (.int x3), some (.int x4), some (.int x5)]) (J2 := []) (st2 := []) (w2 := mkM q3.2) (fun _ _ => rfl) h (fun h => ?_) (fun h => ?_)
      · exact k_m_odds_b84 n d _ q (ih) _ _ _ _ _ _ h
      · refine bfr_run 1 84 [some (.ref 0), some (.int x1), some (.int x2), some (.int x3), some (.int (x4 + ci_1)), some (.int x5)] [] [] (mkM q3.2) (fun _ _ => rfl) ?_
        exact k_m_odds_b84 n d _ q (ih) _ _ _ _ _ _ h
set_option maxRecDepth 100000 in
theorem k_m_odds_b29 (n d : Nat) (q : (Int32 × bS)) (o0 : Option Value) (o1 : Option Value) (o2 : Option Value) (o3 : Option Value) (o4 : Option Value) (o5 : Option Value) (σ : bS) (h : m_odds_b29 n σ = some q) : bfr MT (d + 8) M_X12_odds 29 [o0, o1, o2, o3, o4, o5] [] [] (mkM σ) (some (.int q.1), mkM q.2) := by
  unfold m_odds_b29 at h
  cases h
  exact bfr_ret 2 (fun _ _ => rfl)
set_option maxRecDepth 100000 in
theorem k_m_odds (n d : Nat) (q : (Int32 × bS)) (x1 : Int32) (x2 : Int32) (x3 : Int32) (σ : bS) (h : m_odds n x1 x2 x3 σ = some q) : bfr MT (d + 8) M_X12_odds 0 [some (.ref 0), some (.int x1), some (.int x2), some (.int x3), none, none] [] [] (mkM σ) (some (.int q.1), mkM q.2) := by
  unfold m_odds at h
  refine bfr_call 3 (d1 := d + 7) (M1 := M_X12_isMan) (vs := [(.ref 0), (.int x1)]) (w1 := mkM σ) (pc2 := 5) (L2 := [some (.ref 0), some (.int x1), some (.int x2), some (.int x3), none, none]) (J2 := []) (rest := []) (fun a => some (.int a.1)) (fun a => mkM a.2) (fun _ _ => rfl) h (fun a ha => k_m_isMan n (d + 7) _ _ _ ha) (fun q4 _ h => ?_)
  refine bfr_br 1 (pc1 := 29) (L1 := [some (.ref 0), some (.int x1), some (.int x2), some (.int x3), none, none]) (J1 := []) (st1 := []) (w1 := mkM q4.2) (pc2 := 8) (L2 := [some (.ref 0), some (.int x1), some (.int x2), some (.int x3), none, none]) (J2 := []) (st2 := []) (w2 := mkM q4.2) (fun _ _ => rfl) h (fun h => ?_) (fun h => ?_)
  · exact k_m_odds_b29 n d q _ _ _ _ _ _ _ h
  · refine bfr_call 4 (d1 := d + 7) (M1 := M_X12_isIn) (vs := [(.int x2), (.int ci_0), (.int cs_300)]) (w1 := mkM q4.2) (pc2 := 16) (L2 := [some (.ref 0), some (.int x1), some (.int x2), some (.int x3), none, none]) (J2 := []) (rest := []) (fun a => some (.int a.1)) (fun a => mkM a.2) (fun _ _ => rfl) h (fun a ha => k_m_isIn n (d + 7) _ _ _ _ _ ha) (fun q5 _ h => ?_)
    refine bfr_br 1 (pc1 := 29) (L1 := [some (.ref 0), some (.int x1), some (.int x2), some (.int x3), none, none]) (J1 := []) (st1 := []) (w1 := mkM q5.2) (pc2 := 19) (L2 := [some (.ref 0), some (.int x1), some (.int x2), some (.int x3), none, none]) (J2 := []) (st2 := []) (w2 := mkM q5.2) (fun _ _ => rfl) h (fun h => ?_) (fun h => ?_)
    · exact k_m_odds_b29 n d q _ _ _ _ _ _ _ h
    · refine bfr_call 4 (d1 := d + 7) (M1 := M_X12_isIn) (vs := [(.int x3), (.int ci_1), (.int cb_20)]) (w1 := mkM q5.2) (pc2 := 26) (L2 := [some (.ref 0), some (.int x1), some (.int x2), some (.int x3), none, none]) (J2 := []) (rest := []) (fun a => some (.int a.1)) (fun a => mkM a.2) (fun _ _ => rfl) h (fun a ha => k_m_isIn n (d + 7) _ _ _ _ _ ha) (fun q6 _ h => ?_)
      refine bfr_br 1 (pc1 := 29) (L1 := [some (.ref 0), some (.int x1), some (.int x2), some (.int x3), none, none]) (J1 := []) (st1 := []) (w1 := mkM q6.2) (pc2 := 31) (L2 := [some (.ref 0), some (.int x1), some (.int x2), some (.int x3), none, none]) (J2 := []) (st2 := []) (w2 := mkM q6.2) (fun _ _ => rfl) h (fun h => ?_) (fun h => ?_)
      · exact k_m_odds_b29 n d q _ _ _ _ _ _ _ h
      · refine bfr_run 4 37 [some (.ref 0), some (.int x1), some (.int x2), some (.int x3), some (.int ci_0), some (.int ci_0)] [] [] (mkM q6.2) (fun _ _ => rfl) ?_
        exact k_m_odds_b37 n d q _ _ _ _ _ _ _ h
set_option maxRecDepth 100000 in
theorem k_m_waiting_b75 (n d : Nat) (r36 : Int32 → Int32 → Int32 → bS → Option (Int32 × bS)) (q : (Int32 × bS)) (hr36 : ∀ (x1 : Int32) (x2 : Int32) (x3 : Int32) (σ : bS), r36 x1 x2 x3 σ = some q → bfr MT (d + 7) M_X12_waiting 36 [some (.ref 0), some (.int x1), some (.int x2), some (.int x3)] [] [] (mkM σ) (some (.int q.1), mkM q.2)) (x1 : Int32) (x2 : Int32) (x3 : Int32) (σ : bS) (h : m_waiting_b75 n r36 x1 x2 x3 σ = some q) : bfr MT (d + 7) M_X12_waiting 75 [some (.ref 0), some (.int x1), some (.int x2), some (.int x3)] [] [] (mkM σ) (some (.int q.1), mkM q.2) := by
  unfold m_waiting_b75 at h
  refine bfr_call 3 (d1 := d + 6) (M1 := M_X12_ruleGoes) (vs := [(.ref 0), (.int x1)]) (w1 := mkM σ) (pc2 := 80) (L2 := [some (.ref 0), some (.int x1), some (.int x2), some (.int x3)]) (J2 := []) (rest := []) (fun _ => none) (fun a => mkM a) (fun _ _ => rfl) h (fun a ha => k_m_ruleGoes n (d + 0) _ _ _ ha) (fun q1 _ h => ?_)
  refine bfr_run 1 83 [some (.ref 0), some (.int x1), some (.int x2), some (.int (x3 + ci_1))] [] [] (mkM q1) (fun _ _ => rfl) ?_
  refine bfr_run 1 36 [some (.ref 0), some (.int x1), some (.int x2), some (.int (x3 + ci_1))] [] [] (mkM q1) (fun _ _ => rfl) ?_
  exact hr36 _ _ _ _ h
set_option maxRecDepth 100000 in
theorem k_m_waiting_b36 (n d : Nat) (q : (Int32 × bS)) : ∀ (k : Nat) (x1 : Int32) (x2 : Int32) (x3 : Int32) (σ : bS), m_waiting_b36 n k x1 x2 x3 σ = some q → bfr MT (d + 7) M_X12_waiting 36 [some (.ref 0), some (.int x1), some (.int x2), some (.int x3)] [] [] (mkM σ) (some (.int q.1), mkM q.2) := by
  intro k
  induction k with
  | zero => intro x1 x2 x3 σ h; exact bno h
  | succ k ih =>
    intro x1 x2 x3 σ h
    unfold m_waiting_b36 at h
    refine bfr_br 3 (pc1 := 86) (L1 := [some (.ref 0), some (.int x1), some (.int x2), some (.int x3)]) (J1 := []) (st1 := []) (w1 := mkM σ) (pc2 := 42) (L2 := [some (.ref 0), some (.int x1), some (.int x2), some (.int x3)]) (J2 := []) (st2 := []) (w2 := mkM σ) (fun _ _ => rfl) h (fun h => ?_) (fun h => ?_)
    · cases h
      exact bfr_ret 2 (fun _ _ => rfl)
    · refine bfr_call 4 (d1 := d + 6) (M1 := M_X12_could) (vs := [(.ref 0), (.int x1), (.int x2)]) (w1 := mkM σ) (pc2 := 48) (L2 := [some (.ref 0), some (.int x1), some (.int x2), some (.int x3)]) (J2 := []) (rest := []) (fun a => some (.int a.1)) (fun a => mkM a.2) (fun _ _ => rfl) h (fun a ha => k_m_could n (d + 2) _ _ _ _ ha) (fun q2 _ h => ?_)
      refine bfr_br 1 (pc1 := 75) (L1 := [some (.ref 0), some (.int x1), some (.int x2), some (.int x3)]) (J1 := []) (st1 := []) (w1 := mkM q2.2) (pc2 := 51) (L2 := [some (.ref 0), some (.int x1), some (.int x2), some (.int x3)]) (J2 := []) (st2 := []) (w2 := mkM q2.2) (fun _ _ => rfl) h (fun h => ?_) (fun h => ?_)
      · exact k_m_waiting_b75 n d _ q (ih) _ _ _ _ h
      · refine bfr_run 6 61 [some (.ref 0), some (.int x1), some (.int x2), some (.int x3)] [] [(.int ((sI q2.2 0 40) + ci_1)), (.ref 29)] (mkM q2.2) (fun _ _ => rfl) ?_
        refine bfr_in (i := (((sI q2.2 0 40) + ci_1) + x2)) (m := 2208) 3 (pc1 := 64) (L1 := [some (.ref 0), some (.int x1), some (.int x2), some (.int x3)]) (J1 := []) (st1 := [(.int (sA q2.2 29 (((sI q2.2 0 40) + ci_1) + x2)))]) (w1 := mkM q2.2) (fun _ _ => rfl) h (fun h => ?_)
        refine bfr_in (i := x1) (m := 14) 4 (pc1 := 70) (L1 := [some (.ref 0), some (.int x1), some (.int x2), some (.int x3)]) (J1 := []) (st1 := [(.int (sA q2.2 22 x1)), (.int (sA q2.2 29 (((sI q2.2 0 40) + ci_1) + x2)))]) (w1 := mkM q2.2) (fun _ _ => rfl) h (fun h => ?_)
        refine bfr_br 1 (pc1 := 73) (L1 := [some (.ref 0), some (.int x1), some (.int x2), some (.int x3)]) (J1 := []) (st1 := []) (w1 := mkM q2.2) (pc2 := 75) (L2 := [some (.ref 0), some (.int x1), some (.int x2), some (.int x3)]) (J2 := []) (st2 := []) (w2 := mkM q2.2) (fun _ _ => rfl) h (fun h => ?_) (fun h => ?_)
        · cases h
          exact bfr_ret 2 (fun _ _ => rfl)
        · exact k_m_waiting_b75 n d _ q (ih) _ _ _ _ h
set_option maxRecDepth 100000 in
theorem k_m_waiting_b16 (n d : Nat) (q : (Int32 × bS)) (o0 : Option Value) (o1 : Option Value) (o2 : Option Value) (o3 : Option Value) (σ : bS) (h : m_waiting_b16 n σ = some q) : bfr MT (d + 7) M_X12_waiting 16 [o0, o1, o2, o3] [] [] (mkM σ) (some (.int q.1), mkM q.2) := by
  unfold m_waiting_b16 at h
  cases h
  exact bfr_ret 2 (fun _ _ => rfl)
set_option maxRecDepth 100000 in
theorem k_m_waiting (n d : Nat) (q : (Int32 × bS)) (x1 : Int32) (x2 : Int32) (σ : bS) (h : m_waiting n x1 x2 σ = some q) : bfr MT (d + 7) M_X12_waiting 0 [some (.ref 0), some (.int x1), some (.int x2), none] [] [] (mkM σ) (some (.int q.1), mkM q.2) := by
  unfold m_waiting at h
  refine bfr_call 3 (d1 := d + 6) (M1 := M_X12_isMan) (vs := [(.ref 0), (.int x1)]) (w1 := mkM σ) (pc2 := 5) (L2 := [some (.ref 0), some (.int x1), some (.int x2), none]) (J2 := []) (rest := []) (fun a => some (.int a.1)) (fun a => mkM a.2) (fun _ _ => rfl) h (fun a ha => k_m_isMan n (d + 6) _ _ _ ha) (fun q3 _ h => ?_)
  refine bfr_br 1 (pc1 := 16) (L1 := [some (.ref 0), some (.int x1), some (.int x2), none]) (J1 := []) (st1 := []) (w1 := mkM q3.2) (pc2 := 8) (L2 := [some (.ref 0), some (.int x1), some (.int x2), none]) (J2 := []) (st2 := []) (w2 := mkM q3.2) (fun _ _ => rfl) h (fun h => ?_) (fun h => ?_)
  · exact k_m_waiting_b16 n d q _ _ _ _ _ h
  · refine bfr_call 3 (d1 := d + 6) (M1 := M_X12_isBridge) (vs := [(.ref 0), (.int x2)]) (w1 := mkM q3.2) (pc2 := 13) (L2 := [some (.ref 0), some (.int x1), some (.int x2), none]) (J2 := []) (rest := []) (fun a => some (.int a.1)) (fun a => mkM a.2) (fun _ _ => rfl) h (fun a ha => k_m_isBridge n (d + 6) _ _ _ ha) (fun q4 _ h => ?_)
    refine bfr_br 1 (pc1 := 16) (L1 := [some (.ref 0), some (.int x1), some (.int x2), none]) (J1 := []) (st1 := []) (w1 := mkM q4.2) (pc2 := 18) (L2 := [some (.ref 0), some (.int x1), some (.int x2), none]) (J2 := []) (st2 := []) (w2 := mkM q4.2) (fun _ _ => rfl) h (fun h => ?_) (fun h => ?_)
    · exact k_m_waiting_b16 n d q _ _ _ _ _ h
    · refine bfr_call 2 (d1 := d + 6) (M1 := M_X12_tries) (vs := [(.ref 0)]) (w1 := mkM q4.2) (pc2 := 22) (L2 := [some (.ref 0), some (.int x1), some (.int x2), none]) (J2 := []) (rest := []) (fun _ => none) (fun a => mkM a) (fun _ _ => rfl) h (fun a ha => k_m_tries n (d + 5) _ _ ha) (fun q5 _ h => ?_)
      refine bfr_call 4 (d1 := d + 6) (M1 := M_X12_isAtFoot) (vs := [(.ref 0), (.int x1), (.int x2)]) (w1 := mkM q5) (pc2 := 28) (L2 := [some (.ref 0), some (.int x1), some (.int x2), none]) (J2 := []) (rest := []) (fun a => some (.int a.1)) (fun a => mkM a.2) (fun _ _ => rfl) h (fun a ha => k_m_isAtFoot n (d + 5) _ _ _ _ ha) (fun q6 _ h => ?_)
      refine bfr_br 1 (pc1 := 31) (L1 := [some (.ref 0), some (.int x1), some (.int x2), none]) (J1 := []) (st1 := []) (w1 := mkM q6.2) (pc2 := 34) (L2 := [some (.ref 0), some (.int x1), some (.int x2), none]) (J2 := []) (st2 := []) (w2 := mkM q6.2) (fun _ _ => rfl) h (fun h => ?_) (fun h => ?_)
      · cases h
        exact bfr_ret 2 (fun _ _ => rfl)
      · refine bfr_run 2 36 [some (.ref 0), some (.int x1), some (.int x2), some (.int ci_0)] [] [] (mkM q6.2) (fun _ _ => rfl) ?_
        exact k_m_waiting_b36 n d q _ _ _ _ _ h
set_option maxRecDepth 100000 in
theorem k_m_follow_b78 (n d : Nat) (r37 : Int32 → Int32 → Int32 → bS → Option (Int32 × bS)) (q : (Int32 × bS)) (hr37 : ∀ (x1 : Int32) (x2 : Int32) (x3 : Int32) (σ : bS), r37 x1 x2 x3 σ = some q → bfr MT (d + 5) M_X12_follow 37 [some (.ref 0), some (.int x1), some (.int x2), some (.int x3)] [] [] (mkM σ) (some (.int q.1), mkM q.2)) (x1 : Int32) (x2 : Int32) (x3 : Int32) (σ : bS) (h : m_follow_b78 n r37 x1 x2 x3 σ = some q) : bfr MT (d + 5) M_X12_follow 78 [some (.ref 0), some (.int x1), some (.int x2), some (.int x3)] [] [] (mkM σ) (some (.int q.1), mkM q.2) := by
  unfold m_follow_b78 at h
  refine bfr_run 1 81 [some (.ref 0), some (.int x1), some (.int x2), some (.int (x3 + ci_1))] [] [] (mkM σ) (fun _ _ => rfl) ?_
  refine bfr_run 1 37 [some (.ref 0), some (.int x1), some (.int x2), some (.int (x3 + ci_1))] [] [] (mkM σ) (fun _ _ => rfl) ?_
  exact hr37 _ _ _ _ h
set_option maxRecDepth 100000 in
theorem k_m_follow_b37 (n d : Nat) (q : (Int32 × bS)) : ∀ (k : Nat) (x1 : Int32) (x2 : Int32) (x3 : Int32) (σ : bS), m_follow_b37 n k x1 x2 x3 σ = some q → bfr MT (d + 5) M_X12_follow 37 [some (.ref 0), some (.int x1), some (.int x2), some (.int x3)] [] [] (mkM σ) (some (.int q.1), mkM q.2) := by
  intro k
  induction k with
  | zero => intro x1 x2 x3 σ h; exact bno h
  | succ k ih =>
    intro x1 x2 x3 σ h
    unfold m_follow_b37 at h
    refine bfr_in (i := ci_0) (m := 2) 5 (pc1 := 44) (L1 := [some (.ref 0), some (.int x1), some (.int x2), some (.int x3)]) (J1 := []) (st1 := [(.int (sA σ 20 ci_0)), (.int x3)]) (w1 := mkM σ) (fun _ _ => rfl) h (fun h => ?_)
    refine bfr_br 1 (pc1 := 84) (L1 := [some (.ref 0), some (.int x1), some (.int x2), some (.int x3)]) (J1 := []) (st1 := []) (w1 := mkM σ) (pc2 := 47) (L2 := [some (.ref 0), some (.int x1), some (.int x2), some (.int x3)]) (J2 := []) (st2 := []) (w2 := mkM σ) (fun _ _ => rfl) h (fun h => ?_) (fun h => ?_)
    · cases h
      exact bfr_ret 2 (fun _ _ => rfl)
    · refine bfr_br 3 (pc1 := 78) (L1 := [some (.ref 0), some (.int x1), some (.int x2), some (.int x3)]) (J1 := []) (st1 := []) (w1 := mkM σ) (pc2 := 52) (L2 := [some (.ref 0), some (.int x1), some (.int x2), some (.int x3)]) (J2 := []) (st2 := []) (w2 := mkM σ) (fun _ _ => rfl) h (fun h => ?_) (fun h => ?_)
      · exact k_m_follow_b78 n d _ q (ih) _ _ _ _ h
      · refine bfr_call 4 (d1 := d + 4) (M1 := M_X12_could) (vs := [(.ref 0), (.int x3), (.int x2)]) (w1 := mkM σ) (pc2 := 58) (L2 := [some (.ref 0), some (.int x1), some (.int x2), some (.int x3)]) (J2 := []) (rest := []) (fun a => some (.int a.1)) (fun a => mkM a.2) (fun _ _ => rfl) h (fun a ha => k_m_could n (d + 0) _ _ _ _ ha) (fun q1 _ h => ?_)
        refine bfr_br 1 (pc1 := 78) (L1 := [some (.ref 0), some (.int x1), some (.int x2), some (.int x3)]) (J1 := []) (st1 := []) (w1 := mkM q1.2) (pc2 := 61) (L2 := [some (.ref 0), some (.int x1), some (.int x2), some (.int x3)]) (J2 := []) (st2 := []) (w2 := mkM q1.2) (fun _ _ => rfl) h (fun h => ?_) (fun h => ?_)
        · exact k_m_follow_b78 n d _ q (ih) _ _ _ _ h
        · refine bfr_call 4 (d1 := d + 4) (M1 := M_X12_wishOf) (vs := [(.ref 0), (.int x3), (.int x2)]) (w1 := mkM q1.2) (pc2 := 67) (L2 := [some (.ref 0), some (.int x1), some (.int x2), some (.int x3)]) (J2 := []) (rest := []) (fun a => some (.int a.1)) (fun a => mkM a.2) (fun _ _ => rfl) h (fun a ha => k_m_wishOf n (d + 1) _ _ _ _ ha) (fun q2 _ h => ?_)
          refine bfr_in (i := x1) (m := 14) 4 (pc1 := 73) (L1 := [some (.ref 0), some (.int x1), some (.int x2), some (.int x3)]) (J1 := []) (st1 := [(.int (sA q2.2 22 x1)), (.int q2.1)]) (w1 := mkM q2.2) (fun _ _ => rfl) h (fun h => ?_)
          refine bfr_br 1 (pc1 := 76) (L1 := [some (.ref 0), some (.int x1), some (.int x2), some (.int x3)]) (J1 := []) (st1 := []) (w1 := mkM q2.2) (pc2 := 78) (L2 := [some (.ref 0), some (.int x1), some (.int x2), some (.int x3)]) (J2 := []) (st2 := []) (w2 := mkM q2.2) (fun _ _ => rfl) h (fun h => ?_) (fun h => ?_)
          · cases h
            exact bfr_ret 2 (fun _ _ => rfl)
          · exact k_m_follow_b78 n d _ q (ih) _ _ _ _ h
set_option maxRecDepth 100000 in
theorem k_m_follow_b16 (n d : Nat) (q : (Int32 × bS)) (o0 : Option Value) (o1 : Option Value) (o2 : Option Value) (o3 : Option Value) (σ : bS) (h : m_follow_b16 n σ = some q) : bfr MT (d + 5) M_X12_follow 16 [o0, o1, o2, o3] [] [] (mkM σ) (some (.int q.1), mkM q.2) := by
  unfold m_follow_b16 at h
  cases h
  exact bfr_ret 2 (fun _ _ => rfl)
set_option maxRecDepth 100000 in
theorem k_m_follow (n d : Nat) (q : (Int32 × bS)) (x1 : Int32) (x2 : Int32) (σ : bS) (h : m_follow n x1 x2 σ = some q) : bfr MT (d + 5) M_X12_follow 0 [some (.ref 0), some (.int x1), some (.int x2), none] [] [] (mkM σ) (some (.int q.1), mkM q.2) := by
  unfold m_follow at h
  refine bfr_call 3 (d1 := d + 4) (M1 := M_X12_isMan) (vs := [(.ref 0), (.int x1)]) (w1 := mkM σ) (pc2 := 5) (L2 := [some (.ref 0), some (.int x1), some (.int x2), none]) (J2 := []) (rest := []) (fun a => some (.int a.1)) (fun a => mkM a.2) (fun _ _ => rfl) h (fun a ha => k_m_isMan n (d + 4) _ _ _ ha) (fun q3 _ h => ?_)
  refine bfr_br 1 (pc1 := 16) (L1 := [some (.ref 0), some (.int x1), some (.int x2), none]) (J1 := []) (st1 := []) (w1 := mkM q3.2) (pc2 := 8) (L2 := [some (.ref 0), some (.int x1), some (.int x2), none]) (J2 := []) (st2 := []) (w2 := mkM q3.2) (fun _ _ => rfl) h (fun h => ?_) (fun h => ?_)
  · exact k_m_follow_b16 n d q _ _ _ _ _ h
  · refine bfr_call 3 (d1 := d + 4) (M1 := M_X12_isBridge) (vs := [(.ref 0), (.int x2)]) (w1 := mkM q3.2) (pc2 := 13) (L2 := [some (.ref 0), some (.int x1), some (.int x2), none]) (J2 := []) (rest := []) (fun a => some (.int a.1)) (fun a => mkM a.2) (fun _ _ => rfl) h (fun a ha => k_m_isBridge n (d + 4) _ _ _ ha) (fun q4 _ h => ?_)
    refine bfr_br 1 (pc1 := 16) (L1 := [some (.ref 0), some (.int x1), some (.int x2), none]) (J1 := []) (st1 := []) (w1 := mkM q4.2) (pc2 := 18) (L2 := [some (.ref 0), some (.int x1), some (.int x2), none]) (J2 := []) (st2 := []) (w2 := mkM q4.2) (fun _ _ => rfl) h (fun h => ?_) (fun h => ?_)
    · exact k_m_follow_b16 n d q _ _ _ _ _ h
    · refine bfr_run 3 23 [some (.ref 0), some (.int x1), some (.int x2), none] [] [] ((mkM q4.2).set 0 (.inr (.inr (12, (mkM_0 q4.2).set 40 (.int ci_0))))) (fun _ _ => rfl) ?_
      rw [mkM_I0_40]
      refine bfr_call 4 (d1 := d + 4) (M1 := M_X12_isAtFoot) (vs := [(.ref 0), (.int x1), (.int x2)]) (w1 := mkM (uI q4.2 0 40 ci_0)) (pc2 := 29) (L2 := [some (.ref 0), some (.int x1), some (.int x2), none]) (J2 := []) (rest := []) (fun a => some (.int a.1)) (fun a => mkM a.2) (fun _ _ => rfl) h (fun a ha => k_m_isAtFoot n (d + 3) _ _ _ _ ha) (fun q5 _ h => ?_)
      refine bfr_br 1 (pc1 := 32) (L1 := [some (.ref 0), some (.int x1), some (.int x2), none]) (J1 := []) (st1 := []) (w1 := mkM q5.2) (pc2 := 35) (L2 := [some (.ref 0), some (.int x1), some (.int x2), none]) (J2 := []) (st2 := []) (w2 := mkM q5.2) (fun _ _ => rfl) h (fun h => ?_) (fun h => ?_)
      · cases h
        exact bfr_ret 2 (fun _ _ => rfl)
      · refine bfr_run 2 37 [some (.ref 0), some (.int x1), some (.int x2), some (.int ci_0)] [] [] (mkM q5.2) (fun _ _ => rfl) ?_
        exact k_m_follow_b37 n d q _ _ _ _ _ h
set_option maxRecDepth 100000 in
theorem k_m_nears (n d : Nat) (q : (Int32 × bS)) (x1 : Int32) (x2 : Int32) (σ : bS) (h : m_nears n x1 x2 σ = some q) : bfr MT (d + 0) M_X12_nears 0 [some (.ref 0), some (.int x1), some (.int x2)] [] [] (mkM σ) (some (.int q.1), mkM q.2) := by
  unfold m_nears at h
  refine bfr_in (i := x1) (m := 96) 5 (pc1 := 7) (L1 := [some (.ref 0), some (.int x1), some (.int x2)]) (J1 := []) (st1 := [(.int (sA σ 33 x1)), (.int x2)]) (w1 := mkM σ) (fun _ _ => rfl) h (fun h => ?_)
  refine bfr_br 1 (pc1 := 12) (L1 := [some (.ref 0), some (.int x1), some (.int x2)]) (J1 := []) (st1 := []) (w1 := mkM σ) (pc2 := 10) (L2 := [some (.ref 0), some (.int x1), some (.int x2)]) (J2 := []) (st2 := []) (w2 := mkM σ) (fun _ _ => rfl) h (fun h => ?_) (fun h => ?_)
  · refine bfr_in (i := x1) (m := 96) 5 (pc1 := 19) (L1 := [some (.ref 0), some (.int x1), some (.int x2)]) (J1 := []) (st1 := []) (w1 := ((mkM σ).set 33 (.inl (0, 96, upd (σ.2.1 33) (x1).toNatClampNeg x2)))) (fun _ _ => rfl) h (fun h => ?_)
    rw [mkM_A33]
    exact bfr_bz (mk := mkM) 2 (fun _ _ => rfl) h
  · exact bfr_bz (mk := mkM) 2 (fun _ _ => rfl) h
set_option maxRecDepth 100000 in
theorem k_m_goesOn_b215 (n d : Nat) (r90 : Int32 → Int32 → Int32 → Int32 → Int32 → bS → Option (Int32 × bS)) (q : (Int32 × bS)) (hr90 : ∀ (x1 : Int32) (x2 : Int32) (x3 : Int32) (x4 : Int32) (x5 : Int32) (o6 : Option Value) (o7 : Option Value) (o8 : Option Value) (σ : bS), r90 x1 x2 x3 x4 x5 σ = some q → bfr MT (d + 1) M_X12_goesOn 90 [some (.ref 0), some (.int x1), some (.int x2), some (.int x3), some (.int x4), some (.int x5), o6, o7, o8] [] [] (mkM σ) (some (.int q.1), mkM q.2)) (x1 : Int32) (x2 : Int32) (x3 : Int32) (x4 : Int32) (x5 : Int32) (o6 : Option Value) (o7 : Option Value) (o8 : Option Value) (σ : bS) (h : m_goesOn_b215 n r90 x1 x2 x3 x4 x5 σ = some q) : bfr MT (d + 1) M_X12_goesOn 215 [some (.ref 0), some (.int x1), some (.int x2), some (.int x3), some (.int x4), some (.int x5), o6, o7, o8] [] [] (mkM σ) (some (.int q.1), mkM q.2) := by
  unfold m_goesOn_b215 at h
  refine bfr_run 1 218 [some (.ref 0), some (.int x1), some (.int x2), some (.int x3), some (.int x4), some (.int (x5 + ci_1)), o6, o7, o8] [] [] (mkM σ) (fun _ _ => rfl) ?_
  refine bfr_run 1 90 [some (.ref 0), some (.int x1), some (.int x2), some (.int x3), some (.int x4), some (.int (x5 + ci_1)), o6, o7, o8] [] [] (mkM σ) (fun _ _ => rfl) ?_
  exact hr90 _ _ _ _ _ _ _ _ _ h
set_option maxRecDepth 100000 in
theorem k_m_goesOn_b209 (n d : Nat) (r90 : Int32 → Int32 → Int32 → Int32 → Int32 → bS → Option (Int32 × bS)) (r135 : Int32 → Int32 → Int32 → Int32 → Int32 → Int32 → Int32 → bS → Option (Int32 × bS)) (q : (Int32 × bS)) (hr90 : ∀ (x1 : Int32) (x2 : Int32) (x3 : Int32) (x4 : Int32) (x5 : Int32) (o6 : Option Value) (o7 : Option Value) (o8 : Option Value) (σ : bS), r90 x1 x2 x3 x4 x5 σ = some q → bfr MT (d + 1) M_X12_goesOn 90 [some (.ref 0), some (.int x1), some (.int x2), some (.int x3), some (.int x4), some (.int x5), o6, o7, o8] [] [] (mkM σ) (some (.int q.1), mkM q.2)) (hr135 : ∀ (x1 : Int32) (x2 : Int32) (x3 : Int32) (x4 : Int32) (x5 : Int32) (x6 : Int32) (x7 : Int32) (o8 : Option Value) (σ : bS), r135 x1 x2 x3 x4 x5 x6 x7 σ = some q → bfr MT (d + 1) M_X12_goesOn 135 [some (.ref 0), some (.int x1), some (.int x2), some (.int x3), some (.int x4), some (.int x5), some (.int x6), some (.int x7), o8] [] [] (mkM σ) (some (.int q.1), mkM q.2)) (x1 : Int32) (x2 : Int32) (x3 : Int32) (x4 : Int32) (x5 : Int32) (x6 : Int32) (x7 : Int32) (o8 : Option Value) (σ : bS) (h : m_goesOn_b209 n r90 r135 x1 x2 x3 x4 x5 x6 x7 σ = some q) : bfr MT (d + 1) M_X12_goesOn 209 [some (.ref 0), some (.int x1), some (.int x2), some (.int x3), some (.int x4), some (.int x5), some (.int x6), some (.int x7), o8] [] [] (mkM σ) (some (.int q.1), mkM q.2) := by
  unfold m_goesOn_b209 at h
  refine bfr_run 1 212 [some (.ref 0), some (.int x1), some (.int x2), some (.int x3), some (.int x4), some (.int x5), some (.int x6), some (.int (x7 + ci_1)), o8] [] [] (mkM σ) (fun _ _ => rfl) ?_
  refine bfr_run 1 135 [some (.ref 0), some (.int x1), some (.int x2), some (.int x3), some (.int x4), some (.int x5), some (.int x6), some (.int (x7 + ci_1)), o8] [] [] (mkM σ) (fun _ _ => rfl) ?_
  exact hr135 _ _ _ _ _ _ _ _ _ h
set_option maxRecDepth 100000 in
theorem k_m_goesOn_b170 (n d : Nat) (r90 : Int32 → Int32 → Int32 → Int32 → Int32 → bS → Option (Int32 × bS)) (r135 : Int32 → Int32 → Int32 → Int32 → Int32 → Int32 → Int32 → bS → Option (Int32 × bS)) (q : (Int32 × bS)) (hr90 : ∀ (x1 : Int32) (x2 : Int32) (x3 : Int32) (x4 : Int32) (x5 : Int32) (o6 : Option Value) (o7 : Option Value) (o8 : Option Value) (σ : bS), r90 x1 x2 x3 x4 x5 σ = some q → bfr MT (d + 1) M_X12_goesOn 90 [some (.ref 0), some (.int x1), some (.int x2), some (.int x3), some (.int x4), some (.int x5), o6, o7, o8] [] [] (mkM σ) (some (.int q.1), mkM q.2)) (hr135 : ∀ (x1 : Int32) (x2 : Int32) (x3 : Int32) (x4 : Int32) (x5 : Int32) (x6 : Int32) (x7 : Int32) (o8 : Option Value) (σ : bS), r135 x1 x2 x3 x4 x5 x6 x7 σ = some q → bfr MT (d + 1) M_X12_goesOn 135 [some (.ref 0), some (.int x1), some (.int x2), some (.int x3), some (.int x4), some (.int x5), some (.int x6), some (.int x7), o8] [] [] (mkM σ) (some (.int q.1), mkM q.2)) (x1 : Int32) (x2 : Int32) (x3 : Int32) (x4 : Int32) (x5 : Int32) (x6 : Int32) (x7 : Int32) (s0 : Int32) (o8 : Option Value) (σ : bS) (h : m_goesOn_b170 n r90 r135 x1 x2 x3 x4 x5 x6 x7 s0 σ = some q) : bfr MT (d + 1) M_X12_goesOn 170 [some (.ref 0), some (.int x1), some (.int x2), some (.int x3), some (.int x4), some (.int x5), some (.int x6), some (.int x7), o8] [] [(.int s0)] (mkM σ) (some (.int q.1), mkM q.2) := by
  unfold m_goesOn_b170 at h
  refine bfr_br 3 (pc1 := 209) (L1 := [some (.ref 0), some (.int x1), some (.int x2), some (.int x3), some (.int x4), some (.int x5), some (.int x6), some (.int x7), some (.int s0)]) (J1 := []) (st1 := []) (w1 := mkM σ) (pc2 := 177) (L2 := [some (.ref 0), some (.int x1), some (.int x2), some (.int x3), some (.int x4), some (.int x5), some (.int x6), some (.int x7), some (.int s0)]) (J2 := []) (st2 := []) (w2 := mkM σ) (fun _ _ => rfl) h (fun h => ?_) (fun h => ?_)
  · exact k_m_goesOn_b209 n d _ _ q hr90 hr135 _ _ _ _ _ _ _ _ _ h
  · refine bfr_run 6 185 [some (.ref 0), some (.int x1), some (.int x2), some (.int x3), some (.int x4), some (.int x5), some (.int x6), some (.int x7), some (.int s0)] [] [(.int ci_1), (.int x3), (.int (cb_16 * x7)), (.ref 0)] (mkM σ) (fun _ _ => rfl) ?_
    refine bfr_run 6 194 [some (.ref 0), some (.int x1), some (.int x2), some (.int x3), some (.int x4), some (.int x5), some (.int x6), some (.int x7), some (.int s0)] [] [(.ref 33), (.int ((cb_16 * x7) + (x3 ||| (ci_1 <<< (x5 &&& 31))))), (.ref 0)] (mkM σ) (fun _ _ => rfl) ?_
    refine bfr_in (i := x1) (m := 96) 2 (pc1 := 196) (L1 := [some (.ref 0), some (.int x1), some (.int x2), some (.int x3), some (.int x4), some (.int x5), some (.int x6), some (.int x7), some (.int s0)]) (J1 := []) (st1 := [(.int (sA σ 33 x1)), (.int ((cb_16 * x7) + (x3 ||| (ci_1 <<< (x5 &&& 31))))), (.ref 0)]) (w1 := mkM σ) (fun _ _ => rfl) h (fun h => ?_)
    refine bfr_call 3 (d1 := d + 0) (M1 := M_X12_nears) (vs := [(.ref 0), (.int ((cb_16 * x7) + (x3 ||| (ci_1 <<< (x5 &&& 31))))), (.int ((sA σ 33 x1) + cs_1001))]) (w1 := mkM σ) (pc2 := 203) (L2 := [some (.ref 0), some (.int x1), some (.int x2), some (.int x3), some (.int x4), some (.int x5), some (.int x6), some (.int x7), some (.int s0)]) (J2 := []) (rest := []) (fun a => some (.int a.1)) (fun a => mkM a.2) (fun _ _ => rfl) h (fun a ha => k_m_nears n (d + 0) _ _ _ _ ha) (fun q1 _ h => ?_)
    refine bfr_br 1 (pc1 := 209) (L1 := [some (.ref 0), some (.int x1), some (.int x2), some (.int x3), some (.int x4), some (.int x5), some (.int x6), some (.int x7), some (.int s0)]) (J1 := []) (st1 := []) (w1 := mkM q1.2) (pc2 := 206) (L2 := [some (.ref 0), some (.int x1), some (.int x2), some (.int x3), some (.int x4), some (.int x5), some (.int x6), some (.int x7), some (.int s0)]) (J2 := []) (st2 := []) (w2 := mkM q1.2) (fun _ _ => rfl) h (fun h => ?_) (fun h => ?_)
    · exact k_m_goesOn_b209 n d _ _ q hr90 hr135 _ _ _ _ _ _ _ _ _ h
    · refine bfr_run 2 209 [some (.ref 0), some (.int x1), some (.int x2), some (.int x3), some (.int ci_1), some (.int x5), some (.int x6), some (.int x7), some (.int s0)] [] [] (mkM q1.2) (fun _ _ => rfl) ?_
      exact k_m_goesOn_b209 n d _ _ q hr90 hr135 _ _ _ _ _ _ _ _ _ h
set_option maxRecDepth 100000 in
theorem k_m_goesOn_b165 (n d : Nat) (r90 : Int32 → Int32 → Int32 → Int32 → Int32 → bS → Option (Int32 × bS)) (r135 : Int32 → Int32 → Int32 → Int32 → Int32 → Int32 → Int32 → bS → Option (Int32 × bS)) (q : (Int32 × bS)) (hr90 : ∀ (x1 : Int32) (x2 : Int32) (x3 : Int32) (x4 : Int32) (x5 : Int32) (o6 : Option Value) (o7 : Option Value) (o8 : Option Value) (σ : bS), r90 x1 x2 x3 x4 x5 σ = some q → bfr MT (d + 1) M_X12_goesOn 90 [some (.ref 0), some (.int x1), some (.int x2), some (.int x3), some (.int x4), some (.int x5), o6, o7, o8] [] [] (mkM σ) (some (.int q.1), mkM q.2)) (hr135 : ∀ (x1 : Int32) (x2 : Int32) (x3 : Int32) (x4 : Int32) (x5 : Int32) (x6 : Int32) (x7 : Int32) (o8 : Option Value) (σ : bS), r135 x1 x2 x3 x4 x5 x6 x7 σ = some q → bfr MT (d + 1) M_X12_goesOn 135 [some (.ref 0), some (.int x1), some (.int x2), some (.int x3), some (.int x4), some (.int x5), some (.int x6), some (.int x7), o8] [] [] (mkM σ) (some (.int q.1), mkM q.2)) (x1 : Int32) (x2 : Int32) (x3 : Int32) (x4 : Int32) (x5 : Int32) (x6 : Int32) (x7 : Int32) (o8 : Option Value) (σ : bS) (h : m_goesOn_b165 n r90 r135 x1 x2 x3 x4 x5 x6 x7 σ = some q) : bfr MT (d + 1) M_X12_goesOn 165 [some (.ref 0), some (.int x1), some (.int x2), some (.int x3), some (.int x4), some (.int x5), some (.int x6), some (.int x7), o8] [] [] (mkM σ) (some (.int q.1), mkM q.2) := by
  unfold m_goesOn_b165 at h
  refine bfr_run 2 170 [some (.ref 0), some (.int x1), some (.int x2), some (.int x3), some (.int x4), some (.int x5), some (.int x6), some (.int x7), o8] [] [(.int ci_1)] (mkM σ) (fun _ _ => rfl) ?_
  exact k_m_goesOn_b170 n d _ _ q hr90 hr135 _ _ _ _ _ _ _ _ _ _ h
set_option maxRecDepth 100000 in
theorem k_m_goesOn_b135 (n d : Nat) (r90 : Int32 → Int32 → Int32 → Int32 → Int32 → bS → Option (Int32 × bS)) (q : (Int32 × bS)) (hr90 : ∀ (x1 : Int32) (x2 : Int32) (x3 : Int32) (x4 : Int32) (x5 : Int32) (o6 : Option Value) (o7 : Option Value) (o8 : Option Value) (σ : bS), r90 x1 x2 x3 x4 x5 σ = some q → bfr MT (d + 1) M_X12_goesOn 90 [some (.ref 0), some (.int x1), some (.int x2), some (.int x3), some (.int x4), some (.int x5), o6, o7, o8] [] [] (mkM σ) (some (.int q.1), mkM q.2)) : ∀ (k : Nat) (x1 : Int32) (x2 : Int32) (x3 : Int32) (x4 : Int32) (x5 : Int32) (x6 : Int32) (x7 : Int32) (o8 : Option Value) (σ : bS), m_goesOn_b135 n r90 k x1 x2 x3 x4 x5 x6 x7 σ = some q → bfr MT (d + 1) M_X12_goesOn 135 [some (.ref 0), some (.int x1), some (.int x2), some (.int x3), some (.int x4), some (.int x5), some (.int x6), some (.int x7), o8] [] [] (mkM σ) (some (.int q.1), mkM q.2) := by
  intro k
  induction k with
  | zero => intro x1 x2 x3 x4 x5 x6 x7 o8 σ h; exact bno h
  | succ k ih =>
    intro x1 x2 x3 x4 x5 x6 x7 o8 σ h
    unfold m_goesOn_b135 at h
    refine bfr_in (i := ci_0) (m := 2) 5 (pc1 := 143) (L1 := [some (.ref 0), some (.int x1), some (.int x2), some (.int x3), some (.int x4), some (.int x5), some (.int x6), some (.int x7), o8]) (J1 := []) (st1 := [(.int (sA σ 12 ci_0)), (.int x7)]) (w1 := mkM σ) (fun _ _ => rfl) h (fun h => ?_)
    refine bfr_br 1 (pc1 := 215) (L1 := [some (.ref 0), some (.int x1), some (.int x2), some (.int x3), some (.int x4), some (.int x5), some (.int x6), some (.int x7), o8]) (J1 := []) (st1 := []) (w1 := mkM σ) (pc2 := 146) (L2 := [some (.ref 0), some (.int x1), some (.int x2), some (.int x3), some (.int x4), some (.int x5), some (.int x6), some (.int x7), o8]) (J2 := []) (st2 := []) (w2 := mkM σ) (fun _ _ => rfl) h (fun h => ?_) (fun h => ?_)
    · exact k_m_goesOn_b215 n d _ q hr90 _ _ _ _ _ _ _ _ _ h
    · refine bfr_br 2 (pc1 := 151) (L1 := [some (.ref 0), some (.int x1), some (.int x2), some (.int x3), some (.int x4), some (.int x5), some (.int x6), some (.int x7), o8]) (J1 := []) (st1 := []) (w1 := mkM σ) (pc2 := 165) (L2 := [some (.ref 0), some (.int x1), some (.int x2), some (.int x3), some (.int x4), some (.int x5), some (.int x6), some (.int x7), o8]) (J2 := []) (st2 := []) (w2 := mkM σ) (fun _ _ => rfl) h (fun h => ?_) (fun h => ?_)
      · refine bfr_in (i := (ci_1 + x5)) (m := 2208) 6 (pc1 := 160) (L1 := [some (.ref 0), some (.int x1), some (.int x2), some (.int x3), some (.int x4), some (.int x5), some (.int x6), some (.int x7), o8]) (J1 := []) (st1 := [(.int (sA σ 29 (ci_1 + x5)))]) (w1 := mkM σ) (fun _ _ => rfl) h (fun h => ?_)
        refine bfr_br 2 (pc1 := 165) (L1 := [some (.ref 0), some (.int x1), some (.int x2), some (.int x3), some (.int x4), some (.int x5), some (.int x6), some (.int x7), o8]) (J1 := []) (st1 := []) (w1 := mkM σ) (pc2 := 169) (L2 := [some (.ref 0), some (.int x1), some (.int x2), some (.int x3), some (.int x4), some (.int x5), some (.int x6), some (.int x7), o8]) (J2 := []) (st2 := []) (w2 := mkM σ) (fun _ _ => rfl) h (fun h => ?_) (fun h => ?_)
        · exact k_m_goesOn_b165 n d _ _ q hr90 (ih) _ _ _ _ _ _ _ _ _ h
        · refine bfr_run 1 170 [some (.ref 0), some (.int x1), some (.int x2), some (.int x3), some (.int x4), some (.int x5), some (.int x6), some (.int x7), o8] [] [(.int ci_0)] (mkM σ) (fun _ _ => rfl) ?_
          exact k_m_goesOn_b170 n d _ _ q hr90 (ih) _ _ _ _ _ _ _ _ _ _ h
      · exact k_m_goesOn_b165 n d _ _ q hr90 (ih) _ _ _ _ _ _ _ _ _ h
set_option maxRecDepth 100000 in
theorem k_m_goesOn_b130 (n d : Nat) (r90 : Int32 → Int32 → Int32 → Int32 → Int32 → bS → Option (Int32 × bS)) (q : (Int32 × bS)) (hr90 : ∀ (x1 : Int32) (x2 : Int32) (x3 : Int32) (x4 : Int32) (x5 : Int32) (o6 : Option Value) (o7 : Option Value) (o8 : Option Value) (σ : bS), r90 x1 x2 x3 x4 x5 σ = some q → bfr MT (d + 1) M_X12_goesOn 90 [some (.ref 0), some (.int x1), some (.int x2), some (.int x3), some (.int x4), some (.int x5), o6, o7, o8] [] [] (mkM σ) (some (.int q.1), mkM q.2)) (x1 : Int32) (x2 : Int32) (x3 : Int32) (x4 : Int32) (x5 : Int32) (s0 : Int32) (o6 : Option Value) (o7 : Option Value) (o8 : Option Value) (σ : bS) (h : m_goesOn_b130 n r90 x1 x2 x3 x4 x5 s0 σ = some q) : bfr MT (d + 1) M_X12_goesOn 130 [some (.ref 0), some (.int x1), some (.int x2), some (.int x3), some (.int x4), some (.int x5), o6, o7, o8] [] [(.int s0)] (mkM σ) (some (.int q.1), mkM q.2) := by
  unfold m_goesOn_b130 at h
  refine bfr_run 3 135 [some (.ref 0), some (.int x1), some (.int x2), some (.int x3), some (.int x4), some (.int x5), some (.int s0), some (.int ci_0), o8] [] [] (mkM σ) (fun _ _ => rfl) ?_
  exact k_m_goesOn_b135 n d _ q hr90 _ _ _ _ _ _ _ _ _ _ h
set_option maxRecDepth 100000 in
theorem k_m_goesOn_b90 (n d : Nat) (q : (Int32 × bS)) : ∀ (k : Nat) (x1 : Int32) (x2 : Int32) (x3 : Int32) (x4 : Int32) (x5 : Int32) (o6 : Option Value) (o7 : Option Value) (o8 : Option Value) (σ : bS), m_goesOn_b90 n k x1 x2 x3 x4 x5 σ = some q → bfr MT (d + 1) M_X12_goesOn 90 [some (.ref 0), some (.int x1), some (.int x2), some (.int x3), some (.int x4), some (.int x5), o6, o7, o8] [] [] (mkM σ) (some (.int q.1), mkM q.2) := by
  intro k
  induction k with
  | zero => intro x1 x2 x3 x4 x5 o6 o7 o8 σ h; exact bno h
  | succ k ih =>
    intro x1 x2 x3 x4 x5 o6 o7 o8 σ h
    unfold m_goesOn_b90 at h
    refine bfr_in (i := ci_0) (m := 2) 5 (pc1 := 98) (L1 := [some (.ref 0), some (.int x1), some (.int x2), some (.int x3), some (.int x4), some (.int x5), o6, o7, o8]) (J1 := []) (st1 := [(.int (sA σ 17 ci_0)), (.int x5)]) (w1 := mkM σ) (fun _ _ => rfl) h (fun h => ?_)
    refine bfr_br 1 (pc1 := 221) (L1 := [some (.ref 0), some (.int x1), some (.int x2), some (.int x3), some (.int x4), some (.int x5), o6, o7, o8]) (J1 := []) (st1 := []) (w1 := mkM σ) (pc2 := 101) (L2 := [some (.ref 0), some (.int x1), some (.int x2), some (.int x3), some (.int x4), some (.int x5), o6, o7, o8]) (J2 := []) (st2 := []) (w2 := mkM σ) (fun _ _ => rfl) h (fun h => ?_) (fun h => ?_)
    · exact bfr_bz (mk := mkM) 2 (fun _ _ => rfl) h
    · refine bfr_in (i := x5) (m := 8) 4 (pc1 := 108) (L1 := [some (.ref 0), some (.int x1), some (.int x2), some (.int x3), some (.int x4), some (.int x5), o6, o7, o8]) (J1 := []) (st1 := [(.int (sA σ 18 x5))]) (w1 := mkM σ) (fun _ _ => rfl) h (fun h => ?_)
      refine bfr_br 2 (pc1 := 115) (L1 := [some (.ref 0), some (.int x1), some (.int x2), some (.int x3), some (.int x4), some (.int x5), o6, o7, o8]) (J1 := []) (st1 := []) (w1 := mkM σ) (pc2 := 112) (L2 := [some (.ref 0), some (.int x1), some (.int x2), some (.int x3), some (.int x4), some (.int x5), o6, o7, o8]) (J2 := []) (st2 := []) (w2 := mkM σ) (fun _ _ => rfl) h (fun h => ?_) (fun h => ?_)
      · refine bfr_run 6 122 [some (.ref 0), some (.int x1), some (.int x2), some (.int x3), some (.int x4), some (.int x5), o6, o7, o8] [] [(.int ci_1), (.int ((x3 >>> (x5 &&& 31)) &&& ci_1))] (mkM σ) (fun _ _ => rfl) ?_
        refine bfr_br 1 (pc1 := 125) (L1 := [some (.ref 0), some (.int x1), some (.int x2), some (.int x3), some (.int x4), some (.int x5), o6, o7, o8]) (J1 := []) (st1 := []) (w1 := mkM σ) (pc2 := 129) (L2 := [some (.ref 0), some (.int x1), some (.int x2), some (.int x3), some (.int x4), some (.int x5), o6, o7, o8]) (J2 := []) (st2 := []) (w2 := mkM σ) (fun _ _ => rfl) h (fun h => ?_) (fun h => ?_)
        · refine bfr_run 2 130 [some (.ref 0), some (.int x1), some (.int x2), some (.int x3), some (.int x4), some (.int x5), o6, o7, o8] [] [(.int ci_1)] (mkM σ) (fun _ _ => rfl) ?_
          exact k_m_goesOn_b130 n d _ q (ih) _ _ _ _ _ _ _ _ _ _ h
        · refine bfr_run 1 130 [some (.ref 0), some (.int x1), some (.int x2), some (.int x3), some (.int x4), some (.int x5), o6, o7, o8] [] [(.int ci_0)] (mkM σ) (fun _ _ => rfl) ?_
          exact k_m_goesOn_b130 n d _ q (ih) _ _ _ _ _ _ _ _ _ _ h
      · refine bfr_run 1 215 [some (.ref 0), some (.int x1), some (.int x2), some (.int x3), some (.int x4), some (.int x5), o6, o7, o8] [] [] (mkM σ) (fun _ _ => rfl) ?_
        exact k_m_goesOn_b215 n d _ q (ih) _ _ _ _ _ _ _ _ _ h
set_option maxRecDepth 100000 in
theorem k_m_goesOn_b81 (n d : Nat) (r16 : Int32 → Int32 → Int32 → Int32 → Int32 → bS → Option (Int32 × bS)) (q : (Int32 × bS)) (hr16 : ∀ (x1 : Int32) (x2 : Int32) (x3 : Int32) (x4 : Int32) (x5 : Int32) (o6 : Option Value) (o7 : Option Value) (o8 : Option Value) (σ : bS), r16 x1 x2 x3 x4 x5 σ = some q → bfr MT (d + 1) M_X12_goesOn 16 [some (.ref 0), some (.int x1), some (.int x2), some (.int x3), some (.int x4), some (.int x5), o6, o7, o8] [] [] (mkM σ) (some (.int q.1), mkM q.2)) (x1 : Int32) (x2 : Int32) (x3 : Int32) (x4 : Int32) (x5 : Int32) (o6 : Option Value) (o7 : Option Value) (o8 : Option Value) (σ : bS) (h : m_goesOn_b81 n r16 x1 x2 x3 x4 x5 σ = some q) : bfr MT (d + 1) M_X12_goesOn 81 [some (.ref 0), some (.int x1), some (.int x2), some (.int x3), some (.int x4), some (.int x5), o6, o7, o8] [] [] (mkM σ) (some (.int q.1), mkM q.2) := by
  unfold m_goesOn_b81 at h
  refine bfr_run 1 84 [some (.ref 0), some (.int x1), some (.int x2), some (.int x3), some (.int x4), some (.int (x5 + ci_1)), o6, o7, o8] [] [] (mkM σ) (fun _ _ => rfl) ?_
  refine bfr_run 1 16 [some (.ref 0), some (.int x1), some (.int x2), some (.int x3), some (.int x4), some (.int (x5 + ci_1)), o6, o7, o8] [] [] (mkM σ) (fun _ _ => rfl) ?_
  exact hr16 _ _ _ _ _ _ _ _ _ h
set_option maxRecDepth 100000 in
theorem k_m_goesOn_b44 (n d : Nat) (r16 : Int32 → Int32 → Int32 → Int32 → Int32 → bS → Option (Int32 × bS)) (q : (Int32 × bS)) (hr16 : ∀ (x1 : Int32) (x2 : Int32) (x3 : Int32) (x4 : Int32) (x5 : Int32) (o6 : Option Value) (o7 : Option Value) (o8 : Option Value) (σ : bS), r16 x1 x2 x3 x4 x5 σ = some q → bfr MT (d + 1) M_X12_goesOn 16 [some (.ref 0), some (.int x1), some (.int x2), some (.int x3), some (.int x4), some (.int x5), o6, o7, o8] [] [] (mkM σ) (some (.int q.1), mkM q.2)) (x1 : Int32) (x2 : Int32) (x3 : Int32) (x4 : Int32) (x5 : Int32) (s0 : Int32) (o6 : Option Value) (o7 : Option Value) (o8 : Option Value) (σ : bS) (h : m_goesOn_b44 n r16 x1 x2 x3 x4 x5 s0 σ = some q) : bfr MT (d + 1) M_X12_goesOn 44 [some (.ref 0), some (.int x1), some (.int x2), some (.int x3), some (.int x4), some (.int x5), o6, o7, o8] [] [(.int s0)] (mkM σ) (some (.int q.1), mkM q.2) := by
  unfold m_goesOn_b44 at h
  refine bfr_br 3 (pc1 := 81) (L1 := [some (.ref 0), some (.int x1), some (.int x2), some (.int x3), some (.int x4), some (.int x5), some (.int s0), o7, o8]) (J1 := []) (st1 := []) (w1 := mkM σ) (pc2 := 51) (L2 := [some (.ref 0), some (.int x1), some (.int x2), some (.int x3), some (.int x4), some (.int x5), some (.int s0), o7, o8]) (J2 := []) (st2 := []) (w2 := mkM σ) (fun _ _ => rfl) h (fun h => ?_) (fun h => ?_)
  · exact k_m_goesOn_b81 n d _ q hr16 _ _ _ _ _ _ _ _ _ h
  · refine bfr_run 6 59 [some (.ref 0), some (.int x1), some (.int x2), some (.int x3), some (.int x4), some (.int x5), some (.int s0), o7, o8] [] [(.int ((cb_16 * x5) + x3)), (.ref 0)] (mkM σ) (fun _ _ => rfl) ?_
    refine bfr_in (i := x1) (m := 96) 4 (pc1 := 65) (L1 := [some (.ref 0), some (.int x1), some (.int x2), some (.int x3), some (.int x4), some (.int x5), some (.int s0), o7, o8]) (J1 := []) (st1 := [(.int (sA σ 33 x1)), (.int ((cb_16 * x5) + x3)), (.ref 0)]) (w1 := mkM σ) (fun _ _ => rfl) h (fun h => ?_)
    refine bfr_call 5 (d1 := d + 0) (M1 := M_X12_nears) (vs := [(.ref 0), (.int ((cb_16 * x5) + x3)), (.int ((sA σ 33 x1) + (cs_1000 * s0)))]) (w1 := mkM σ) (pc2 := 75) (L2 := [some (.ref 0), some (.int x1), some (.int x2), some (.int x3), some (.int x4), some (.int x5), some (.int s0), o7, o8]) (J2 := []) (rest := []) (fun a => some (.int a.1)) (fun a => mkM a.2) (fun _ _ => rfl) h (fun a ha => k_m_nears n (d + 0) _ _ _ _ ha) (fun q2 _ h => ?_)
    refine bfr_br 1 (pc1 := 81) (L1 := [some (.ref 0), some (.int x1), some (.int x2), some (.int x3), some (.int x4), some (.int x5), some (.int s0), o7, o8]) (J1 := []) (st1 := []) (w1 := mkM q2.2) (pc2 := 78) (L2 := [some (.ref 0), some (.int x1), some (.int x2), some (.int x3), some (.int x4), some (.int x5), some (.int s0), o7, o8]) (J2 := []) (st2 := []) (w2 := mkM q2.2) (fun _ _ => rfl) h (fun h => ?_) (fun h => ?_)
    · exact k_m_goesOn_b81 n d _ q hr16 _ _ _ _ _ _ _ _ _ h
    · refine bfr_run 2 81 [some (.ref 0), some (.int x1), some (.int x2), some (.int x3), some (.int ci_1), some (.int x5), some (.int s0), o7, o8] [] [] (mkM q2.2) (fun _ _ => rfl) ?_
      exact k_m_goesOn_b81 n d _ q hr16 _ _ _ _ _ _ _ _ _ h
set_option maxRecDepth 100000 in
theorem k_m_goesOn_b16 (n d : Nat) (q : (Int32 × bS)) : ∀ (k : Nat) (x1 : Int32) (x2 : Int32) (x3 : Int32) (x4 : Int32) (x5 : Int32) (o6 : Option Value) (o7 : Option Value) (o8 : Option Value) (σ : bS), m_goesOn_b16 n k x1 x2 x3 x4 x5 σ = some q → bfr MT (d + 1) M_X12_goesOn 16 [some (.ref 0), some (.int x1), some (.int x2), some (.int x3), some (.int x4), some (.int x5), o6, o7, o8] [] [] (mkM σ) (some (.int q.1), mkM q.2) := by
  intro k
  induction k with
  | zero => intro x1 x2 x3 x4 x5 o6 o7 o8 σ h; exact bno h
  | succ k ih =>
    intro x1 x2 x3 x4 x5 o6 o7 o8 σ h
    unfold m_goesOn_b16 at h
    refine bfr_in (i := ci_0) (m := 2) 5 (pc1 := 24) (L1 := [some (.ref 0), some (.int x1), some (.int x2), some (.int x3), some (.int x4), some (.int x5), o6, o7, o8]) (J1 := []) (st1 := [(.int (sA σ 12 ci_0)), (.int x5)]) (w1 := mkM σ) (fun _ _ => rfl) h (fun h => ?_)
    refine bfr_br 1 (pc1 := 87) (L1 := [some (.ref 0), some (.int x1), some (.int x2), some (.int x3), some (.int x4), some (.int x5), o6, o7, o8]) (J1 := []) (st1 := []) (w1 := mkM σ) (pc2 := 27) (L2 := [some (.ref 0), some (.int x1), some (.int x2), some (.int x3), some (.int x4), some (.int x5), o6, o7, o8]) (J2 := []) (st2 := []) (w2 := mkM σ) (fun _ _ => rfl) h (fun h => ?_) (fun h => ?_)
    · refine bfr_run 2 90 [some (.ref 0), some (.int x1), some (.int x2), some (.int x3), some (.int x4), some (.int ci_0), o6, o7, o8] [] [] (mkM σ) (fun _ _ => rfl) ?_
      exact k_m_goesOn_b90 n d q _ _ _ _ _ _ _ _ _ _ h
    · refine bfr_br 3 (pc1 := 33) (L1 := [some (.ref 0), some (.int x1), some (.int x2), some (.int x3), some (.int x4), some (.int x5), o6, o7, o8]) (J1 := []) (st1 := []) (w1 := mkM σ) (pc2 := 37) (L2 := [some (.ref 0), some (.int x1), some (.int x2), some (.int x3), some (.int x4), some (.int x5), o6, o7, o8]) (J2 := []) (st2 := []) (w2 := mkM σ) (fun _ _ => rfl) h (fun h => ?_) (fun h => ?_)
      · refine bfr_run 2 44 [some (.ref 0), some (.int x1), some (.int x2), some (.int x3), some (.int x4), some (.int x5), o6, o7, o8] [] [(.int ci_0)] (mkM σ) (fun _ _ => rfl) ?_
        exact k_m_goesOn_b44 n d _ q (ih) _ _ _ _ _ _ _ _ _ _ h
      · refine bfr_call 4 (d1 := d + 0) (M1 := M_X12_pathOf) (vs := [(.ref 0), (.int x2), (.int x5)]) (w1 := mkM σ) (pc2 := 44) (L2 := [some (.ref 0), some (.int x1), some (.int x2), some (.int x3), some (.int x4), some (.int x5), o6, o7, o8]) (J2 := []) (rest := []) (fun a => some (.int a.1)) (fun a => mkM a.2) (fun _ _ => rfl) h (fun a ha => k_m_pathOf n (d + 0) _ _ _ _ ha) (fun q3 _ h => ?_)
        exact k_m_goesOn_b44 n d _ q (ih) _ _ _ _ _ _ _ _ _ _ h
set_option maxRecDepth 100000 in
theorem k_m_goesOn (n d : Nat) (q : (Int32 × bS)) (x1 : Int32) (σ : bS) (h : m_goesOn n x1 σ = some q) : bfr MT (d + 1) M_X12_goesOn 0 [some (.ref 0), some (.int x1), none, none, none, none, none, none, none] [] [] (mkM σ) (some (.int q.1), mkM q.2) := by
  unfold m_goesOn at h
  refine bfr_chk 3 (pc1 := 4) (L1 := [some (.ref 0), some (.int x1), none, none, none, none, none, none, none]) (J1 := []) (st1 := [(.int (x1 / cb_16))]) (w1 := mkM σ) (fun _ _ => rfl) h (fun h => ?_)
  refine bfr_chk 4 (pc1 := 9) (L1 := [some (.ref 0), some (.int x1), some (.int (x1 / cb_16)), none, none, none, none, none, none]) (J1 := []) (st1 := [(.int (brem x1 cb_16))]) (w1 := mkM σ) (fun _ _ => rfl) h (fun h => ?_)
  refine bfr_run 5 16 [some (.ref 0), some (.int x1), some (.int (x1 / cb_16)), some (.int (brem x1 cb_16)), some (.int ci_0), some (.int ci_0), none, none, none] [] [] (mkM σ) (fun _ _ => rfl) ?_
  exact k_m_goesOn_b16 n d q _ _ _ _ _ _ _ _ _ _ h
set_option maxRecDepth 100000 in
theorem k_m_laysFar_b71 (n d : Nat) (r35 : Int32 → bS → Option bS) (r43 : Int32 → Int32 → bS → Option bS) (q : bS) (hr35 : ∀ (x2 : Int32) (o1 : Option Value) (o3 : Option Value) (σ : bS), r35 x2 σ = some q → bfr MT (d + 2) M_X12_laysFar 35 [some (.ref 0), o1, some (.int x2), o3] [] [] (mkM σ) (none, mkM q)) (hr43 : ∀ (x2 : Int32) (x3 : Int32) (o1 : Option Value) (σ : bS), r43 x2 x3 σ = some q → bfr MT (d + 2) M_X12_laysFar 43 [some (.ref 0), o1, some (.int x2), some (.int x3)] [] [] (mkM σ) (none, mkM q)) (x2 : Int32) (x3 : Int32) (o1 : Option Value) (σ : bS) (h : m_laysFar_b71 n r35 r43 x2 x3 σ = some q) : bfr MT (d + 2) M_X12_laysFar 71 [some (.ref 0), o1, some (.int x2), some (.int x3)] [] [] (mkM σ) (none, mkM q) := by
  unfold m_laysFar_b71 at h
  refine bfr_run 1 74 [some (.ref 0), o1, some (.int x2), some (.int (x3 + ci_1))] [] [] (mkM σ) (fun _ _ => rfl) ?_
  refine bfr_run 1 43 [some (.ref 0), o1, some (.int x2), some (.int (x3 + ci_1))] [] [] (mkM σ) (fun _ _ => rfl) ?_
  exact hr43 _ _ _ _ h
set_option maxRecDepth 100000 in
theorem k_m_laysFar_b43 (n d : Nat) (r35 : Int32 → bS → Option bS) (q : bS) (hr35 : ∀ (x2 : Int32) (o1 : Option Value) (o3 : Option Value) (σ : bS), r35 x2 σ = some q → bfr MT (d + 2) M_X12_laysFar 35 [some (.ref 0), o1, some (.int x2), o3] [] [] (mkM σ) (none, mkM q)) : ∀ (k : Nat) (x2 : Int32) (x3 : Int32) (o1 : Option Value) (σ : bS), m_laysFar_b43 n r35 k x2 x3 σ = some q → bfr MT (d + 2) M_X12_laysFar 43 [some (.ref 0), o1, some (.int x2), some (.int x3)] [] [] (mkM σ) (none, mkM q) := by
  intro k
  induction k with
  | zero => intro x2 x3 o1 σ h; exact bno h
  | succ k ih =>
    intro x2 x3 o1 σ h
    unfold m_laysFar_b43 at h
    refine bfr_br 3 (pc1 := 77) (L1 := [some (.ref 0), o1, some (.int x2), some (.int x3)]) (J1 := []) (st1 := []) (w1 := mkM σ) (pc2 := 49) (L2 := [some (.ref 0), o1, some (.int x2), some (.int x3)]) (J2 := []) (st2 := []) (w2 := mkM σ) (fun _ _ => rfl) h (fun h => ?_) (fun h => ?_)
    · refine bfr_run 1 35 [some (.ref 0), o1, some (.int x2), some (.int x3)] [] [] (mkM σ) (fun _ _ => rfl) ?_
      exact hr35 _ _ _ _ h
    · refine bfr_in (i := x3) (m := 96) 4 (pc1 := 55) (L1 := [some (.ref 0), o1, some (.int x2), some (.int x3)]) (J1 := []) (st1 := [(.int (sA σ 33 x3))]) (w1 := mkM σ) (fun _ _ => rfl) h (fun h => ?_)
      refine bfr_br 2 (pc1 := 71) (L1 := [some (.ref 0), o1, some (.int x2), some (.int x3)]) (J1 := []) (st1 := []) (w1 := mkM σ) (pc2 := 61) (L2 := [some (.ref 0), o1, some (.int x2), some (.int x3)]) (J2 := []) (st2 := []) (w2 := mkM σ) (fun _ _ => rfl) h (fun h => ?_) (fun h => ?_)
      · exact k_m_laysFar_b71 n d _ _ q hr35 (ih) _ _ _ _ h
      · refine bfr_call 3 (d1 := d + 1) (M1 := M_X12_goesOn) (vs := [(.ref 0), (.int x3)]) (w1 := mkM σ) (pc2 := 66) (L2 := [some (.ref 0), o1, some (.int x2), some (.int x3)]) (J2 := []) (rest := []) (fun a => some (.int a.1)) (fun a => mkM a.2) (fun _ _ => rfl) h (fun a ha => k_m_goesOn n (d + 0) _ _ _ ha) (fun q1 _ h => ?_)
        refine bfr_br 1 (pc1 := 71) (L1 := [some (.ref 0), o1, some (.int x2), some (.int x3)]) (J1 := []) (st1 := []) (w1 := mkM q1.2) (pc2 := 69) (L2 := [some (.ref 0), o1, some (.int x2), some (.int x3)]) (J2 := []) (st2 := []) (w2 := mkM q1.2) (fun _ _ => rfl) h (fun h => ?_) (fun h => ?_)
        · exact k_m_laysFar_b71 n d _ _ q hr35 (ih) _ _ _ _ h
        · refine bfr_run 2 71 [some (.ref 0), o1, some (.int ci_1), some (.int x3)] [] [] (mkM q1.2) (fun _ _ => rfl) ?_
          exact k_m_laysFar_b71 n d _ _ q hr35 (ih) _ _ _ _ h
set_option maxRecDepth 100000 in
theorem k_m_laysFar_b35 (n d : Nat) (q : bS) : ∀ (k : Nat) (x2 : Int32) (o1 : Option Value) (o3 : Option Value) (σ : bS), m_laysFar_b35 n k x2 σ = some q → bfr MT (d + 2) M_X12_laysFar 35 [some (.ref 0), o1, some (.int x2), o3] [] [] (mkM σ) (none, mkM q) := by
  intro k
  induction k with
  | zero => intro x2 o1 o3 σ h; exact bno h
  | succ k ih =>
    intro x2 o1 o3 σ h
    unfold m_laysFar_b35 at h
    refine bfr_br 2 (pc1 := 80) (L1 := [some (.ref 0), o1, some (.int x2), o3]) (J1 := []) (st1 := []) (w1 := mkM σ) (pc2 := 39) (L2 := [some (.ref 0), o1, some (.int x2), o3]) (J2 := []) (st2 := []) (w2 := mkM σ) (fun _ _ => rfl) h (fun h => ?_) (fun h => ?_)
    · cases h
      exact bfr_ret 1 (fun _ _ => rfl)
    · refine bfr_run 4 43 [some (.ref 0), o1, some (.int ci_0), some (.int ci_0)] [] [] (mkM σ) (fun _ _ => rfl) ?_
      exact k_m_laysFar_b43 n d _ q (ih) _ _ _ _ _ h
set_option maxRecDepth 100000 in
theorem k_m_laysFar_b2 (n d : Nat) (q : bS) : ∀ (k : Nat) (x1 : Int32) (x2 : Int32) (o3 : Option Value) (σ : bS), m_laysFar_b2 n k x1 x2 σ = some q → bfr MT (d + 2) M_X12_laysFar 2 [some (.ref 0), some (.int x1), some (.int x2), o3] [] [] (mkM σ) (none, mkM q) := by
  intro k
  induction k with
  | zero => intro x1 x2 o3 σ h; exact bno h
  | succ k ih =>
    intro x1 x2 o3 σ h
    unfold m_laysFar_b2 at h
    refine bfr_br 3 (pc1 := 23) (L1 := [some (.ref 0), some (.int x1), some (.int x2), o3]) (J1 := []) (st1 := []) (w1 := mkM σ) (pc2 := 8) (L2 := [some (.ref 0), some (.int x1), some (.int x2), o3]) (J2 := []) (st2 := []) (w2 := mkM σ) (fun _ _ => rfl) h (fun h => ?_) (fun h => ?_)
    · refine bfr_run 6 32 [some (.ref 0), some (.int x1), some (.int x2), o3] [] [(.int ci_0), (.int (cb_16 * x1)), (.ref 33)] (mkM σ) (fun _ _ => rfl) ?_
      refine bfr_in (i := (cb_16 * x1)) (m := 96) 1 (pc1 := 33) (L1 := [some (.ref 0), some (.int x1), some (.int x2), o3]) (J1 := []) (st1 := []) (w1 := ((mkM σ).set 33 (.inl (0, 96, upd (σ.2.1 33) ((cb_16 * x1)).toNatClampNeg ci_0)))) (fun _ _ => rfl) h (fun h => ?_)
      rw [mkM_A33]
      refine bfr_run 2 35 [some (.ref 0), some (.int x1), some (.int ci_1), o3] [] [] (mkM (uA σ 33 (cb_16 * x1) ci_0)) (fun _ _ => rfl) ?_
      exact k_m_laysFar_b35 n d q _ _ _ _ _ h
    · refine bfr_in (i := x2) (m := 96) 5 (pc1 := 17) (L1 := [some (.ref 0), some (.int x1), some (.int x2), o3]) (J1 := []) (st1 := []) (w1 := ((mkM σ).set 33 (.inl (0, 96, upd (σ.2.1 33) (x2).toNatClampNeg (1000000 : Int32))))) (fun _ _ => rfl) h (fun h => ?_)
      rw [mkM_A33]
      refine bfr_run 1 20 [some (.ref 0), some (.int x1), some (.int (x2 + ci_1)), o3] [] [] (mkM (uA σ 33 x2 (1000000 : Int32))) (fun _ _ => rfl) ?_
      refine bfr_run 1 2 [some (.ref 0), some (.int x1), some (.int (x2 + ci_1)), o3] [] [] (mkM (uA σ 33 x2 (1000000 : Int32))) (fun _ _ => rfl) ?_
      exact ih _ _ _ _ h
set_option maxRecDepth 100000 in
theorem k_m_laysFar (n d : Nat) (q : bS) (x1 : Int32) (σ : bS) (h : m_laysFar n x1 σ = some q) : bfr MT (d + 2) M_X12_laysFar 0 [some (.ref 0), some (.int x1), none, none] [] [] (mkM σ) (none, mkM q) := by
  unfold m_laysFar at h
  refine bfr_run 2 2 [some (.ref 0), some (.int x1), some (.int ci_0), none] [] [] (mkM σ) (fun _ _ => rfl) ?_
  exact k_m_laysFar_b2 n d q _ _ _ _ _ h
set_option maxRecDepth 100000 in
theorem k_m_nearest_b39 (n d : Nat) (r6 : Int32 → Int32 → Int32 → bS → Option (Int32 × bS)) (q : (Int32 × bS)) (hr6 : ∀ (x1 : Int32) (x2 : Int32) (x3 : Int32) (σ : bS), r6 x1 x2 x3 σ = some q → bfr MT (d + 0) M_X12_nearest 6 [some (.ref 0), some (.int x1), some (.int x2), some (.int x3)] [] [] (mkM σ) (some (.int q.1), mkM q.2)) (x1 : Int32) (x2 : Int32) (x3 : Int32) (σ : bS) (h : m_nearest_b39 n r6 x1 x2 x3 σ = some q) : bfr MT (d + 0) M_X12_nearest 39 [some (.ref 0), some (.int x1), some (.int x2), some (.int x3)] [] [] (mkM σ) (some (.int q.1), mkM q.2) := by
  unfold m_nearest_b39 at h
  refine bfr_run 1 42 [some (.ref 0), some (.int x1), some (.int x2), some (.int (x3 + ci_1))] [] [] (mkM σ) (fun _ _ => rfl) ?_
  refine bfr_run 1 6 [some (.ref 0), some (.int x1), some (.int x2), some (.int (x3 + ci_1))] [] [] (mkM σ) (fun _ _ => rfl) ?_
  exact hr6 _ _ _ _ h
set_option maxRecDepth 100000 in
theorem k_m_nearest_b6 (n d : Nat) (q : (Int32 × bS)) : ∀ (k : Nat) (x1 : Int32) (x2 : Int32) (x3 : Int32) (σ : bS), m_nearest_b6 n k x1 x2 x3 σ = some q → bfr MT (d + 0) M_X12_nearest 6 [some (.ref 0), some (.int x1), some (.int x2), some (.int x3)] [] [] (mkM σ) (some (.int q.1), mkM q.2) := by
  intro k
  induction k with
  | zero => intro x1 x2 x3 σ h; exact bno h
  | succ k ih =>
    intro x1 x2 x3 σ h
    unfold m_nearest_b6 at h
    refine bfr_br 3 (pc1 := 45) (L1 := [some (.ref 0), some (.int x1), some (.int x2), some (.int x3)]) (J1 := []) (st1 := []) (w1 := mkM σ) (pc2 := 12) (L2 := [some (.ref 0), some (.int x1), some (.int x2), some (.int x3)]) (J2 := []) (st2 := []) (w2 := mkM σ) (fun _ _ => rfl) h (fun h => ?_) (fun h => ?_)
    · cases h
      exact bfr_ret 2 (fun _ _ => rfl)
    · refine bfr_run 6 21 [some (.ref 0), some (.int x1), some (.int x2), some (.int x3)] [] [(.int x3), (.int (cb_16 * x1)), (.ref 33)] (mkM σ) (fun _ _ => rfl) ?_
      refine bfr_in (i := ((cb_16 * x1) + x3)) (m := 96) 2 (pc1 := 23) (L1 := [some (.ref 0), some (.int x1), some (.int x2), some (.int x3)]) (J1 := []) (st1 := [(.int (sA σ 33 ((cb_16 * x1) + x3)))]) (w1 := mkM σ) (fun _ _ => rfl) h (fun h => ?_)
      refine bfr_br 2 (pc1 := 39) (L1 := [some (.ref 0), some (.int x1), some (.int x2), some (.int x3)]) (J1 := []) (st1 := []) (w1 := mkM σ) (pc2 := 27) (L2 := [some (.ref 0), some (.int x1), some (.int x2), some (.int x3)]) (J2 := []) (st2 := []) (w2 := mkM σ) (fun _ _ => rfl) h (fun h => ?_) (fun h => ?_)
      · exact k_m_nearest_b39 n d _ q (ih) _ _ _ _ h
      · refine bfr_run 6 36 [some (.ref 0), some (.int x1), some (.int x2), some (.int x3)] [] [(.int x3), (.int (cb_16 * x1)), (.ref 33)] (mkM σ) (fun _ _ => rfl) ?_
        refine bfr_in (i := ((cb_16 * x1) + x3)) (m := 96) 2 (pc1 := 38) (L1 := [some (.ref 0), some (.int x1), some (.int x2), some (.int x3)]) (J1 := []) (st1 := [(.int (sA σ 33 ((cb_16 * x1) + x3)))]) (w1 := mkM σ) (fun _ _ => rfl) h (fun h => ?_)
        refine bfr_run 1 39 [some (.ref 0), some (.int x1), some (.int (sA σ 33 ((cb_16 * x1) + x3))), some (.int x3)] [] [] (mkM σ) (fun _ _ => rfl) ?_
        exact k_m_nearest_b39 n d _ q (ih) _ _ _ _ h
set_option maxRecDepth 100000 in
theorem k_m_nearest (n d : Nat) (q : (Int32 × bS)) (x1 : Int32) (σ : bS) (h : m_nearest n x1 σ = some q) : bfr MT (d + 0) M_X12_nearest 0 [some (.ref 0), some (.int x1), none, none] [] [] (mkM σ) (some (.int q.1), mkM q.2) := by
  unfold m_nearest at h
  refine bfr_run 4 6 [some (.ref 0), some (.int x1), some (.int (1000000 : Int32)), some (.int ci_0)] [] [] (mkM σ) (fun _ _ => rfl) ?_
  exact k_m_nearest_b6 n d q _ _ _ _ _ h
