set_option maxRecDepth 100000 in
theorem k_m_joins_b45 (n d : Nat) (r18 : Int32 → Int32 → Int32 → bS → Option bS) (q : bS) (hr18 : ∀ (x3 : Int32) (x4 : Int32) (x5 : Int32) (o1 : Option Value) (o2 : Option Value) (σ : bS), r18 x3 x4 x5 σ = some q → bfr MT (d + 0) M_X12_joins 18 [some (.ref 0), o1, o2, some (.int x3), some (.int x4), some (.int x5)] [] [] (mkM σ) (none, mkM q)) (x3 : Int32) (x4 : Int32) (x5 : Int32) (o1 : Option Value) (o2 : Option Value) (σ : bS) (h : m_joins_b45 n r18 x3 x4 x5 σ = some q) : bfr MT (d + 0) M_X12_joins 45 [some (.ref 0), o1, o2, some (.int x3), some (.int x4), some (.int x5)] [] [] (mkM σ) (none, mkM q) := by
  unfold m_joins_b45 at h
  refine bfr_run 1 48 [some (.ref 0), o1, o2, some (.int x3), some (.int x4), some (.int (x5 + ci_1))] [] [] (mkM σ) (fun _ _ => rfl) ?_
  refine bfr_run 1 18 [some (.ref 0), o1, o2, some (.int x3), some (.int x4), some (.int (x5 + ci_1))] [] [] (mkM σ) (fun _ _ => rfl) ?_
  exact hr18 _ _ _ _ _ _ h
set_option maxRecDepth 100000 in
theorem k_m_joins_b18 (n d : Nat) (q : bS) : ∀ (k : Nat) (x3 : Int32) (x4 : Int32) (x5 : Int32) (o1 : Option Value) (o2 : Option Value) (σ : bS), m_joins_b18 n k x3 x4 x5 σ = some q → bfr MT (d + 0) M_X12_joins 18 [some (.ref 0), o1, o2, some (.int x3), some (.int x4), some (.int x5)] [] [] (mkM σ) (none, mkM q) := by
  intro k
  induction k with
  | zero => intro x3 x4 x5 o1 o2 σ h; exact bno h
  | succ k ih =>
    intro x3 x4 x5 o1 o2 σ h
    unfold m_joins_b18 at h
    refine bfr_br 3 (pc1 := 51) (L1 := [some (.ref 0), o1, o2, some (.int x3), some (.int x4), some (.int x5)]) (J1 := []) (st1 := []) (w1 := mkM σ) (pc2 := 25) (L2 := [some (.ref 0), o1, o2, some (.int x3), some (.int x4), some (.int x5)]) (J2 := []) (st2 := []) (w2 := mkM σ) (fun _ _ => rfl) h (fun h => ?_) (fun h => ?_)
    · cases h
      exact bfr_ret 1 (fun _ _ => rfl)
    · refine bfr_in (i := x5) (m := 6) 4 (pc1 := 32) (L1 := [some (.ref 0), o1, o2, some (.int x3), some (.int x4), some (.int x5)]) (J1 := []) (st1 := [(.int (sA σ 40 x5))]) (w1 := mkM σ) (fun _ _ => rfl) h (fun h => ?_)
      refine bfr_br 2 (pc1 := 36) (L1 := [some (.ref 0), o1, o2, some (.int x3), some (.int x4), some (.int x5)]) (J1 := []) (st1 := []) (w1 := mkM σ) (pc2 := 45) (L2 := [some (.ref 0), o1, o2, some (.int x3), some (.int x4), some (.int x5)]) (J2 := []) (st2 := []) (w2 := mkM σ) (fun _ _ => rfl) h (fun h => ?_) (fun h => ?_)
      · refine bfr_in (i := x5) (m := 6) 5 (pc1 := 45) (L1 := [some (.ref 0), o1, o2, some (.int x3), some (.int x4), some (.int x5)]) (J1 := []) (st1 := []) (w1 := ((mkM σ).set 40 (.inl (0, 6, upd (σ.2.1 40) (x5).toNatClampNeg x4)))) (fun _ _ => rfl) h (fun h => ?_)
        rw [mkM_A40]
        exact k_m_joins_b45 n d _ q (ih) _ _ _ _ _ _ h
      · exact k_m_joins_b45 n d _ q (ih) _ _ _ _ _ _ h
set_option maxRecDepth 100000 in
theorem k_m_joins (n d : Nat) (q : bS) (x1 : Int32) (x2 : Int32) (σ : bS) (h : m_joins n x1 x2 σ = some q) : bfr MT (d + 0) M_X12_joins 0 [some (.ref 0), some (.int x1), some (.int x2), none, none, none] [] [] (mkM σ) (none, mkM q) := by
  unfold m_joins at h
  refine bfr_in (i := x1) (m := 6) 4 (pc1 := 6) (L1 := [some (.ref 0), some (.int x1), some (.int x2), none, none, none]) (J1 := []) (st1 := [(.int (sA σ 40 x1))]) (w1 := mkM σ) (fun _ _ => rfl) h (fun h => ?_)
  refine bfr_in (i := x2) (m := 6) 5 (pc1 := 13) (L1 := [some (.ref 0), some (.int x1), some (.int x2), some (.int (sA σ 40 x1)), none, none]) (J1 := []) (st1 := [(.int (sA σ 40 x2))]) (w1 := mkM σ) (fun _ _ => rfl) h (fun h => ?_)
  refine bfr_run 3 18 [some (.ref 0), some (.int x1), some (.int x2), some (.int (sA σ 40 x1)), some (.int (sA σ 40 x2)), some (.int ci_0)] [] [] (mkM σ) (fun _ _ => rfl) ?_
  exact k_m_joins_b18 n d q _ _ _ _ _ _ _ h
set_option maxRecDepth 100000 in
theorem k_m_laysArcs_b127 (n d : Nat) (r42 : Int32 → Int32 → Int32 → bS → Option bS) (q : bS) (hr42 : ∀ (x1 : Int32) (x2 : Int32) (x3 : Int32) (o4 : Option Value) (o5 : Option Value) (σ : bS), r42 x1 x2 x3 σ = some q → bfr MT (d + 4) M_X12_laysArcs 42 [some (.ref 0), some (.int x1), some (.int x2), some (.int x3), o4, o5] [] [] (mkM σ) (none, mkM q)) (x1 : Int32) (x2 : Int32) (x3 : Int32) (o4 : Option Value) (o5 : Option Value) (σ : bS) (h : m_laysArcs_b127 n r42 x1 x2 x3 σ = some q) : bfr MT (d + 4) M_X12_laysArcs 127 [some (.ref 0), some (.int x1), some (.int x2), some (.int x3), o4, o5] [] [] (mkM σ) (none, mkM q) := by
  unfold m_laysArcs_b127 at h
  refine bfr_run 1 130 [some (.ref 0), some (.int x1), some (.int x2), some (.int (x3 + ci_1)), o4, o5] [] [] (mkM σ) (fun _ _ => rfl) ?_
  refine bfr_run 1 42 [some (.ref 0), some (.int x1), some (.int x2), some (.int (x3 + ci_1)), o4, o5] [] [] (mkM σ) (fun _ _ => rfl) ?_
  exact hr42 _ _ _ _ _ _ h
set_option maxRecDepth 100000 in
theorem k_m_laysArcs_b87 (n d : Nat) (r42 : Int32 → Int32 → Int32 → bS → Option bS) (q : bS) (hr42 : ∀ (x1 : Int32) (x2 : Int32) (x3 : Int32) (o4 : Option Value) (o5 : Option Value) (σ : bS), r42 x1 x2 x3 σ = some q → bfr MT (d + 4) M_X12_laysArcs 42 [some (.ref 0), some (.int x1), some (.int x2), some (.int x3), o4, o5] [] [] (mkM σ) (none, mkM q)) (x1 : Int32) (x2 : Int32) (x3 : Int32) (s0 : Int32) (o4 : Option Value) (o5 : Option Value) (σ : bS) (h : m_laysArcs_b87 n r42 x1 x2 x3 s0 σ = some q) : bfr MT (d + 4) M_X12_laysArcs 87 [some (.ref 0), some (.int x1), some (.int x2), some (.int x3), o4, o5] [] [(.int s0)] (mkM σ) (none, mkM q) := by
  unfold m_laysArcs_b87 at h
  refine bfr_run 6 98 [some (.ref 0), some (.int x1), some (.int x2), some (.int x3), o4, some (.int s0)] [] [(.int x3), (.ref 22), (.ref 38)] (mkM σ) (fun _ _ => rfl) ?_
  refine bfr_in (i := x3) (m := 14) 1 (pc1 := 99) (L1 := [some (.ref 0), some (.int x1), some (.int x2), some (.int x3), o4, some (.int s0)]) (J1 := []) (st1 := [(.int (sA σ 22 x3)), (.ref 38)]) (w1 := mkM σ) (fun _ _ => rfl) h (fun h => ?_)
  refine bfr_in (i := (sA σ 22 x3)) (m := 6) 2 (pc1 := 101) (L1 := [some (.ref 0), some (.int x1), some (.int x2), some (.int x3), o4, some (.int s0)]) (J1 := []) (st1 := [(.int (sA σ 38 (sA σ 22 x3))), (.int (sA σ 22 x3)), (.ref 38)]) (w1 := mkM σ) (fun _ _ => rfl) h (fun h => ?_)
  refine bfr_in (i := (sA σ 22 x3)) (m := 6) 3 (pc1 := 104) (L1 := [some (.ref 0), some (.int x1), some (.int x2), some (.int x3), o4, some (.int s0)]) (J1 := []) (st1 := []) (w1 := ((mkM σ).set 38 (.inl (0, 6, upd (σ.2.1 38) ((sA σ 22 x3)).toNatClampNeg ((sA σ 38 (sA σ 22 x3)) + ci_1))))) (fun _ _ => rfl) h (fun h => ?_)
  rw [mkM_A38]
  refine bfr_in (i := s0) (m := 6) 5 (pc1 := 112) (L1 := [some (.ref 0), some (.int x1), some (.int x2), some (.int x3), o4, some (.int s0)]) (J1 := []) (st1 := [(.int (sA (uA σ 38 (sA σ 22 x3) ((sA σ 38 (sA σ 22 x3)) + ci_1)) 39 s0)), (.int s0), (.ref 39)]) (w1 := mkM (uA σ 38 (sA σ 22 x3) ((sA σ 38 (sA σ 22 x3)) + ci_1))) (fun _ _ => rfl) h (fun h => ?_)
  refine bfr_in (i := s0) (m := 6) 3 (pc1 := 115) (L1 := [some (.ref 0), some (.int x1), some (.int x2), some (.int x3), o4, some (.int s0)]) (J1 := []) (st1 := []) (w1 := ((mkM (uA σ 38 (sA σ 22 x3) ((sA σ 38 (sA σ 22 x3)) + ci_1))).set 39 (.inl (0, 6, upd ((uA σ 38 (sA σ 22 x3) ((sA σ 38 (sA σ 22 x3)) + ci_1)).2.1 39) (s0).toNatClampNeg ((sA (uA σ 38 (sA σ 22 x3) ((sA σ 38 (sA σ 22 x3)) + ci_1)) 39 s0) + ci_1))))) (fun _ _ => rfl) h (fun h => ?_)
  rw [mkM_A39]
  refine bfr_in (i := x3) (m := 14) 5 (pc1 := 122) (L1 := [some (.ref 0), some (.int x1), some (.int x2), some (.int x3), o4, some (.int s0)]) (J1 := []) (st1 := [(.int (sA (uA (uA σ 38 (sA σ 22 x3) ((sA σ 38 (sA σ 22 x3)) + ci_1)) 39 s0 ((sA (uA σ 38 (sA σ 22 x3) ((sA σ 38 (sA σ 22 x3)) + ci_1)) 39 s0) + ci_1)) 22 x3)), (.ref 0)]) (w1 := mkM (uA (uA σ 38 (sA σ 22 x3) ((sA σ 38 (sA σ 22 x3)) + ci_1)) 39 s0 ((sA (uA σ 38 (sA σ 22 x3) ((sA σ 38 (sA σ 22 x3)) + ci_1)) 39 s0) + ci_1))) (fun _ _ => rfl) h (fun h => ?_)
  refine bfr_call 2 (d1 := d + 3) (M1 := M_X12_joins) (vs := [(.ref 0), (.int (sA (uA (uA σ 38 (sA σ 22 x3) ((sA σ 38 (sA σ 22 x3)) + ci_1)) 39 s0 ((sA (uA σ 38 (sA σ 22 x3) ((sA σ 38 (sA σ 22 x3)) + ci_1)) 39 s0) + ci_1)) 22 x3)), (.int s0)]) (w1 := mkM (uA (uA σ 38 (sA σ 22 x3) ((sA σ 38 (sA σ 22 x3)) + ci_1)) 39 s0 ((sA (uA σ 38 (sA σ 22 x3) ((sA σ 38 (sA σ 22 x3)) + ci_1)) 39 s0) + ci_1))) (pc2 := 127) (L2 := [some (.ref 0), some (.int x1), some (.int x2), some (.int x3), o4, some (.int s0)]) (J2 := []) (rest := []) (fun _ => none) (fun a => mkM a) (fun _ _ => rfl) h (fun a ha => k_m_joins n (d + 3) _ _ _ _ ha) (fun q1 _ h => ?_)
  exact k_m_laysArcs_b127 n d _ q hr42 _ _ _ _ _ _ h
set_option maxRecDepth 100000 in
theorem k_m_laysArcs_b42 (n d : Nat) (q : bS) : ∀ (k : Nat) (x1 : Int32) (x2 : Int32) (x3 : Int32) (o4 : Option Value) (o5 : Option Value) (σ : bS), m_laysArcs_b42 n k x1 x2 x3 σ = some q → bfr MT (d + 4) M_X12_laysArcs 42 [some (.ref 0), some (.int x1), some (.int x2), some (.int x3), o4, o5] [] [] (mkM σ) (none, mkM q) := by
  intro k
  induction k with
  | zero => intro x1 x2 x3 o4 o5 σ h; exact bno h
  | succ k ih =>
    intro x1 x2 x3 o4 o5 σ h
    unfold m_laysArcs_b42 at h
    refine bfr_in (i := ci_0) (m := 2) 5 (pc1 := 49) (L1 := [some (.ref 0), some (.int x1), some (.int x2), some (.int x3), o4, o5]) (J1 := []) (st1 := [(.int (sA σ 20 ci_0)), (.int x3)]) (w1 := mkM σ) (fun _ _ => rfl) h (fun h => ?_)
    refine bfr_br 1 (pc1 := 133) (L1 := [some (.ref 0), some (.int x1), some (.int x2), some (.int x3), o4, o5]) (J1 := []) (st1 := []) (w1 := mkM σ) (pc2 := 52) (L2 := [some (.ref 0), some (.int x1), some (.int x2), some (.int x3), o4, o5]) (J2 := []) (st2 := []) (w2 := mkM σ) (fun _ _ => rfl) h (fun h => ?_) (fun h => ?_)
    · cases h
      exact bfr_ret 1 (fun _ _ => rfl)
    · refine bfr_br 6 (pc1 := 60) (L1 := [some (.ref 0), some (.int x1), some (.int x2), some (.int x3), o4, o5]) (J1 := []) (st1 := []) (w1 := mkM σ) (pc2 := 63) (L2 := [some (.ref 0), some (.int x1), some (.int x2), some (.int x3), o4, o5]) (J2 := []) (st2 := []) (w2 := mkM σ) (fun _ _ => rfl) h (fun h => ?_) (fun h => ?_)
      · refine bfr_run 1 127 [some (.ref 0), some (.int x1), some (.int x2), some (.int x3), o4, o5] [] [] (mkM σ) (fun _ _ => rfl) ?_
        exact k_m_laysArcs_b127 n d _ q (ih) _ _ _ _ _ _ h
      · refine bfr_call 4 (d1 := d + 3) (M1 := M_X12_wishOf) (vs := [(.ref 0), (.int x3), (.int x1)]) (w1 := mkM σ) (pc2 := 69) (L2 := [some (.ref 0), some (.int x1), some (.int x2), some (.int x3), o4, o5]) (J2 := []) (rest := []) (fun a => some (.int a.1)) (fun a => mkM a.2) (fun _ _ => rfl) h (fun a ha => k_m_wishOf n (d + 0) _ _ _ _ ha) (fun q2 _ h => ?_)
        refine bfr_br 3 (pc1 := 85) (L1 := [some (.ref 0), some (.int x1), some (.int x2), some (.int x3), some (.int q2.1), o5]) (J1 := []) (st1 := []) (w1 := mkM q2.2) (pc2 := 76) (L2 := [some (.ref 0), some (.int x1), some (.int x2), some (.int x3), some (.int q2.1), o5]) (J2 := []) (st2 := []) (w2 := mkM q2.2) (fun _ _ => rfl) h (fun h => ?_) (fun h => ?_)
        · refine bfr_run 1 87 [some (.ref 0), some (.int x1), some (.int x2), some (.int x3), some (.int q2.1), o5] [] [(.int q2.1)] (mkM q2.2) (fun _ _ => rfl) ?_
          exact k_m_laysArcs_b87 n d _ q (ih) _ _ _ _ _ _ _ h
        · refine bfr_in (i := x3) (m := 14) 4 (pc1 := 82) (L1 := [some (.ref 0), some (.int x1), some (.int x2), some (.int x3), some (.int q2.1), o5]) (J1 := []) (st1 := [(.int (sA q2.2 22 x3))]) (w1 := mkM q2.2) (fun _ _ => rfl) h (fun h => ?_)
          refine bfr_run 1 87 [some (.ref 0), some (.int x1), some (.int x2), some (.int x3), some (.int q2.1), o5] [] [(.int (sA q2.2 22 x3))] (mkM q2.2) (fun _ _ => rfl) ?_
          exact k_m_laysArcs_b87 n d _ q (ih) _ _ _ _ _ _ _ h
set_option maxRecDepth 100000 in
theorem k_m_laysArcs_b2 (n d : Nat) (q : bS) : ∀ (k : Nat) (x1 : Int32) (x2 : Int32) (x3 : Int32) (o4 : Option Value) (o5 : Option Value) (σ : bS), m_laysArcs_b2 n k x1 x2 x3 σ = some q → bfr MT (d + 4) M_X12_laysArcs 2 [some (.ref 0), some (.int x1), some (.int x2), some (.int x3), o4, o5] [] [] (mkM σ) (none, mkM q) := by
  intro k
  induction k with
  | zero => intro x1 x2 x3 o4 o5 σ h; exact bno h
  | succ k ih =>
    intro x1 x2 x3 o4 o5 σ h
    unfold m_laysArcs_b2 at h
    refine bfr_br 3 (pc1 := 35) (L1 := [some (.ref 0), some (.int x1), some (.int x2), some (.int x3), o4, o5]) (J1 := []) (st1 := []) (w1 := mkM σ) (pc2 := 8) (L2 := [some (.ref 0), some (.int x1), some (.int x2), some (.int x3), o4, o5]) (J2 := []) (st2 := []) (w2 := mkM σ) (fun _ _ => rfl) h (fun h => ?_) (fun h => ?_)
    · refine bfr_run 3 40 [some (.ref 0), some (.int x1), some (.int x2), some (.int x3), o4, o5] [] [] ((mkM σ).set 0 (.inr (.inr (12, (mkM_0 σ).set 40 (.int ci_0))))) (fun _ _ => rfl) ?_
      rw [mkM_I0_40]
      refine bfr_run 2 42 [some (.ref 0), some (.int x1), some (.int x2), some (.int ci_0), o4, o5] [] [] (mkM (uI σ 0 40 ci_0)) (fun _ _ => rfl) ?_
      exact k_m_laysArcs_b42 n d q _ _ _ _ _ _ _ h
    · refine bfr_in (i := x3) (m := 6) 5 (pc1 := 15) (L1 := [some (.ref 0), some (.int x1), some (.int x2), some (.int x3), o4, o5]) (J1 := []) (st1 := []) (w1 := ((mkM σ).set 38 (.inl (0, 6, upd (σ.2.1 38) (x3).toNatClampNeg ci_0)))) (fun _ _ => rfl) h (fun h => ?_)
      rw [mkM_A38]
      refine bfr_in (i := x3) (m := 6) 5 (pc1 := 22) (L1 := [some (.ref 0), some (.int x1), some (.int x2), some (.int x3), o4, o5]) (J1 := []) (st1 := []) (w1 := ((mkM (uA σ 38 x3 ci_0)).set 39 (.inl (0, 6, upd ((uA σ 38 x3 ci_0).2.1 39) (x3).toNatClampNeg ci_0)))) (fun _ _ => rfl) h (fun h => ?_)
      rw [mkM_A39]
      refine bfr_in (i := x3) (m := 6) 5 (pc1 := 29) (L1 := [some (.ref 0), some (.int x1), some (.int x2), some (.int x3), o4, o5]) (J1 := []) (st1 := []) (w1 := ((mkM (uA (uA σ 38 x3 ci_0) 39 x3 ci_0)).set 40 (.inl (0, 6, upd ((uA (uA σ 38 x3 ci_0) 39 x3 ci_0).2.1 40) (x3).toNatClampNeg x3)))) (fun _ _ => rfl) h (fun h => ?_)
      rw [mkM_A40]
      refine bfr_run 1 32 [some (.ref 0), some (.int x1), some (.int x2), some (.int (x3 + ci_1)), o4, o5] [] [] (mkM (uA (uA (uA σ 38 x3 ci_0) 39 x3 ci_0) 40 x3 x3)) (fun _ _ => rfl) ?_
      refine bfr_run 1 2 [some (.ref 0), some (.int x1), some (.int x2), some (.int (x3 + ci_1)), o4, o5] [] [] (mkM (uA (uA (uA σ 38 x3 ci_0) 39 x3 ci_0) 40 x3 x3)) (fun _ _ => rfl) ?_
      exact ih _ _ _ _ _ _ h
set_option maxRecDepth 100000 in
theorem k_m_laysArcs (n d : Nat) (q : bS) (x1 : Int32) (x2 : Int32) (σ : bS) (h : m_laysArcs n x1 x2 σ = some q) : bfr MT (d + 4) M_X12_laysArcs 0 [some (.ref 0), some (.int x1), some (.int x2), none, none, none] [] [] (mkM σ) (none, mkM q) := by
  unfold m_laysArcs at h
  refine bfr_run 2 2 [some (.ref 0), some (.int x1), some (.int x2), some (.int ci_0), none, none] [] [] (mkM σ) (fun _ _ => rfl) ?_
  exact k_m_laysArcs_b2 n d q _ _ _ _ _ _ _ h
set_option maxRecDepth 100000 in
theorem k_m_moreOut_b88 (n d : Nat) (q : (Int32 × bS)) (s0 : Int32) (o0 : Option Value) (o1 : Option Value) (o2 : Option Value) (o3 : Option Value) (o4 : Option Value) (σ : bS) (h : m_moreOut_b88 n s0 σ = some q) : bfr MT (d + 0) M_X12_moreOut 88 [o0, o1, o2, o3, o4] [] [(.int s0)] (mkM σ) (some (.int q.1), mkM q.2) := by
  unfold m_moreOut_b88 at h
  cases h
  exact bfr_ret 1 (fun _ _ => rfl)
set_option maxRecDepth 100000 in
theorem k_m_moreOut_b73 (n d : Nat) (r7 : Int32 → Int32 → Int32 → Int32 → bS → Option (Int32 × bS)) (q : (Int32 × bS)) (hr7 : ∀ (x1 : Int32) (x2 : Int32) (x3 : Int32) (x4 : Int32) (σ : bS), r7 x1 x2 x3 x4 σ = some q → bfr MT (d + 0) M_X12_moreOut 7 [some (.ref 0), some (.int x1), some (.int x2), some (.int x3), some (.int x4)] [] [] (mkM σ) (some (.int q.1), mkM q.2)) (x1 : Int32) (x2 : Int32) (x3 : Int32) (x4 : Int32) (σ : bS) (h : m_moreOut_b73 n r7 x1 x2 x3 x4 σ = some q) : bfr MT (d + 0) M_X12_moreOut 73 [some (.ref 0), some (.int x1), some (.int x2), some (.int x3), some (.int x4)] [] [] (mkM σ) (some (.int q.1), mkM q.2) := by
  unfold m_moreOut_b73 at h
  refine bfr_run 1 76 [some (.ref 0), some (.int x1), some (.int x2), some (.int x3), some (.int (x4 + ci_1))] [] [] (mkM σ) (fun _ _ => rfl) ?_
  refine bfr_run 1 7 [some (.ref 0), some (.int x1), some (.int x2), some (.int x3), some (.int (x4 + ci_1))] [] [] (mkM σ) (fun _ _ => rfl) ?_
  exact hr7 _ _ _ _ _ h
set_option maxRecDepth 100000 in
theorem k_m_moreOut_b72 (n d : Nat) (r7 : Int32 → Int32 → Int32 → Int32 → bS → Option (Int32 × bS)) (q : (Int32 × bS)) (hr7 : ∀ (x1 : Int32) (x2 : Int32) (x3 : Int32) (x4 : Int32) (σ : bS), r7 x1 x2 x3 x4 σ = some q → bfr MT (d + 0) M_X12_moreOut 7 [some (.ref 0), some (.int x1), some (.int x2), some (.int x3), some (.int x4)] [] [] (mkM σ) (some (.int q.1), mkM q.2)) (x1 : Int32) (x3 : Int32) (x4 : Int32) (s0 : Int32) (o2 : Option Value) (σ : bS) (h : m_moreOut_b72 n r7 x1 x3 x4 s0 σ = some q) : bfr MT (d + 0) M_X12_moreOut 72 [some (.ref 0), some (.int x1), o2, some (.int x3), some (.int x4)] [] [(.int s0)] (mkM σ) (some (.int q.1), mkM q.2) := by
  unfold m_moreOut_b72 at h
  refine bfr_run 1 73 [some (.ref 0), some (.int x1), some (.int s0), some (.int x3), some (.int x4)] [] [] (mkM σ) (fun _ _ => rfl) ?_
  exact k_m_moreOut_b73 n d _ q hr7 _ _ _ _ _ h
set_option maxRecDepth 100000 in
theorem k_m_moreOut_b7 (n d : Nat) (q : (Int32 × bS)) : ∀ (k : Nat) (x1 : Int32) (x2 : Int32) (x3 : Int32) (x4 : Int32) (σ : bS), m_moreOut_b7 n k x1 x2 x3 x4 σ = some q → bfr MT (d + 0) M_X12_moreOut 7 [some (.ref 0), some (.int x1), some (.int x2), some (.int x3), some (.int x4)] [] [] (mkM σ) (some (.int q.1), mkM q.2) := by
  intro k
  induction k with
  | zero => intro x1 x2 x3 x4 σ h; exact bno h
  | succ k ih =>
    intro x1 x2 x3 x4 σ h
    unfold m_moreOut_b7 at h
    refine bfr_br 3 (pc1 := 79) (L1 := [some (.ref 0), some (.int x1), some (.int x2), some (.int x3), some (.int x4)]) (J1 := []) (st1 := []) (w1 := mkM σ) (pc2 := 14) (L2 := [some (.ref 0), some (.int x1), some (.int x2), some (.int x3), some (.int x4)]) (J2 := []) (st2 := []) (w2 := mkM σ) (fun _ _ => rfl) h (fun h => ?_) (fun h => ?_)
    · refine bfr_br 2 (pc1 := 83) (L1 := [some (.ref 0), some (.int x1), some (.int x2), some (.int x3), some (.int x4)]) (J1 := []) (st1 := []) (w1 := mkM σ) (pc2 := 87) (L2 := [some (.ref 0), some (.int x1), some (.int x2), some (.int x3), some (.int x4)]) (J2 := []) (st2 := []) (w2 := mkM σ) (fun _ _ => rfl) h (fun h => ?_) (fun h => ?_)
      · refine bfr_run 2 88 [some (.ref 0), some (.int x1), some (.int x2), some (.int x3), some (.int x4)] [] [(.int ci_m1)] (mkM σ) (fun _ _ => rfl) ?_
        exact k_m_moreOut_b88 n d q _ _ _ _ _ _ _ h
      · refine bfr_run 1 88 [some (.ref 0), some (.int x1), some (.int x2), some (.int x3), some (.int x4)] [] [(.int x2)] (mkM σ) (fun _ _ => rfl) ?_
        exact k_m_moreOut_b88 n d q _ _ _ _ _ _ _ h
    · refine bfr_in (i := x4) (m := 6) 4 (pc1 := 21) (L1 := [some (.ref 0), some (.int x1), some (.int x2), some (.int x3), some (.int x4)]) (J1 := []) (st1 := [(.int (sA σ 40 x4))]) (w1 := mkM σ) (fun _ _ => rfl) h (fun h => ?_)
      refine bfr_br 2 (pc1 := 28) (L1 := [some (.ref 0), some (.int x1), some (.int x2), some (.int x3), some (.int x4)]) (J1 := []) (st1 := []) (w1 := mkM σ) (pc2 := 25) (L2 := [some (.ref 0), some (.int x1), some (.int x2), some (.int x3), some (.int x4)]) (J2 := []) (st2 := []) (w2 := mkM σ) (fun _ _ => rfl) h (fun h => ?_) (fun h => ?_)
      · refine bfr_in (i := x4) (m := 6) 5 (pc1 := 36) (L1 := [some (.ref 0), some (.int x1), some (.int x2), some (.int x3), some (.int x4)]) (J1 := []) (st1 := [(.int (sA σ 38 x4)), (.int x3)]) (w1 := mkM σ) (fun _ _ => rfl) h (fun h => ?_)
        refine bfr_in (i := x4) (m := 6) 6 (pc1 := 45) (L1 := [some (.ref 0), some (.int x1), some (.int x2), some (.int (x3 + (sA σ 38 x4))), some (.int x4)]) (J1 := []) (st1 := [(.int (sA σ 38 x4))]) (w1 := mkM σ) (fun _ _ => rfl) h (fun h => ?_)
        refine bfr_in (i := x4) (m := 6) 4 (pc1 := 52) (L1 := [some (.ref 0), some (.int x1), some (.int x2), some (.int (x3 + (sA σ 38 x4))), some (.int x4)]) (J1 := []) (st1 := [(.int (sA σ 39 x4)), (.int (sA σ 38 x4))]) (w1 := mkM σ) (fun _ _ => rfl) h (fun h => ?_)
        refine bfr_br 1 (pc1 := 73) (L1 := [some (.ref 0), some (.int x1), some (.int x2), some (.int (x3 + (sA σ 38 x4))), some (.int x4)]) (J1 := []) (st1 := []) (w1 := mkM σ) (pc2 := 55) (L2 := [some (.ref 0), some (.int x1), some (.int x2), some (.int (x3 + (sA σ 38 x4))), some (.int x4)]) (J2 := []) (st2 := []) (w2 := mkM σ) (fun _ _ => rfl) h (fun h => ?_) (fun h => ?_)
        · exact k_m_moreOut_b73 n d _ q (ih) _ _ _ _ _ h
        · refine bfr_in (i := x4) (m := 6) 5 (pc1 := 63) (L1 := [some (.ref 0), some (.int x1), some (.int x2), some (.int (x3 + (sA σ 38 x4))), some (.int x4)]) (J1 := []) (st1 := [(.int (sA σ 38 x4)), (.int x2)]) (w1 := mkM σ) (fun _ _ => rfl) h (fun h => ?_)
          refine bfr_in (i := x4) (m := 6) 5 (pc1 := 71) (L1 := [some (.ref 0), some (.int x1), some (.int x2), some (.int (x3 + (sA σ 38 x4))), some (.int x4)]) (J1 := []) (st1 := [(.int (sA σ 39 x4)), (.int (x2 + (sA σ 38 x4)))]) (w1 := mkM σ) (fun _ _ => rfl) h (fun h => ?_)
          refine bfr_run 1 72 [some (.ref 0), some (.int x1), some (.int x2), some (.int (x3 + (sA σ 38 x4))), some (.int x4)] [] [(.int ((x2 + (sA σ 38 x4)) - (sA σ 39 x4)))] (mkM σ) (fun _ _ => rfl) ?_
          exact k_m_moreOut_b72 n d _ q (ih) _ _ _ _ _ _ h
      · refine bfr_run 1 73 [some (.ref 0), some (.int x1), some (.int x2), some (.int x3), some (.int x4)] [] [] (mkM σ) (fun _ _ => rfl) ?_
        exact k_m_moreOut_b73 n d _ q (ih) _ _ _ _ _ h
set_option maxRecDepth 100000 in
theorem k_m_moreOut (n d : Nat) (q : (Int32 × bS)) (x1 : Int32) (σ : bS) (h : m_moreOut n x1 σ = some q) : bfr MT (d + 0) M_X12_moreOut 0 [some (.ref 0), some (.int x1), none, none, none] [] [] (mkM σ) (some (.int q.1), mkM q.2) := by
  unfold m_moreOut at h
  refine bfr_run 6 7 [some (.ref 0), some (.int x1), some (.int ci_0), some (.int ci_0), some (.int ci_0)] [] [] (mkM σ) (fun _ _ => rfl) ?_
  exact k_m_moreOut_b7 n d q _ _ _ _ _ _ h
set_option maxRecDepth 100000 in
theorem k_m_rings_b190 (n d : Nat) (q : (Int32 × bS)) (s0 : Int32) (o0 : Option Value) (o1 : Option Value) (o2 : Option Value) (o3 : Option Value) (o4 : Option Value) (o5 : Option Value) (o6 : Option Value) (o7 : Option Value) (o8 : Option Value) (σ : bS) (h : m_rings_b190 n s0 σ = some q) : bfr MT (d + 5) M_X12_rings 190 [o0, o1, o2, o3, o4, o5, o6, o7, o8] [] [(.int s0)] (mkM σ) (some (.int q.1), mkM q.2) := by
  unfold m_rings_b190 at h
  cases h
  exact bfr_ret 1 (fun _ _ => rfl)
set_option maxRecDepth 100000 in
theorem k_m_rings_b169 (n d : Nat) (q : (Int32 × bS)) (x3 : Int32) (x4 : Int32) (x5 : Int32) (x6 : Int32) (o0 : Option Value) (o1 : Option Value) (o2 : Option Value) (o7 : Option Value) (o8 : Option Value) (σ : bS) (h : m_rings_b169 n x3 x4 x5 x6 σ = some q) : bfr MT (d + 5) M_X12_rings 169 [o0, o1, o2, some (.int x3), some (.int x4), some (.int x5), some (.int x6), o7, o8] [] [] (mkM σ) (some (.int q.1), mkM q.2) := by
  unfold m_rings_b169 at h
  refine bfr_br 2 (pc1 := 173) (L1 := [o0, o1, o2, some (.int x3), some (.int x4), some (.int x5), some (.int x6), o7, o8]) (J1 := []) (st1 := []) (w1 := mkM σ) (pc2 := 178) (L2 := [o0, o1, o2, some (.int x3), some (.int x4), some (.int x5), some (.int x6), o7, o8]) (J2 := []) (st2 := []) (w2 := mkM σ) (fun _ _ => rfl) h (fun h => ?_) (fun h => ?_)
  · refine bfr_run 2 190 [o0, o1, o2, some (.int x3), some (.int x4), some (.int x5), some (.int x6), o7, o8] [] [(.int x4)] (mkM σ) (fun _ _ => rfl) ?_
    exact k_m_rings_b190 n d q _ _ _ _ _ _ _ _ _ _ _ h
  · refine bfr_br 3 (pc1 := 183) (L1 := [o0, o1, o2, some (.int x3), some (.int x4), some (.int x5), some (.int x6), o7, o8]) (J1 := []) (st1 := []) (w1 := mkM σ) (pc2 := 188) (L2 := [o0, o1, o2, some (.int x3), some (.int x4), some (.int x5), some (.int x6), o7, o8]) (J2 := []) (st2 := []) (w2 := mkM σ) (fun _ _ => rfl) h (fun h => ?_) (fun h => ?_)
    · refine bfr_run 2 190 [o0, o1, o2, some (.int x3), some (.int x4), some (.int x5), some (.int x6), o7, o8] [] [(.int x5)] (mkM σ) (fun _ _ => rfl) ?_
      exact k_m_rings_b190 n d q _ _ _ _ _ _ _ _ _ _ _ h
    · refine bfr_run 1 190 [o0, o1, o2, some (.int x3), some (.int x4), some (.int x5), some (.int x6), o7, o8] [] [(.int x6)] (mkM σ) (fun _ _ => rfl) ?_
      exact k_m_rings_b190 n d q _ _ _ _ _ _ _ _ _ _ _ h
set_option maxRecDepth 100000 in
theorem k_m_rings_b166 (n d : Nat) (q : (Int32 × bS)) (x3 : Int32) (x4 : Int32) (x5 : Int32) (x6 : Int32) (o0 : Option Value) (o1 : Option Value) (o2 : Option Value) (o7 : Option Value) (o8 : Option Value) (σ : bS) (h : m_rings_b166 n x3 x4 x5 x6 σ = some q) : bfr MT (d + 5) M_X12_rings 166 [o0, o1, o2, some (.int x3), some (.int x4), some (.int x5), some (.int x6), o7, o8] [] [] (mkM σ) (some (.int q.1), mkM q.2) := by
  unfold m_rings_b166 at h
  refine bfr_run 1 169 [o0, o1, o2, some (.int x3), some (.int x4), some (.int x5), some (.int (x6 + ci_m1)), o7, o8] [] [] (mkM σ) (fun _ _ => rfl) ?_
  exact k_m_rings_b169 n d q _ _ _ _ _ _ _ _ _ _ h
set_option maxRecDepth 100000 in
theorem k_m_rings_b100 (n d : Nat) (r50 : Int32 → Int32 → Int32 → Int32 → Int32 → Int32 → bS → Option (Int32 × bS)) (q : (Int32 × bS)) (hr50 : ∀ (x1 : Int32) (x3 : Int32) (x4 : Int32) (x5 : Int32) (x6 : Int32) (x7 : Int32) (o2 : Option Value) (o8 : Option Value) (σ : bS), r50 x1 x3 x4 x5 x6 x7 σ = some q → bfr MT (d + 5) M_X12_rings 50 [some (.ref 0), some (.int x1), o2, some (.int x3), some (.int x4), some (.int x5), some (.int x6), some (.int x7), o8] [] [] (mkM σ) (some (.int q.1), mkM q.2)) (x1 : Int32) (x3 : Int32) (x4 : Int32) (x5 : Int32) (x6 : Int32) (x7 : Int32) (o2 : Option Value) (o8 : Option Value) (σ : bS) (h : m_rings_b100 n r50 x1 x3 x4 x5 x6 x7 σ = some q) : bfr MT (d + 5) M_X12_rings 100 [some (.ref 0), some (.int x1), o2, some (.int x3), some (.int x4), some (.int x5), some (.int x6), some (.int x7), o8] [] [] (mkM σ) (some (.int q.1), mkM q.2) := by
  unfold m_rings_b100 at h
  refine bfr_run 1 103 [some (.ref 0), some (.int x1), o2, some (.int x3), some (.int x4), some (.int x5), some (.int x6), some (.int (x7 + ci_1)), o8] [] [] (mkM σ) (fun _ _ => rfl) ?_
  refine bfr_run 1 50 [some (.ref 0), some (.int x1), o2, some (.int x3), some (.int x4), some (.int x5), some (.int x6), some (.int (x7 + ci_1)), o8] [] [] (mkM σ) (fun _ _ => rfl) ?_
  exact hr50 _ _ _ _ _ _ _ _ _ h
set_option maxRecDepth 100000 in
theorem k_m_rings_b97 (n d : Nat) (r50 : Int32 → Int32 → Int32 → Int32 → Int32 → Int32 → bS → Option (Int32 × bS)) (q : (Int32 × bS)) (hr50 : ∀ (x1 : Int32) (x3 : Int32) (x4 : Int32) (x5 : Int32) (x6 : Int32) (x7 : Int32) (o2 : Option Value) (o8 : Option Value) (σ : bS), r50 x1 x3 x4 x5 x6 x7 σ = some q → bfr MT (d + 5) M_X12_rings 50 [some (.ref 0), some (.int x1), o2, some (.int x3), some (.int x4), some (.int x5), some (.int x6), some (.int x7), o8] [] [] (mkM σ) (some (.int q.1), mkM q.2)) (x1 : Int32) (x3 : Int32) (x4 : Int32) (x5 : Int32) (x7 : Int32) (s0 : Int32) (s1 : Int32) (o2 : Option Value) (o6 : Option Value) (o8 : Option Value) (σ : bS) (h : m_rings_b97 n r50 x1 x3 x4 x5 x7 s0 s1 σ = some q) : bfr MT (d + 5) M_X12_rings 97 [some (.ref 0), some (.int x1), o2, some (.int x3), some (.int x4), some (.int x5), o6, some (.int x7), o8] [] [(.int s1), (.int s0)] (mkM σ) (some (.int q.1), mkM q.2) := by
  unfold m_rings_b97 at h
  refine bfr_run 2 100 [some (.ref 0), some (.int x1), o2, some (.int x3), some (.int x4), some (.int x5), some (.int (s0 + s1)), some (.int x7), o8] [] [] (mkM σ) (fun _ _ => rfl) ?_
  exact k_m_rings_b100 n d _ q hr50 _ _ _ _ _ _ _ _ _ h
set_option maxRecDepth 100000 in
theorem k_m_rings_b84 (n d : Nat) (r50 : Int32 → Int32 → Int32 → Int32 → Int32 → Int32 → bS → Option (Int32 × bS)) (q : (Int32 × bS)) (hr50 : ∀ (x1 : Int32) (x3 : Int32) (x4 : Int32) (x5 : Int32) (x6 : Int32) (x7 : Int32) (o2 : Option Value) (o8 : Option Value) (σ : bS), r50 x1 x3 x4 x5 x6 x7 σ = some q → bfr MT (d + 5) M_X12_rings 50 [some (.ref 0), some (.int x1), o2, some (.int x3), some (.int x4), some (.int x5), some (.int x6), some (.int x7), o8] [] [] (mkM σ) (some (.int q.1), mkM q.2)) (x1 : Int32) (x3 : Int32) (x4 : Int32) (x5 : Int32) (x6 : Int32) (x7 : Int32) (x8 : Int32) (o2 : Option Value) (σ : bS) (h : m_rings_b84 n r50 x1 x3 x4 x5 x6 x7 x8 σ = some q) : bfr MT (d + 5) M_X12_rings 84 [some (.ref 0), some (.int x1), o2, some (.int x3), some (.int x4), some (.int x5), some (.int x6), some (.int x7), some (.int x8)] [] [] (mkM σ) (some (.int q.1), mkM q.2) := by
  unfold m_rings_b84 at h
  refine bfr_br 3 (pc1 := 91) (L1 := [some (.ref 0), some (.int x1), o2, some (.int x3), some (.int x4), some (.int x5), some (.int x6), some (.int x7), some (.int x8)]) (J1 := []) (st1 := [(.int x6)]) (w1 := mkM σ) (pc2 := 95) (L2 := [some (.ref 0), some (.int x1), o2, some (.int x3), some (.int x4), some (.int x5), some (.int x6), some (.int x7), some (.int x8)]) (J2 := []) (st2 := [(.int x6)]) (w2 := mkM σ) (fun _ _ => rfl) h (fun h => ?_) (fun h => ?_)
  · refine bfr_run 2 97 [some (.ref 0), some (.int x1), o2, some (.int x3), some (.int x4), some (.int x5), some (.int x6), some (.int x7), some (.int x8)] [] [(.int ci_1), (.int x6)] (mkM σ) (fun _ _ => rfl) ?_
    exact k_m_rings_b97 n d _ q hr50 _ _ _ _ _ _ _ _ _ _ _ h
  · refine bfr_run 1 97 [some (.ref 0), some (.int x1), o2, some (.int x3), some (.int x4), some (.int x5), some (.int x6), some (.int x7), some (.int x8)] [] [(.int x8), (.int x6)] (mkM σ) (fun _ _ => rfl) ?_
    exact k_m_rings_b97 n d _ q hr50 _ _ _ _ _ _ _ _ _ _ _ h
set_option maxRecDepth 100000 in
theorem k_m_rings_b50 (n d : Nat) (q : (Int32 × bS)) : ∀ (k : Nat) (x1 : Int32) (x3 : Int32) (x4 : Int32) (x5 : Int32) (x6 : Int32) (x7 : Int32) (o2 : Option Value) (o8 : Option Value) (σ : bS), m_rings_b50 n k x1 x3 x4 x5 x6 x7 σ = some q → bfr MT (d + 5) M_X12_rings 50 [some (.ref 0), some (.int x1), o2, some (.int x3), some (.int x4), some (.int x5), some (.int x6), some (.int x7), o8] [] [] (mkM σ) (some (.int q.1), mkM q.2) := by
  intro k
  induction k with
  | zero => intro x1 x3 x4 x5 x6 x7 o2 o8 σ h; exact bno h
  | succ k ih =>
    intro x1 x3 x4 x5 x6 x7 o2 o8 σ h
    unfold m_rings_b50 at h
    refine bfr_br 3 (pc1 := 106) (L1 := [some (.ref 0), some (.int x1), o2, some (.int x3), some (.int x4), some (.int x5), some (.int x6), some (.int x7), o8]) (J1 := []) (st1 := []) (w1 := mkM σ) (pc2 := 57) (L2 := [some (.ref 0), some (.int x1), o2, some (.int x3), some (.int x4), some (.int x5), some (.int x6), some (.int x7), o8]) (J2 := []) (st2 := []) (w2 := mkM σ) (fun _ _ => rfl) h (fun h => ?_) (fun h => ?_)
    · refine bfr_in (i := (ci_1 + x1)) (m := 2208) 6 (pc1 := 114) (L1 := [some (.ref 0), some (.int x1), o2, some (.int x3), some (.int x4), some (.int x5), some (.int x6), some (.int x7), o8]) (J1 := []) (st1 := [(.int (sA σ 29 (ci_1 + x1)))]) (w1 := mkM σ) (fun _ _ => rfl) h (fun h => ?_)
      refine bfr_br 3 (pc1 := 169) (L1 := [some (.ref 0), some (.int x1), o2, some (.int x3), some (.int x4), some (.int x5), some (.int x6), some (.int (sA σ 29 (ci_1 + x1))), o8]) (J1 := []) (st1 := []) (w1 := mkM σ) (pc2 := 121) (L2 := [some (.ref 0), some (.int x1), o2, some (.int x3), some (.int x4), some (.int x5), some (.int x6), some (.int (sA σ 29 (ci_1 + x1))), o8]) (J2 := []) (st2 := []) (w2 := mkM σ) (fun _ _ => rfl) h (fun h => ?_) (fun h => ?_)
      · exact k_m_rings_b169 n d q _ _ _ _ _ _ _ _ _ _ h
      · refine bfr_in (i := (sA σ 29 (ci_1 + x1))) (m := 6) 5 (pc1 := 129) (L1 := [some (.ref 0), some (.int x1), o2, some (.int x3), some (.int x4), some (.int x5), some (.int x6), some (.int (sA σ 29 (ci_1 + x1))), o8]) (J1 := []) (st1 := [(.int (sA σ 40 (sA σ 29 (ci_1 + x1)))), (.ref 0)]) (w1 := mkM σ) (fun _ _ => rfl) h (fun h => ?_)
        refine bfr_call 1 (d1 := d + 4) (M1 := M_X12_moreOut) (vs := [(.ref 0), (.int (sA σ 40 (sA σ 29 (ci_1 + x1))))]) (w1 := mkM σ) (pc2 := 132) (L2 := [some (.ref 0), some (.int x1), o2, some (.int x3), some (.int x4), some (.int x5), some (.int x6), some (.int (sA σ 29 (ci_1 + x1))), o8]) (J2 := []) (rest := []) (fun a => some (.int a.1)) (fun a => mkM a.2) (fun _ _ => rfl) h (fun a ha => k_m_moreOut n (d + 4) _ _ _ ha) (fun q1 _ h => ?_)
        refine bfr_br 1 (pc1 := 169) (L1 := [some (.ref 0), some (.int x1), o2, some (.int x3), some (.int x4), some (.int x5), some (.int x6), some (.int (sA σ 29 (ci_1 + x1))), o8]) (J1 := []) (st1 := []) (w1 := mkM q1.2) (pc2 := 135) (L2 := [some (.ref 0), some (.int x1), o2, some (.int x3), some (.int x4), some (.int x5), some (.int x6), some (.int (sA σ 29 (ci_1 + x1))), o8]) (J2 := []) (st2 := []) (w2 := mkM q1.2) (fun _ _ => rfl) h (fun h => ?_) (fun h => ?_)
        · exact k_m_rings_b169 n d q _ _ _ _ _ _ _ _ _ _ h
        · refine bfr_in (i := (sA σ 29 (ci_1 + x1))) (m := 6) 5 (pc1 := 143) (L1 := [some (.ref 0), some (.int x1), o2, some (.int x3), some (.int x4), some (.int x5), some (.int x6), some (.int (sA σ 29 (ci_1 + x1))), o8]) (J1 := []) (st1 := [(.int (sA q1.2 40 (sA σ 29 (ci_1 + x1)))), (.ref 0)]) (w1 := mkM q1.2) (fun _ _ => rfl) h (fun h => ?_)
          refine bfr_call 1 (d1 := d + 4) (M1 := M_X12_moreOut) (vs := [(.ref 0), (.int (sA q1.2 40 (sA σ 29 (ci_1 + x1))))]) (w1 := mkM q1.2) (pc2 := 146) (L2 := [some (.ref 0), some (.int x1), o2, some (.int x3), some (.int x4), some (.int x5), some (.int x6), some (.int (sA σ 29 (ci_1 + x1))), o8]) (J2 := []) (rest := []) (fun a => some (.int a.1)) (fun a => mkM a.2) (fun _ _ => rfl) h (fun a ha => k_m_moreOut n (d + 4) _ _ _ ha) (fun q2 _ h => ?_)
          refine bfr_br 1 (pc1 := 166) (L1 := [some (.ref 0), some (.int x1), o2, some (.int x3), some (.int x4), some (.int x5), some (.int x6), some (.int (sA σ 29 (ci_1 + x1))), o8]) (J1 := []) (st1 := []) (w1 := mkM q2.2) (pc2 := 149) (L2 := [some (.ref 0), some (.int x1), o2, some (.int x3), some (.int x4), some (.int x5), some (.int x6), some (.int (sA σ 29 (ci_1 + x1))), o8]) (J2 := []) (st2 := []) (w2 := mkM q2.2) (fun _ _ => rfl) h (fun h => ?_) (fun h => ?_)
          · exact k_m_rings_b166 n d q _ _ _ _ _ _ _ _ _ _ h
          · refine bfr_in (i := (sA σ 29 (ci_1 + x1))) (m := 6) 4 (pc1 := 156) (L1 := [some (.ref 0), some (.int x1), o2, some (.int x3), some (.int x4), some (.int x5), some (.int x6), some (.int (sA σ 29 (ci_1 + x1))), o8]) (J1 := []) (st1 := [(.int (sA q2.2 38 (sA σ 29 (ci_1 + x1))))]) (w1 := mkM q2.2) (fun _ _ => rfl) h (fun h => ?_)
            refine bfr_in (i := (sA σ 29 (ci_1 + x1))) (m := 6) 4 (pc1 := 163) (L1 := [some (.ref 0), some (.int x1), o2, some (.int x3), some (.int x4), some (.int x5), some (.int x6), some (.int (sA σ 29 (ci_1 + x1))), o8]) (J1 := []) (st1 := [(.int (sA q2.2 39 (sA σ 29 (ci_1 + x1)))), (.int (sA q2.2 38 (sA σ 29 (ci_1 + x1))))]) (w1 := mkM q2.2) (fun _ _ => rfl) h (fun h => ?_)
            refine bfr_br 1 (pc1 := 169) (L1 := [some (.ref 0), some (.int x1), o2, some (.int x3), some (.int x4), some (.int x5), some (.int x6), some (.int (sA σ 29 (ci_1 + x1))), o8]) (J1 := []) (st1 := []) (w1 := mkM q2.2) (pc2 := 166) (L2 := [some (.ref 0), some (.int x1), o2, some (.int x3), some (.int x4), some (.int x5), some (.int x6), some (.int (sA σ 29 (ci_1 + x1))), o8]) (J2 := []) (st2 := []) (w2 := mkM q2.2) (fun _ _ => rfl) h (fun h => ?_) (fun h => ?_)
            · exact k_m_rings_b169 n d q _ _ _ _ _ _ _ _ _ _ h
            · exact k_m_rings_b166 n d q _ _ _ _ _ _ _ _ _ _ h
    · refine bfr_call 3 (d1 := d + 4) (M1 := M_X12_moreOut) (vs := [(.ref 0), (.int x7)]) (w1 := mkM σ) (pc2 := 63) (L2 := [some (.ref 0), some (.int x1), o2, some (.int x3), some (.int x4), some (.int x5), some (.int x6), some (.int x7), o8]) (J2 := []) (rest := []) (fun a => some (.int a.1)) (fun a => mkM a.2) (fun _ _ => rfl) h (fun a ha => k_m_moreOut n (d + 4) _ _ _ ha) (fun q3 _ h => ?_)
      refine bfr_br 3 (pc1 := 73) (L1 := [some (.ref 0), some (.int x1), o2, some (.int x3), some (.int x4), some (.int x5), some (.int x6), some (.int x7), some (.int q3.1)]) (J1 := []) (st1 := []) (w1 := mkM q3.2) (pc2 := 70) (L2 := [some (.ref 0), some (.int x1), o2, some (.int x3), some (.int x4), some (.int x5), some (.int x6), some (.int x7), some (.int q3.1)]) (J2 := []) (st2 := []) (w2 := mkM q3.2) (fun _ _ => rfl) h (fun h => ?_) (fun h => ?_)
      · refine bfr_run 1 76 [some (.ref 0), some (.int x1), o2, some (.int x3), some (.int (x4 + ci_1)), some (.int x5), some (.int x6), some (.int x7), some (.int q3.1)] [] [] (mkM q3.2) (fun _ _ => rfl) ?_
        refine bfr_br 2 (pc1 := 81) (L1 := [some (.ref 0), some (.int x1), o2, some (.int x3), some (.int (x4 + ci_1)), some (.int x5), some (.int x6), some (.int x7), some (.int q3.1)]) (J1 := []) (st1 := []) (w1 := mkM q3.2) (pc2 := 84) (L2 := [some (.ref 0), some (.int x1), o2, some (.int x3), some (.int (x4 + ci_1)), some (.int x5), some (.int x6), some (.int x7), some (.int q3.1)]) (J2 := []) (st2 := []) (w2 := mkM q3.2) (fun _ _ => rfl) h (fun h => ?_) (fun h => ?_)
        · refine bfr_run 1 84 [some (.ref 0), some (.int x1), o2, some (.int x3), some (.int (x4 + ci_1)), some (.int (x5 + ci_1)), some (.int x6), some (.int x7), some (.int q3.1)] [] [] (mkM q3.2) (fun _ _ => rfl) ?_
          exact k_m_rings_b84 n d _ q (ih) _ _ _ _ _ _ _ _ _ h
        · exact k_m_rings_b84 n d _ q (ih) _ _ _ _ _ _ _ _ _ h
      · refine bfr_run 1 100 [some (.ref 0), some (.int x1), o2, some (.int x3), some (.int x4), some (.int x5), some (.int x6), some (.int x7), some (.int q3.1)] [] [] (mkM q3.2) (fun _ _ => rfl) ?_
        exact k_m_rings_b100 n d _ q (ih) _ _ _ _ _ _ _ _ _ h
set_option maxRecDepth 100000 in
theorem k_m_rings_b18 (n d : Nat) (q : (Int32 × bS)) (o0 : Option Value) (o1 : Option Value) (o2 : Option Value) (o3 : Option Value) (o4 : Option Value) (o5 : Option Value) (o6 : Option Value) (o7 : Option Value) (o8 : Option Value) (σ : bS) (h : m_rings_b18 n σ = some q) : bfr MT (d + 5) M_X12_rings 18 [o0, o1, o2, o3, o4, o5, o6, o7, o8] [] [] (mkM σ) (some (.int q.1), mkM q.2) := by
  unfold m_rings_b18 at h
  cases h
  exact bfr_ret 2 (fun _ _ => rfl)
set_option maxRecDepth 100000 in
theorem k_m_rings (n d : Nat) (q : (Int32 × bS)) (x1 : Int32) (x2 : Int32) (x3 : Int32) (σ : bS) (h : m_rings n x1 x2 x3 σ = some q) : bfr MT (d + 5) M_X12_rings 0 [some (.ref 0), some (.int x1), some (.int x2), some (.int x3), none, none, none, none, none] [] [] (mkM σ) (some (.int q.1), mkM q.2) := by
  unfold m_rings at h
  refine bfr_call 4 (d1 := d + 4) (M1 := M_X12_isSet) (vs := [(.ref 0), (.int x1), (.int x2)]) (w1 := mkM σ) (pc2 := 6) (L2 := [some (.ref 0), some (.int x1), some (.int x2), some (.int x3), none, none, none, none, none]) (J2 := []) (rest := []) (fun a => some (.int a.1)) (fun a => mkM a.2) (fun _ _ => rfl) h (fun a ha => k_m_isSet n (d + 3) _ _ _ _ ha) (fun q4 _ h => ?_)
  refine bfr_br 1 (pc1 := 18) (L1 := [some (.ref 0), some (.int x1), some (.int x2), some (.int x3), none, none, none, none, none]) (J1 := []) (st1 := []) (w1 := mkM q4.2) (pc2 := 9) (L2 := [some (.ref 0), some (.int x1), some (.int x2), some (.int x3), none, none, none, none, none]) (J2 := []) (st2 := []) (w2 := mkM q4.2) (fun _ _ => rfl) h (fun h => ?_) (fun h => ?_)
  · exact k_m_rings_b18 n d q _ _ _ _ _ _ _ _ _ _ h
  · refine bfr_call 4 (d1 := d + 4) (M1 := M_X12_isIn) (vs := [(.int x3), (.int ci_0), (.int ci_2)]) (w1 := mkM q4.2) (pc2 := 15) (L2 := [some (.ref 0), some (.int x1), some (.int x2), some (.int x3), none, none, none, none, none]) (J2 := []) (rest := []) (fun a => some (.int a.1)) (fun a => mkM a.2) (fun _ _ => rfl) h (fun a ha => k_m_isIn n (d + 4) _ _ _ _ _ ha) (fun q5 _ h => ?_)
    refine bfr_br 1 (pc1 := 18) (L1 := [some (.ref 0), some (.int x1), some (.int x2), some (.int x3), none, none, none, none, none]) (J1 := []) (st1 := []) (w1 := mkM q5.2) (pc2 := 20) (L2 := [some (.ref 0), some (.int x1), some (.int x2), some (.int x3), none, none, none, none, none]) (J2 := []) (st2 := []) (w2 := mkM q5.2) (fun _ _ => rfl) h (fun h => ?_) (fun h => ?_)
    · exact k_m_rings_b18 n d q _ _ _ _ _ _ _ _ _ _ h
    · refine bfr_call 4 (d1 := d + 4) (M1 := M_X12_areAtFoot) (vs := [(.ref 0), (.int x1), (.int x2)]) (w1 := mkM q5.2) (pc2 := 26) (L2 := [some (.ref 0), some (.int x1), some (.int x2), some (.int x3), none, none, none, none, none]) (J2 := []) (rest := []) (fun a => some (.int a.1)) (fun a => mkM a.2) (fun _ _ => rfl) h (fun a ha => k_m_areAtFoot n (d + 2) _ _ _ _ ha) (fun q6 _ h => ?_)
      refine bfr_br 1 (pc1 := 29) (L1 := [some (.ref 0), some (.int x1), some (.int x2), some (.int x3), none, none, none, none, none]) (J1 := []) (st1 := []) (w1 := mkM q6.2) (pc2 := 32) (L2 := [some (.ref 0), some (.int x1), some (.int x2), some (.int x3), none, none, none, none, none]) (J2 := []) (st2 := []) (w2 := mkM q6.2) (fun _ _ => rfl) h (fun h => ?_) (fun h => ?_)
      · cases h
        exact bfr_ret 2 (fun _ _ => rfl)
      · refine bfr_call 4 (d1 := d + 4) (M1 := M_X12_laysArcs) (vs := [(.ref 0), (.int x1), (.int x2)]) (w1 := mkM q6.2) (pc2 := 38) (L2 := [some (.ref 0), some (.int x1), some (.int x2), some (.int x3), none, none, none, none, none]) (J2 := []) (rest := []) (fun _ => none) (fun a => mkM a) (fun _ _ => rfl) h (fun a ha => k_m_laysArcs n (d + 0) _ _ _ _ ha) (fun q7 _ h => ?_)
        refine bfr_run 6 47 [some (.ref 0), some (.int x1), some (.int x2), some (.int x3), some (.int ci_0), some (.int ci_0), some (.int ci_0), none, none] [] [] (mkM q7) (fun _ _ => rfl) ?_
        refine bfr_run 2 50 [some (.ref 0), some (.int x1), some (.int x2), some (.int x3), some (.int ci_0), some (.int ci_0), some (.int ci_0), some (.int ci_0), none] [] [] (mkM q7) (fun _ _ => rfl) ?_
        exact k_m_rings_b50 n d q _ _ _ _ _ _ _ _ _ _ h
set_option maxRecDepth 100000 in
theorem k_m_gainOf_b105 (n d : Nat) (q : (Int32 × bS)) (s1 : Int32) (s2 : Int32) (o0 : Option Value) (o1 : Option Value) (o2 : Option Value) (o3 : Option Value) (σ : bS) (h : m_gainOf_b105 n s1 s2 σ = some q) : bfr MT (d + 3) M_X12_gainOf 105 [o0, o1, o2, o3] [] [(.int s2), (.int s1), (.ref 0)] (mkM σ) (some (.int q.1), mkM q.2) := by
  unfold m_gainOf_b105 at h
  refine bfr_call 1 (d1 := d + 2) (M1 := M_X12_lawOf) (vs := [(.ref 0), (.int s1), (.int s2)]) (w1 := mkM σ) (pc2 := 108) (L2 := [o0, o1, o2, o3]) (J2 := []) (rest := []) (fun a => some (.int a.1)) (fun a => mkM a.2) (fun _ _ => rfl) h (fun a ha => k_m_lawOf n (d + 0) _ _ _ _ ha) (fun q1 _ h => ?_)
  refine bfr_call 3 (d1 := d + 2) (M1 := M_X12_within) (vs := [(.int q1.1), (.int cb_m99), (.int cb_99)]) (w1 := mkM q1.2) (pc2 := 115) (L2 := [o0, o1, o2, o3]) (J2 := []) (rest := []) (fun a => some (.int a.1)) (fun a => mkM a.2) (fun _ _ => rfl) h (fun a ha => k_m_within n (d + 2) _ _ _ _ _ ha) (fun q2 _ h => ?_)
  cases h
  exact bfr_ret 1 (fun _ _ => rfl)
set_option maxRecDepth 100000 in
theorem k_m_gainOf_b67 (n d : Nat) (q : (Int32 × bS)) (x1 : Int32) (x2 : Int32) (x3 : Int32) (s1 : Int32) (s2 : Int32) (σ : bS) (h : m_gainOf_b67 n x1 x2 x3 s1 s2 σ = some q) : bfr MT (d + 3) M_X12_gainOf 67 [some (.ref 0), some (.int x1), some (.int x2), some (.int x3)] [] [(.int s2), (.int s1), (.ref 31)] (mkM σ) (some (.int q.1), mkM q.2) := by
  unfold m_gainOf_b67 at h
  refine bfr_in (i := s1) (m := 8) 1 (pc1 := 68) (L1 := [some (.ref 0), some (.int x1), some (.int x2), some (.int x3)]) (J1 := []) (st1 := []) (w1 := ((mkM σ).set 31 (.inl (0, 8, upd (σ.2.1 31) (s1).toNatClampNeg s2)))) (fun _ _ => rfl) h (fun h => ?_)
  rw [mkM_A31]
  refine bfr_in (i := ci_5) (m := 8) 5 (pc1 := 75) (L1 := [some (.ref 0), some (.int x1), some (.int x2), some (.int x3)]) (J1 := []) (st1 := []) (w1 := ((mkM (uA σ 31 s1 s2)).set 31 (.inl (0, 8, upd ((uA σ 31 s1 s2).2.1 31) (ci_5).toNatClampNeg x1)))) (fun _ _ => rfl) h (fun h => ?_)
  rw [mkM_A31]
  refine bfr_in (i := cb_6) (m := 8) 5 (pc1 := 83) (L1 := [some (.ref 0), some (.int x1), some (.int x2), some (.int x3)]) (J1 := []) (st1 := []) (w1 := ((mkM (uA (uA σ 31 s1 s2) 31 ci_5 x1)).set 31 (.inl (0, 8, upd ((uA (uA σ 31 s1 s2) 31 ci_5 x1).2.1 31) (cb_6).toNatClampNeg x3)))) (fun _ _ => rfl) h (fun h => ?_)
  rw [mkM_A31]
  refine bfr_in (i := cb_7) (m := 8) 5 (pc1 := 91) (L1 := [some (.ref 0), some (.int x1), some (.int x2), some (.int x3)]) (J1 := []) (st1 := []) (w1 := ((mkM (uA (uA (uA σ 31 s1 s2) 31 ci_5 x1) 31 cb_6 x3)).set 31 (.inl (0, 8, upd ((uA (uA (uA σ 31 s1 s2) 31 ci_5 x1) 31 cb_6 x3).2.1 31) (cb_7).toNatClampNeg x2)))) (fun _ _ => rfl) h (fun h => ?_)
  rw [mkM_A31]
  refine bfr_run 6 101 [some (.ref 0), some (.int x1), some (.int x2), some (.int x3)] [] [(.int ci_4), (.ref 31), (.int cb_20), (.int cb_12), (.ref 0)] (mkM (uA (uA (uA (uA σ 31 s1 s2) 31 ci_5 x1) 31 cb_6 x3) 31 cb_7 x2)) (fun _ _ => rfl) ?_
  refine bfr_in (i := ci_4) (m := 8) 1 (pc1 := 102) (L1 := [some (.ref 0), some (.int x1), some (.int x2), some (.int x3)]) (J1 := []) (st1 := [(.int (sA (uA (uA (uA (uA σ 31 s1 s2) 31 ci_5 x1) 31 cb_6 x3) 31 cb_7 x2) 31 ci_4)), (.int cb_20), (.int cb_12), (.ref 0)]) (w1 := mkM (uA (uA (uA (uA σ 31 s1 s2) 31 ci_5 x1) 31 cb_6 x3) 31 cb_7 x2)) (fun _ _ => rfl) h (fun h => ?_)
  refine bfr_run 3 105 [some (.ref 0), some (.int x1), some (.int x2), some (.int x3)] [] [(.int ((cb_20 * (sA (uA (uA (uA (uA σ 31 s1 s2) 31 ci_5 x1) 31 cb_6 x3) 31 cb_7 x2) 31 ci_4)) - x2)), (.int cb_12), (.ref 0)] (mkM (uA (uA (uA (uA σ 31 s1 s2) 31 ci_5 x1) 31 cb_6 x3) 31 cb_7 x2)) (fun _ _ => rfl) ?_
  exact k_m_gainOf_b105 n d q _ _ _ _ _ _ _ h
set_option maxRecDepth 100000 in
theorem k_m_gainOf (n d : Nat) (q : (Int32 × bS)) (x1 : Int32) (x2 : Int32) (x3 : Int32) (σ : bS) (h : m_gainOf n x1 x2 x3 σ = some q) : bfr MT (d + 3) M_X12_gainOf 0 [some (.ref 0), some (.int x1), some (.int x2), some (.int x3)] [] [] (mkM σ) (some (.int q.1), mkM q.2) := by
  unfold m_gainOf at h
  refine bfr_run 6 10 [some (.ref 0), some (.int x1), some (.int x2), some (.int x3)] [] [(.int x1), (.ref 42), (.int ci_0), (.ref 31)] (mkM σ) (fun _ _ => rfl) ?_
  refine bfr_in (i := x1) (m := 7) 1 (pc1 := 11) (L1 := [some (.ref 0), some (.int x1), some (.int x2), some (.int x3)]) (J1 := []) (st1 := [(.int (sA σ 42 x1)), (.int ci_0), (.ref 31)]) (w1 := mkM σ) (fun _ _ => rfl) h (fun h => ?_)
  refine bfr_in (i := ci_0) (m := 8) 1 (pc1 := 12) (L1 := [some (.ref 0), some (.int x1), some (.int x2), some (.int x3)]) (J1 := []) (st1 := []) (w1 := ((mkM σ).set 31 (.inl (0, 8, upd (σ.2.1 31) (ci_0).toNatClampNeg (sA σ 42 x1))))) (fun _ _ => rfl) h (fun h => ?_)
  rw [mkM_A31]
  refine bfr_in (i := ci_1) (m := 8) 5 (pc1 := 19) (L1 := [some (.ref 0), some (.int x1), some (.int x2), some (.int x3)]) (J1 := []) (st1 := []) (w1 := ((mkM (uA σ 31 ci_0 (sA σ 42 x1))).set 31 (.inl (0, 8, upd ((uA σ 31 ci_0 (sA σ 42 x1)).2.1 31) (ci_1).toNatClampNeg ci_0)))) (fun _ _ => rfl) h (fun h => ?_)
  rw [mkM_A31]
  refine bfr_run 6 30 [some (.ref 0), some (.int x1), some (.int x2), some (.int x3)] [] [(.int cb_26), (.ref 29), (.int ci_2), (.ref 31)] (mkM (uA (uA σ 31 ci_0 (sA σ 42 x1)) 31 ci_1 ci_0)) (fun _ _ => rfl) ?_
  refine bfr_in (i := (cb_26 + x1)) (m := 2208) 3 (pc1 := 33) (L1 := [some (.ref 0), some (.int x1), some (.int x2), some (.int x3)]) (J1 := []) (st1 := [(.int (sA (uA (uA σ 31 ci_0 (sA σ 42 x1)) 31 ci_1 ci_0) 29 (cb_26 + x1))), (.int ci_2), (.ref 31)]) (w1 := mkM (uA (uA σ 31 ci_0 (sA σ 42 x1)) 31 ci_1 ci_0)) (fun _ _ => rfl) h (fun h => ?_)
  refine bfr_in (i := ci_2) (m := 8) 1 (pc1 := 34) (L1 := [some (.ref 0), some (.int x1), some (.int x2), some (.int x3)]) (J1 := []) (st1 := []) (w1 := ((mkM (uA (uA σ 31 ci_0 (sA σ 42 x1)) 31 ci_1 ci_0)).set 31 (.inl (0, 8, upd ((uA (uA σ 31 ci_0 (sA σ 42 x1)) 31 ci_1 ci_0).2.1 31) (ci_2).toNatClampNeg (sA (uA (uA σ 31 ci_0 (sA σ 42 x1)) 31 ci_1 ci_0) 29 (cb_26 + x1)))))) (fun _ _ => rfl) h (fun h => ?_)
  rw [mkM_A31]
  refine bfr_run 6 45 [some (.ref 0), some (.int x1), some (.int x2), some (.int x3)] [] [(.int cb_19), (.ref 29), (.int ci_3), (.ref 31)] (mkM (uA (uA (uA σ 31 ci_0 (sA σ 42 x1)) 31 ci_1 ci_0) 31 ci_2 (sA (uA (uA σ 31 ci_0 (sA σ 42 x1)) 31 ci_1 ci_0) 29 (cb_26 + x1)))) (fun _ _ => rfl) ?_
  refine bfr_in (i := (cb_19 + x1)) (m := 2208) 3 (pc1 := 48) (L1 := [some (.ref 0), some (.int x1), some (.int x2), some (.int x3)]) (J1 := []) (st1 := [(.int (sA (uA (uA (uA σ 31 ci_0 (sA σ 42 x1)) 31 ci_1 ci_0) 31 ci_2 (sA (uA (uA σ 31 ci_0 (sA σ 42 x1)) 31 ci_1 ci_0) 29 (cb_26 + x1))) 29 (cb_19 + x1))), (.int ci_3), (.ref 31)]) (w1 := mkM (uA (uA (uA σ 31 ci_0 (sA σ 42 x1)) 31 ci_1 ci_0) 31 ci_2 (sA (uA (uA σ 31 ci_0 (sA σ 42 x1)) 31 ci_1 ci_0) 29 (cb_26 + x1)))) (fun _ _ => rfl) h (fun h => ?_)
  refine bfr_in (i := ci_3) (m := 8) 1 (pc1 := 49) (L1 := [some (.ref 0), some (.int x1), some (.int x2), some (.int x3)]) (J1 := []) (st1 := []) (w1 := ((mkM (uA (uA (uA σ 31 ci_0 (sA σ 42 x1)) 31 ci_1 ci_0) 31 ci_2 (sA (uA (uA σ 31 ci_0 (sA σ 42 x1)) 31 ci_1 ci_0) 29 (cb_26 + x1)))).set 31 (.inl (0, 8, upd ((uA (uA (uA σ 31 ci_0 (sA σ 42 x1)) 31 ci_1 ci_0) 31 ci_2 (sA (uA (uA σ 31 ci_0 (sA σ 42 x1)) 31 ci_1 ci_0) 29 (cb_26 + x1))).2.1 31) (ci_3).toNatClampNeg (sA (uA (uA (uA σ 31 ci_0 (sA σ 42 x1)) 31 ci_1 ci_0) 31 ci_2 (sA (uA (uA σ 31 ci_0 (sA σ 42 x1)) 31 ci_1 ci_0) 29 (cb_26 + x1))) 29 (cb_19 + x1)))))) (fun _ _ => rfl) h (fun h => ?_)
  rw [mkM_A31]
  refine bfr_call 6 (d1 := d + 2) (M1 := M_X12_isHome) (vs := [(.ref 0), (.int x1)]) (w1 := mkM (uA (uA (uA (uA σ 31 ci_0 (sA σ 42 x1)) 31 ci_1 ci_0) 31 ci_2 (sA (uA (uA σ 31 ci_0 (sA σ 42 x1)) 31 ci_1 ci_0) 29 (cb_26 + x1))) 31 ci_3 (sA (uA (uA (uA σ 31 ci_0 (sA σ 42 x1)) 31 ci_1 ci_0) 31 ci_2 (sA (uA (uA σ 31 ci_0 (sA σ 42 x1)) 31 ci_1 ci_0) 29 (cb_26 + x1))) 29 (cb_19 + x1)))) (pc2 := 59) (L2 := [some (.ref 0), some (.int x1), some (.int x2), some (.int x3)]) (J2 := []) (rest := [(.int ci_4), (.ref 31)]) (fun a => some (.int a.1)) (fun a => mkM a.2) (fun _ _ => rfl) h (fun a ha => k_m_isHome n (d + 1) _ _ _ ha) (fun q3 _ h => ?_)
  refine bfr_br 1 (pc1 := 66) (L1 := [some (.ref 0), some (.int x1), some (.int x2), some (.int x3)]) (J1 := []) (st1 := [(.int ci_4), (.ref 31)]) (w1 := mkM q3.2) (pc2 := 62) (L2 := [some (.ref 0), some (.int x1), some (.int x2), some (.int x3)]) (J2 := []) (st2 := [(.int ci_4), (.ref 31)]) (w2 := mkM q3.2) (fun _ _ => rfl) h (fun h => ?_) (fun h => ?_)
  · refine bfr_run 1 67 [some (.ref 0), some (.int x1), some (.int x2), some (.int x3)] [] [(.int ci_0), (.int ci_4), (.ref 31)] (mkM q3.2) (fun _ _ => rfl) ?_
    exact k_m_gainOf_b67 n d q _ _ _ _ _ _ h
  · refine bfr_run 2 67 [some (.ref 0), some (.int x1), some (.int x2), some (.int x3)] [] [(.int ci_1), (.int ci_4), (.ref 31)] (mkM q3.2) (fun _ _ => rfl) ?_
    exact k_m_gainOf_b67 n d q _ _ _ _ _ _ h
set_option maxRecDepth 100000 in
theorem k_m_laysGains_b56 (n d : Nat) (q : bS) : ∀ (k : Nat) (x1 : Int32) (x4 : Int32) (o2 : Option Value) (o3 : Option Value) (σ : bS), m_laysGains_b56 n k x1 x4 σ = some q → bfr MT (d + 5) M_X12_laysGains 56 [some (.ref 0), some (.int x1), o2, o3, some (.int x4)] [] [] (mkM σ) (none, mkM q) := by
  intro k
  induction k with
  | zero => intro x1 x4 o2 o3 σ h; exact bno h
  | succ k ih =>
    intro x1 x4 o2 o3 σ h
    unfold m_laysGains_b56 at h
    refine bfr_br 4 (pc1 := 102) (L1 := [some (.ref 0), some (.int x1), o2, o3, some (.int x4)]) (J1 := []) (st1 := []) (w1 := mkM σ) (pc2 := 65) (L2 := [some (.ref 0), some (.int x1), o2, o3, some (.int x4)]) (J2 := []) (st2 := []) (w2 := mkM σ) (fun _ _ => rfl) h (fun h => ?_) (fun h => ?_)
    · cases h
      exact bfr_ret 1 (fun _ _ => rfl)
    · refine bfr_in (i := x4) (m := 7) 6 (pc1 := 76) (L1 := [some (.ref 0), some (.int x1), o2, o3, some (.int x4)]) (J1 := []) (st1 := [(.int (sA σ 34 x4)), (.ref 41)]) (w1 := mkM σ) (fun _ _ => rfl) h (fun h => ?_)
      refine bfr_in (i := x4) (m := 7) 5 (pc1 := 84) (L1 := [some (.ref 0), some (.int x1), o2, o3, some (.int x4)]) (J1 := []) (st1 := [(.int (sA σ 34 x4)), (.ref 0), (.int (sA σ 34 x4)), (.ref 41)]) (w1 := mkM σ) (fun _ _ => rfl) h (fun h => ?_)
      refine bfr_in (i := x1) (m := 8) 5 (pc1 := 92) (L1 := [some (.ref 0), some (.int x1), o2, o3, some (.int x4)]) (J1 := []) (st1 := [(.int (sA σ 18 x1)), (.int x4), (.int (sA σ 34 x4)), (.ref 0), (.int (sA σ 34 x4)), (.ref 41)]) (w1 := mkM σ) (fun _ _ => rfl) h (fun h => ?_)
      refine bfr_call 1 (d1 := d + 4) (M1 := M_X12_gainOf) (vs := [(.ref 0), (.int (sA σ 34 x4)), (.int x4), (.int (sA σ 18 x1))]) (w1 := mkM σ) (pc2 := 95) (L2 := [some (.ref 0), some (.int x1), o2, o3, some (.int x4)]) (J2 := []) (rest := [(.int (sA σ 34 x4)), (.ref 41)]) (fun a => some (.int a.1)) (fun a => mkM a.2) (fun _ _ => rfl) h (fun a ha => k_m_gainOf n (d + 1) _ _ _ _ _ ha) (fun q1 _ h => ?_)
      refine bfr_in (i := (sA σ 34 x4)) (m := 7) 1 (pc1 := 96) (L1 := [some (.ref 0), some (.int x1), o2, o3, some (.int x4)]) (J1 := []) (st1 := []) (w1 := ((mkM q1.2).set 41 (.inl (0, 7, upd (q1.2.2.1 41) ((sA σ 34 x4)).toNatClampNeg q1.1)))) (fun _ _ => rfl) h (fun h => ?_)
      rw [mkM_A41]
      refine bfr_run 1 99 [some (.ref 0), some (.int x1), o2, o3, some (.int (x4 + ci_1))] [] [] (mkM (uA q1.2 41 (sA σ 34 x4) q1.1)) (fun _ _ => rfl) ?_
      refine bfr_run 1 56 [some (.ref 0), some (.int x1), o2, o3, some (.int (x4 + ci_1))] [] [] (mkM (uA q1.2 41 (sA σ 34 x4) q1.1)) (fun _ _ => rfl) ?_
      exact ih _ _ _ _ _ h
set_option maxRecDepth 100000 in
theorem k_m_laysGains_b9 (n d : Nat) (q : bS) : ∀ (k : Nat) (x1 : Int32) (x4 : Int32) (o2 : Option Value) (o3 : Option Value) (σ : bS), m_laysGains_b9 n k x1 x4 σ = some q → bfr MT (d + 5) M_X12_laysGains 9 [some (.ref 0), some (.int x1), o2, o3, some (.int x4)] [] [] (mkM σ) (none, mkM q) := by
  intro k
  induction k with
  | zero => intro x1 x4 o2 o3 σ h; exact bno h
  | succ k ih =>
    intro x1 x4 o2 o3 σ h
    unfold m_laysGains_b9 at h
    refine bfr_br 4 (pc1 := 48) (L1 := [some (.ref 0), some (.int x1), o2, o3, some (.int x4)]) (J1 := []) (st1 := []) (w1 := mkM σ) (pc2 := 18) (L2 := [some (.ref 0), some (.int x1), o2, o3, some (.int x4)]) (J2 := []) (st2 := []) (w2 := mkM σ) (fun _ _ => rfl) h (fun h => ?_) (fun h => ?_)
    · refine bfr_call 3 (d1 := d + 4) (M1 := M_X12_rowGoes) (vs := [(.ref 0), (.int x1)]) (w1 := mkM σ) (pc2 := 53) (L2 := [some (.ref 0), some (.int x1), o2, o3, some (.int x4)]) (J2 := []) (rest := []) (fun _ => none) (fun a => mkM a) (fun _ _ => rfl) h (fun a ha => k_m_rowGoes n (d + 0) _ _ _ ha) (fun q2 _ h => ?_)
      refine bfr_run 2 56 [some (.ref 0), some (.int x1), o2, o3, some (.int ci_0)] [] [] (mkM q2) (fun _ _ => rfl) ?_
      exact k_m_laysGains_b56 n d q _ _ _ _ _ _ h
    · refine bfr_in (i := x4) (m := 7) 6 (pc1 := 29) (L1 := [some (.ref 0), some (.int x1), o2, o3, some (.int x4)]) (J1 := []) (st1 := [(.int (sA σ 34 x4)), (.ref 42)]) (w1 := mkM σ) (fun _ _ => rfl) h (fun h => ?_)
      refine bfr_in (i := ci_0) (m := 2208) 4 (pc1 := 35) (L1 := [some (.ref 0), some (.int x1), o2, o3, some (.int x4)]) (J1 := []) (st1 := [(.int (sA σ 29 ci_0)), (.int (sA σ 34 x4)), (.ref 42)]) (w1 := mkM σ) (fun _ _ => rfl) h (fun h => ?_)
      refine bfr_chk 4 (pc1 := 41) (L1 := [some (.ref 0), some (.int x1), o2, o3, some (.int x4)]) (J1 := []) (st1 := [(.int (brem ((sA σ 29 ci_0) + x4) cb_24)), (.int (sA σ 34 x4)), (.ref 42)]) (w1 := mkM σ) (fun _ _ => rfl) h (fun h => ?_)
      refine bfr_in (i := (sA σ 34 x4)) (m := 7) 1 (pc1 := 42) (L1 := [some (.ref 0), some (.int x1), o2, o3, some (.int x4)]) (J1 := []) (st1 := []) (w1 := ((mkM σ).set 42 (.inl (0, 7, upd (σ.2.1 42) ((sA σ 34 x4)).toNatClampNeg (brem ((sA σ 29 ci_0) + x4) cb_24))))) (fun _ _ => rfl) h (fun h => ?_)
      rw [mkM_A42]
      refine bfr_run 1 45 [some (.ref 0), some (.int x1), o2, o3, some (.int (x4 + ci_1))] [] [] (mkM (uA σ 42 (sA σ 34 x4) (brem ((sA σ 29 ci_0) + x4) cb_24))) (fun _ _ => rfl) ?_
      refine bfr_run 1 9 [some (.ref 0), some (.int x1), o2, o3, some (.int (x4 + ci_1))] [] [] (mkM (uA σ 42 (sA σ 34 x4) (brem ((sA σ 29 ci_0) + x4) cb_24))) (fun _ _ => rfl) ?_
      exact ih _ _ _ _ _ h
set_option maxRecDepth 100000 in
theorem k_m_laysGains (n d : Nat) (q : bS) (x1 : Int32) (x2 : Int32) (x3 : Int32) (σ : bS) (h : m_laysGains n x1 x2 x3 σ = some q) : bfr MT (d + 5) M_X12_laysGains 0 [some (.ref 0), some (.int x1), some (.int x2), some (.int x3), none] [] [] (mkM σ) (none, mkM q) := by
  unfold m_laysGains at h
  refine bfr_call 4 (d1 := d + 4) (M1 := M_X12_laysRow) (vs := [(.ref 0), (.int x2), (.int x3)]) (w1 := mkM σ) (pc2 := 6) (L2 := [some (.ref 0), some (.int x1), some (.int x2), some (.int x3), none]) (J2 := []) (rest := []) (fun _ => none) (fun a => mkM a) (fun _ _ => rfl) h (fun a ha => k_m_laysRow n (d + 4) _ _ _ _ ha) (fun q3 _ h => ?_)
  refine bfr_run 2 9 [some (.ref 0), some (.int x1), some (.int x2), some (.int x3), some (.int ci_0)] [] [] (mkM q3) (fun _ _ => rfl) ?_
  exact k_m_laysGains_b9 n d q _ _ _ _ _ _ h
set_option maxRecDepth 100000 in
theorem k_m_isLate_b47 (n d : Nat) (q : (Int32 × bS)) (s0 : Int32) (o0 : Option Value) (o1 : Option Value) (o2 : Option Value) (o3 : Option Value) (σ : bS) (h : m_isLate_b47 n s0 σ = some q) : bfr MT (d + 3) M_X12_isLate 47 [o0, o1, o2, o3] [] [(.int s0)] (mkM σ) (some (.int q.1), mkM q.2) := by
  unfold m_isLate_b47 at h
  exact bfr_bz (mk := mkM) 1 (fun _ _ => rfl) h
set_option maxRecDepth 100000 in
theorem k_m_isLate_b46 (n d : Nat) (q : (Int32 × bS)) (o0 : Option Value) (o1 : Option Value) (o2 : Option Value) (o3 : Option Value) (σ : bS) (h : m_isLate_b46 n σ = some q) : bfr MT (d + 3) M_X12_isLate 46 [o0, o1, o2, o3] [] [] (mkM σ) (some (.int q.1), mkM q.2) := by
  unfold m_isLate_b46 at h
  refine bfr_run 1 47 [o0, o1, o2, o3] [] [(.int ci_0)] (mkM σ) (fun _ _ => rfl) ?_
  exact k_m_isLate_b47 n d q _ _ _ _ _ _ h
set_option maxRecDepth 100000 in
theorem k_m_isLate (n d : Nat) (q : (Int32 × bS)) (x1 : Int32) (x2 : Int32) (x3 : Int32) (σ : bS) (h : m_isLate n x1 x2 x3 σ = some q) : bfr MT (d + 3) M_X12_isLate 0 [some (.ref 0), some (.int x1), some (.int x2), some (.int x3)] [] [] (mkM σ) (some (.int q.1), mkM q.2) := by
  unfold m_isLate at h
  refine bfr_call 4 (d1 := d + 2) (M1 := M_X12_isSet) (vs := [(.ref 0), (.int x1), (.int x2)]) (w1 := mkM σ) (pc2 := 6) (L2 := [some (.ref 0), some (.int x1), some (.int x2), some (.int x3)]) (J2 := []) (rest := []) (fun a => some (.int a.1)) (fun a => mkM a.2) (fun _ _ => rfl) h (fun a ha => k_m_isSet n (d + 1) _ _ _ _ ha) (fun q1 _ h => ?_)
  refine bfr_br 1 (pc1 := 46) (L1 := [some (.ref 0), some (.int x1), some (.int x2), some (.int x3)]) (J1 := []) (st1 := []) (w1 := mkM q1.2) (pc2 := 9) (L2 := [some (.ref 0), some (.int x1), some (.int x2), some (.int x3)]) (J2 := []) (st2 := []) (w2 := mkM q1.2) (fun _ _ => rfl) h (fun h => ?_) (fun h => ?_)
  · exact k_m_isLate_b46 n d q _ _ _ _ _ h
  · refine bfr_br 2 (pc1 := 46) (L1 := [some (.ref 0), some (.int x1), some (.int x2), some (.int x3)]) (J1 := []) (st1 := []) (w1 := mkM q1.2) (pc2 := 13) (L2 := [some (.ref 0), some (.int x1), some (.int x2), some (.int x3)]) (J2 := []) (st2 := []) (w2 := mkM q1.2) (fun _ _ => rfl) h (fun h => ?_) (fun h => ?_)
    · exact k_m_isLate_b46 n d q _ _ _ _ _ h
    · refine bfr_in (i := ci_0) (m := 2) 6 (pc1 := 21) (L1 := [some (.ref 0), some (.int x1), some (.int x2), some (.int x3)]) (J1 := []) (st1 := [(.int (sA q1.2 20 ci_0)), (.int ci_1), (.int x3)]) (w1 := mkM q1.2) (fun _ _ => rfl) h (fun h => ?_)
      refine bfr_br 2 (pc1 := 46) (L1 := [some (.ref 0), some (.int x1), some (.int x2), some (.int x3)]) (J1 := []) (st1 := []) (w1 := mkM q1.2) (pc2 := 25) (L2 := [some (.ref 0), some (.int x1), some (.int x2), some (.int x3)]) (J2 := []) (st2 := []) (w2 := mkM q1.2) (fun _ _ => rfl) h (fun h => ?_) (fun h => ?_)
      · exact k_m_isLate_b46 n d q _ _ _ _ _ h
      · refine bfr_br 6 (pc1 := 33) (L1 := [some (.ref 0), some (.int x1), some (.int x2), some (.int x3)]) (J1 := []) (st1 := []) (w1 := mkM q1.2) (pc2 := 46) (L2 := [some (.ref 0), some (.int x1), some (.int x2), some (.int x3)]) (J2 := []) (st2 := []) (w2 := mkM q1.2) (fun _ _ => rfl) h (fun h => ?_) (fun h => ?_)
        · refine bfr_call 4 (d1 := d + 2) (M1 := M_X12_areAtFoot) (vs := [(.ref 0), (.int x1), (.int x2)]) (w1 := mkM q1.2) (pc2 := 39) (L2 := [some (.ref 0), some (.int x1), some (.int x2), some (.int x3)]) (J2 := []) (rest := []) (fun a => some (.int a.1)) (fun a => mkM a.2) (fun _ _ => rfl) h (fun a ha => k_m_areAtFoot n (d + 0) _ _ _ _ ha) (fun q2 _ h => ?_)
          refine bfr_br 1 (pc1 := 46) (L1 := [some (.ref 0), some (.int x1), some (.int x2), some (.int x3)]) (J1 := []) (st1 := []) (w1 := mkM q2.2) (pc2 := 42) (L2 := [some (.ref 0), some (.int x1), some (.int x2), some (.int x3)]) (J2 := []) (st2 := []) (w2 := mkM q2.2) (fun _ _ => rfl) h (fun h => ?_) (fun h => ?_)
          · exact k_m_isLate_b46 n d q _ _ _ _ _ h
          · refine bfr_run 2 47 [some (.ref 0), some (.int x1), some (.int x2), some (.int x3)] [] [(.int ci_1)] (mkM q2.2) (fun _ _ => rfl) ?_
            exact k_m_isLate_b47 n d q _ _ _ _ _ _ h
        · exact k_m_isLate_b46 n d q _ _ _ _ _ h
set_option maxRecDepth 100000 in
theorem k_m_gain_b28 (n d : Nat) (q : (Int32 × bS)) (o0 : Option Value) (o1 : Option Value) (o2 : Option Value) (o3 : Option Value) (o4 : Option Value) (σ : bS) (h : m_gain_b28 n σ = some q) : bfr MT (d + 6) M_X12_gain 28 [o0, o1, o2, o3, o4] [] [] (mkM σ) (some (.int q.1), mkM q.2) := by
  unfold m_gain_b28 at h
  cases h
  exact bfr_ret 2 (fun _ _ => rfl)
set_option maxRecDepth 100000 in
theorem k_m_gain (n d : Nat) (q : (Int32 × bS)) (x1 : Int32) (x2 : Int32) (x3 : Int32) (x4 : Int32) (σ : bS) (h : m_gain n x1 x2 x3 x4 σ = some q) : bfr MT (d + 6) M_X12_gain 0 [some (.ref 0), some (.int x1), some (.int x2), some (.int x3), some (.int x4)] [] [] (mkM σ) (some (.int q.1), mkM q.2) := by
  unfold m_gain at h
  refine bfr_call 5 (d1 := d + 5) (M1 := M_X12_isLate) (vs := [(.ref 0), (.int x1), (.int x2), (.int x3)]) (w1 := mkM σ) (pc2 := 7) (L2 := [some (.ref 0), some (.int x1), some (.int x2), some (.int x3), some (.int x4)]) (J2 := []) (rest := []) (fun a => some (.int a.1)) (fun a => mkM a.2) (fun _ _ => rfl) h (fun a ha => k_m_isLate n (d + 2) _ _ _ _ _ ha) (fun q1 _ h => ?_)
  refine bfr_br 1 (pc1 := 28) (L1 := [some (.ref 0), some (.int x1), some (.int x2), some (.int x3), some (.int x4)]) (J1 := []) (st1 := []) (w1 := mkM q1.2) (pc2 := 10) (L2 := [some (.ref 0), some (.int x1), some (.int x2), some (.int x3), some (.int x4)]) (J2 := []) (st2 := []) (w2 := mkM q1.2) (fun _ _ => rfl) h (fun h => ?_) (fun h => ?_)
  · exact k_m_gain_b28 n d q _ _ _ _ _ _ h
  · refine bfr_call 3 (d1 := d + 5) (M1 := M_X12_isMan) (vs := [(.ref 0), (.int x4)]) (w1 := mkM q1.2) (pc2 := 16) (L2 := [some (.ref 0), some (.int x1), some (.int x2), some (.int x3), some (.int x4)]) (J2 := []) (rest := []) (fun a => some (.int a.1)) (fun a => mkM a.2) (fun _ _ => rfl) h (fun a ha => k_m_isMan n (d + 5) _ _ _ ha) (fun q2 _ h => ?_)
    refine bfr_br 1 (pc1 := 28) (L1 := [some (.ref 0), some (.int x1), some (.int x2), some (.int x3), some (.int x4)]) (J1 := []) (st1 := []) (w1 := mkM q2.2) (pc2 := 19) (L2 := [some (.ref 0), some (.int x1), some (.int x2), some (.int x3), some (.int x4)]) (J2 := []) (st2 := []) (w2 := mkM q2.2) (fun _ _ => rfl) h (fun h => ?_) (fun h => ?_)
    · exact k_m_gain_b28 n d q _ _ _ _ _ _ h
    · refine bfr_br 6 (pc1 := 28) (L1 := [some (.ref 0), some (.int x1), some (.int x2), some (.int x3), some (.int x4)]) (J1 := []) (st1 := []) (w1 := mkM q2.2) (pc2 := 32) (L2 := [some (.ref 0), some (.int x1), some (.int x2), some (.int x3), some (.int x4)]) (J2 := []) (st2 := []) (w2 := mkM q2.2) (fun _ _ => rfl) h (fun h => ?_) (fun h => ?_)
      · exact k_m_gain_b28 n d q _ _ _ _ _ _ h
      · refine bfr_call 5 (d1 := d + 5) (M1 := M_X12_laysGains) (vs := [(.ref 0), (.int x1), (.int x2), (.int x3)]) (w1 := mkM q2.2) (pc2 := 39) (L2 := [some (.ref 0), some (.int x1), some (.int x2), some (.int x3), some (.int x4)]) (J2 := []) (rest := []) (fun _ => none) (fun a => mkM a) (fun _ _ => rfl) h (fun a ha => k_m_laysGains n (d + 0) _ _ _ _ _ ha) (fun q3 _ h => ?_)
        refine bfr_in (i := x4) (m := 7) 4 (pc1 := 46) (L1 := [some (.ref 0), some (.int x1), some (.int x2), some (.int x3), some (.int x4)]) (J1 := []) (st1 := [(.int (sA q3 41 x4))]) (w1 := mkM q3) (fun _ _ => rfl) h (fun h => ?_)
        cases h
        exact bfr_ret 1 (fun _ _ => rfl)
set_option maxRecDepth 100000 in
theorem k_m_worthOf_b13 (n d : Nat) (q : (Int32 × bS)) : ∀ (k : Nat) (x4 : Int32) (x5 : Int32) (o1 : Option Value) (o2 : Option Value) (o3 : Option Value) (σ : bS), m_worthOf_b13 n k x4 x5 σ = some q → bfr MT (d + 6) M_X12_worthOf 13 [some (.ref 0), o1, o2, o3, some (.int x4), some (.int x5)] [] [] (mkM σ) (some (.int q.1), mkM q.2) := by
  intro k
  induction k with
  | zero => intro x4 x5 o1 o2 o3 σ h; exact bno h
  | succ k ih =>
    intro x4 x5 o1 o2 o3 σ h
    unfold m_worthOf_b13 at h
    refine bfr_br 4 (pc1 := 45) (L1 := [some (.ref 0), o1, o2, o3, some (.int x4), some (.int x5)]) (J1 := []) (st1 := []) (w1 := mkM σ) (pc2 := 22) (L2 := [some (.ref 0), o1, o2, o3, some (.int x4), some (.int x5)]) (J2 := []) (st2 := []) (w2 := mkM σ) (fun _ _ => rfl) h (fun h => ?_) (fun h => ?_)
    · cases h
      exact bfr_ret 2 (fun _ _ => rfl)
    · refine bfr_run 6 34 [some (.ref 0), o1, o2, o3, some (.int x4), some (.int x5)] [] [(.int x5), (.ref 34), (.ref 41), (.int x4)] (mkM σ) (fun _ _ => rfl) ?_
      refine bfr_in (i := x5) (m := 7) 1 (pc1 := 35) (L1 := [some (.ref 0), o1, o2, o3, some (.int x4), some (.int x5)]) (J1 := []) (st1 := [(.int (sA σ 34 x5)), (.ref 41), (.int x4)]) (w1 := mkM σ) (fun _ _ => rfl) h (fun h => ?_)
      refine bfr_in (i := (sA σ 34 x5)) (m := 7) 1 (pc1 := 36) (L1 := [some (.ref 0), o1, o2, o3, some (.int x4), some (.int x5)]) (J1 := []) (st1 := [(.int (sA σ 41 (sA σ 34 x5))), (.int x4)]) (w1 := mkM σ) (fun _ _ => rfl) h (fun h => ?_)
      refine bfr_run 3 42 [some (.ref 0), o1, o2, o3, some (.int (x4 + (sA σ 41 (sA σ 34 x5)))), some (.int (x5 + ci_1))] [] [] (mkM σ) (fun _ _ => rfl) ?_
      refine bfr_run 1 13 [some (.ref 0), o1, o2, o3, some (.int (x4 + (sA σ 41 (sA σ 34 x5)))), some (.int (x5 + ci_1))] [] [] (mkM σ) (fun _ _ => rfl) ?_
      exact ih _ _ _ _ _ _ h
set_option maxRecDepth 100000 in
theorem k_m_worthOf (n d : Nat) (q : (Int32 × bS)) (x1 : Int32) (x2 : Int32) (x3 : Int32) (σ : bS) (h : m_worthOf n x1 x2 x3 σ = some q) : bfr MT (d + 6) M_X12_worthOf 0 [some (.ref 0), some (.int x1), some (.int x2), some (.int x3), none, none] [] [] (mkM σ) (some (.int q.1), mkM q.2) := by
  unfold m_worthOf at h
  refine bfr_call 5 (d1 := d + 5) (M1 := M_X12_laysGains) (vs := [(.ref 0), (.int x1), (.int x2), (.int x3)]) (w1 := mkM σ) (pc2 := 7) (L2 := [some (.ref 0), some (.int x1), some (.int x2), some (.int x3), none, none]) (J2 := []) (rest := []) (fun _ => none) (fun a => mkM a) (fun _ _ => rfl) h (fun a ha => k_m_laysGains n (d + 0) _ _ _ _ _ ha) (fun q1 _ h => ?_)
  refine bfr_run 4 13 [some (.ref 0), some (.int x1), some (.int x2), some (.int x3), some (.int ci_0), some (.int ci_0)] [] [] (mkM q1) (fun _ _ => rfl) ?_
  exact k_m_worthOf_b13 n d q _ _ _ _ _ _ _ h
set_option maxRecDepth 100000 in
theorem k_m_worth_b23 (n d : Nat) (q : (Int32 × bS)) (s0 : Int32) (o0 : Option Value) (o1 : Option Value) (o2 : Option Value) (o3 : Option Value) (σ : bS) (h : m_worth_b23 n s0 σ = some q) : bfr MT (d + 7) M_X12_worth 23 [o0, o1, o2, o3] [] [(.int s0)] (mkM σ) (some (.int q.1), mkM q.2) := by
  unfold m_worth_b23 at h
  cases h
  exact bfr_ret 1 (fun _ _ => rfl)
set_option maxRecDepth 100000 in
theorem k_m_worth (n d : Nat) (q : (Int32 × bS)) (x1 : Int32) (x2 : Int32) (x3 : Int32) (σ : bS) (h : m_worth n x1 x2 x3 σ = some q) : bfr MT (d + 7) M_X12_worth 0 [some (.ref 0), some (.int x1), some (.int x2), some (.int x3)] [] [] (mkM σ) (some (.int q.1), mkM q.2) := by
  unfold m_worth at h
  refine bfr_call 5 (d1 := d + 6) (M1 := M_X12_isLate) (vs := [(.ref 0), (.int x1), (.int x2), (.int x3)]) (w1 := mkM σ) (pc2 := 7) (L2 := [some (.ref 0), some (.int x1), some (.int x2), some (.int x3)]) (J2 := []) (rest := []) (fun a => some (.int a.1)) (fun a => mkM a.2) (fun _ _ => rfl) h (fun a ha => k_m_isLate n (d + 3) _ _ _ _ _ ha) (fun q1 _ h => ?_)
  refine bfr_br 1 (pc1 := 20) (L1 := [some (.ref 0), some (.int x1), some (.int x2), some (.int x3)]) (J1 := []) (st1 := []) (w1 := mkM q1.2) (pc2 := 10) (L2 := [some (.ref 0), some (.int x1), some (.int x2), some (.int x3)]) (J2 := []) (st2 := []) (w2 := mkM q1.2) (fun _ _ => rfl) h (fun h => ?_) (fun h => ?_)
  · refine bfr_run 1 23 [some (.ref 0), some (.int x1), some (.int x2), some (.int x3)] [] [(.int cs_m1000)] (mkM q1.2) (fun _ _ => rfl) ?_
    exact k_m_worth_b23 n d q _ _ _ _ _ _ h
  · refine bfr_call 5 (d1 := d + 6) (M1 := M_X12_worthOf) (vs := [(.ref 0), (.int x1), (.int x2), (.int x3)]) (w1 := mkM q1.2) (pc2 := 17) (L2 := [some (.ref 0), some (.int x1), some (.int x2), some (.int x3)]) (J2 := []) (rest := []) (fun a => some (.int a.1)) (fun a => mkM a.2) (fun _ _ => rfl) h (fun a ha => k_m_worthOf n (d + 0) _ _ _ _ _ ha) (fun q2 _ h => ?_)
    refine bfr_run 1 23 [some (.ref 0), some (.int x1), some (.int x2), some (.int x3)] [] [(.int q2.1)] (mkM q2.2) (fun _ _ => rfl) ?_
    exact k_m_worth_b23 n d q _ _ _ _ _ _ h
set_option maxRecDepth 100000 in
theorem k_m_isRest_b68 (n d : Nat) (r3 : Int32 → Int32 → Int32 → Int32 → bS → Option (Int32 × bS)) (q : (Int32 × bS)) (hr3 : ∀ (x1 : Int32) (x2 : Int32) (x3 : Int32) (x4 : Int32) (o5 : Option Value) (σ : bS), r3 x1 x2 x3 x4 σ = some q → bfr MT (d + 6) M_X12_isRest 3 [some (.ref 0), some (.int x1), some (.int x2), some (.int x3), some (.int x4), o5] [] [] (mkM σ) (some (.int q.1), mkM q.2)) (x1 : Int32) (x2 : Int32) (x3 : Int32) (x4 : Int32) (o5 : Option Value) (σ : bS) (h : m_isRest_b68 n r3 x1 x2 x3 x4 σ = some q) : bfr MT (d + 6) M_X12_isRest 68 [some (.ref 0), some (.int x1), some (.int x2), some (.int x3), some (.int x4), o5] [] [] (mkM σ) (some (.int q.1), mkM q.2) := by
  unfold m_isRest_b68 at h
  refine bfr_run 1 71 [some (.ref 0), some (.int x1), some (.int x2), some (.int x3), some (.int (x4 + ci_1)), o5] [] [] (mkM σ) (fun _ _ => rfl) ?_
  refine bfr_run 1 3 [some (.ref 0), some (.int x1), some (.int x2), some (.int x3), some (.int (x4 + ci_1)), o5] [] [] (mkM σ) (fun _ _ => rfl) ?_
  exact hr3 _ _ _ _ _ _ h
set_option maxRecDepth 100000 in
theorem k_m_isRest_b3 (n d : Nat) (q : (Int32 × bS)) : ∀ (k : Nat) (x1 : Int32) (x2 : Int32) (x3 : Int32) (x4 : Int32) (o5 : Option Value) (σ : bS), m_isRest_b3 n k x1 x2 x3 x4 σ = some q → bfr MT (d + 6) M_X12_isRest 3 [some (.ref 0), some (.int x1), some (.int x2), some (.int x3), some (.int x4), o5] [] [] (mkM σ) (some (.int q.1), mkM q.2) := by
  intro k
  induction k with
  | zero => intro x1 x2 x3 x4 o5 σ h; exact bno h
  | succ k ih =>
    intro x1 x2 x3 x4 o5 σ h
    unfold m_isRest_b3 at h
    refine bfr_in (i := ci_0) (m := 2) 5 (pc1 := 11) (L1 := [some (.ref 0), some (.int x1), some (.int x2), some (.int x3), some (.int x4), o5]) (J1 := []) (st1 := [(.int (sA σ 20 ci_0)), (.int x4)]) (w1 := mkM σ) (fun _ _ => rfl) h (fun h => ?_)
    refine bfr_br 1 (pc1 := 74) (L1 := [some (.ref 0), some (.int x1), some (.int x2), some (.int x3), some (.int x4), o5]) (J1 := []) (st1 := []) (w1 := mkM σ) (pc2 := 14) (L2 := [some (.ref 0), some (.int x1), some (.int x2), some (.int x3), some (.int x4), o5]) (J2 := []) (st2 := []) (w2 := mkM σ) (fun _ _ => rfl) h (fun h => ?_) (fun h => ?_)
    · exact bfr_bz (mk := mkM) 2 (fun _ _ => rfl) h
    · refine bfr_br 6 (pc1 := 23) (L1 := [some (.ref 0), some (.int x1), some (.int x2), some (.int x3), some (.int x4), o5]) (J1 := []) (st1 := []) (w1 := mkM σ) (pc2 := 26) (L2 := [some (.ref 0), some (.int x1), some (.int x2), some (.int x3), some (.int x4), o5]) (J2 := []) (st2 := []) (w2 := mkM σ) (fun _ _ => rfl) h (fun h => ?_) (fun h => ?_)
      · refine bfr_run 1 68 [some (.ref 0), some (.int x1), some (.int x2), some (.int x3), some (.int x4), o5] [] [] (mkM σ) (fun _ _ => rfl) ?_
        exact k_m_isRest_b68 n d _ q (ih) _ _ _ _ _ _ h
      · refine bfr_call 5 (d1 := d + 5) (M1 := M_X12_laysGains) (vs := [(.ref 0), (.int x1), (.int x2), (.int x3)]) (w1 := mkM σ) (pc2 := 33) (L2 := [some (.ref 0), some (.int x1), some (.int x2), some (.int x3), some (.int x4), o5]) (J2 := []) (rest := []) (fun _ => none) (fun a => mkM a) (fun _ _ => rfl) h (fun a ha => k_m_laysGains n (d + 0) _ _ _ _ _ ha) (fun q1 _ h => ?_)
        refine bfr_in (i := x4) (m := 7) 4 (pc1 := 40) (L1 := [some (.ref 0), some (.int x1), some (.int x2), some (.int x3), some (.int x4), o5]) (J1 := []) (st1 := [(.int (sA q1 41 x4))]) (w1 := mkM q1) (fun _ _ => rfl) h (fun h => ?_)
        refine bfr_run 6 47 [some (.ref 0), some (.int x1), some (.int x2), some (.int x3), some (.int x4), some (.int (sA q1 41 x4))] [] [(.int ci_1), (.int x3), (.int x2), (.int x1), (.ref 0)] (mkM q1) (fun _ _ => rfl) ?_
        refine bfr_call 4 (d1 := d + 5) (M1 := M_X12_laysGains) (vs := [(.ref 0), (.int x1), (.int x2), (.int (x3 ^^^ (ci_1 <<< (x4 &&& 31))))]) (w1 := mkM q1) (pc2 := 54) (L2 := [some (.ref 0), some (.int x1), some (.int x2), some (.int x3), some (.int x4), some (.int (sA q1 41 x4))]) (J2 := []) (rest := []) (fun _ => none) (fun a => mkM a) (fun _ _ => rfl) h (fun a ha => k_m_laysGains n (d + 0) _ _ _ _ _ ha) (fun q2 _ h => ?_)
        refine bfr_in (i := x4) (m := 7) 4 (pc1 := 61) (L1 := [some (.ref 0), some (.int x1), some (.int x2), some (.int x3), some (.int x4), some (.int (sA q1 41 x4))]) (J1 := []) (st1 := [(.int (sA q2 41 x4))]) (w1 := mkM q2) (fun _ _ => rfl) h (fun h => ?_)
        refine bfr_br 2 (pc1 := 68) (L1 := [some (.ref 0), some (.int x1), some (.int x2), some (.int x3), some (.int x4), some (.int (sA q1 41 x4))]) (J1 := []) (st1 := []) (w1 := mkM q2) (pc2 := 66) (L2 := [some (.ref 0), some (.int x1), some (.int x2), some (.int x3), some (.int x4), some (.int (sA q1 41 x4))]) (J2 := []) (st2 := []) (w2 := mkM q2) (fun _ _ => rfl) h (fun h => ?_) (fun h => ?_)
        · exact k_m_isRest_b68 n d _ q (ih) _ _ _ _ _ _ h
        · exact bfr_bz (mk := mkM) 2 (fun _ _ => rfl) h
set_option maxRecDepth 100000 in
theorem k_m_isRest (n d : Nat) (q : (Int32 × bS)) (x1 : Int32) (x2 : Int32) (x3 : Int32) (σ : bS) (h : m_isRest n x1 x2 x3 σ = some q) : bfr MT (d + 6) M_X12_isRest 0 [some (.ref 0), some (.int x1), some (.int x2), some (.int x3), none, none] [] [] (mkM σ) (some (.int q.1), mkM q.2) := by
  unfold m_isRest at h
  refine bfr_run 2 3 [some (.ref 0), some (.int x1), some (.int x2), some (.int x3), some (.int ci_0), none] [] [] (mkM σ) (fun _ _ => rfl) ?_
  exact k_m_isRest_b3 n d q _ _ _ _ _ _ _ h
set_option maxRecDepth 100000 in
theorem k_m_rests_b99 (n d : Nat) (q : (Int32 × bS)) (s0 : Int32) (o0 : Option Value) (o1 : Option Value) (o2 : Option Value) (o3 : Option Value) (o4 : Option Value) (o5 : Option Value) (σ : bS) (h : m_rests_b99 n s0 σ = some q) : bfr MT (d + 7) M_X12_rests 99 [o0, o1, o2, o3, o4, o5] [] [(.int s0)] (mkM σ) (some (.int q.1), mkM q.2) := by
  unfold m_rests_b99 at h
  cases h
  exact bfr_ret 1 (fun _ _ => rfl)
set_option maxRecDepth 100000 in
theorem k_m_rests_b82 (n d : Nat) (r34 : Int32 → Int32 → Int32 → Int32 → Int32 → bS → Option (Int32 × bS)) (q : (Int32 × bS)) (hr34 : ∀ (x1 : Int32) (x2 : Int32) (x3 : Int32) (x4 : Int32) (x5 : Int32) (σ : bS), r34 x1 x2 x3 x4 x5 σ = some q → bfr MT (d + 7) M_X12_rests 34 [some (.ref 0), some (.int x1), some (.int x2), some (.int x3), some (.int x4), some (.int x5)] [] [] (mkM σ) (some (.int q.1), mkM q.2)) (x1 : Int32) (x2 : Int32) (x3 : Int32) (x4 : Int32) (x5 : Int32) (σ : bS) (h : m_rests_b82 n r34 x1 x2 x3 x4 x5 σ = some q) : bfr MT (d + 7) M_X12_rests 82 [some (.ref 0), some (.int x1), some (.int x2), some (.int x3), some (.int x4), some (.int x5)] [] [] (mkM σ) (some (.int q.1), mkM q.2) := by
  unfold m_rests_b82 at h
  refine bfr_run 1 85 [some (.ref 0), some (.int x1), some (.int x2), some (.int x3), some (.int x4), some (.int (x5 + ci_1))] [] [] (mkM σ) (fun _ _ => rfl) ?_
  refine bfr_run 1 34 [some (.ref 0), some (.int x1), some (.int x2), some (.int x3), some (.int x4), some (.int (x5 + ci_1))] [] [] (mkM σ) (fun _ _ => rfl) ?_
  exact hr34 _ _ _ _ _ _ h
set_option maxRecDepth 100000 in
theorem k_m_rests_b34 (n d : Nat) (q : (Int32 × bS)) : ∀ (k : Nat) (x1 : Int32) (x2 : Int32) (x3 : Int32) (x4 : Int32) (x5 : Int32) (σ : bS), m_rests_b34 n k x1 x2 x3 x4 x5 σ = some q → bfr MT (d + 7) M_X12_rests 34 [some (.ref 0), some (.int x1), some (.int x2), some (.int x3), some (.int x4), some (.int x5)] [] [] (mkM σ) (some (.int q.1), mkM q.2) := by
  intro k
  induction k with
  | zero => intro x1 x2 x3 x4 x5 σ h; exact bno h
  | succ k ih =>
    intro x1 x2 x3 x4 x5 σ h
    unfold m_rests_b34 at h
    refine bfr_in (i := ci_0) (m := 2) 6 (pc1 := 43) (L1 := [some (.ref 0), some (.int x1), some (.int x2), some (.int x3), some (.int x4), some (.int x5)]) (J1 := []) (st1 := [(.int (sA σ 20 ci_0)), (.int ci_1), (.int x5)]) (w1 := mkM σ) (fun _ _ => rfl) h (fun h => ?_)
    refine bfr_br 2 (pc1 := 88) (L1 := [some (.ref 0), some (.int x1), some (.int x2), some (.int x3), some (.int x4), some (.int x5)]) (J1 := []) (st1 := []) (w1 := mkM σ) (pc2 := 47) (L2 := [some (.ref 0), some (.int x1), some (.int x2), some (.int x3), some (.int x4), some (.int x5)]) (J2 := []) (st2 := []) (w2 := mkM σ) (fun _ _ => rfl) h (fun h => ?_) (fun h => ?_)
    · refine bfr_br 3 (pc1 := 93) (L1 := [some (.ref 0), some (.int x1), some (.int x2), some (.int x3), some (.int x4), some (.int x5)]) (J1 := []) (st1 := []) (w1 := mkM σ) (pc2 := 98) (L2 := [some (.ref 0), some (.int x1), some (.int x2), some (.int x3), some (.int x4), some (.int x5)]) (J2 := []) (st2 := []) (w2 := mkM σ) (fun _ _ => rfl) h (fun h => ?_) (fun h => ?_)
      · refine bfr_run 2 99 [some (.ref 0), some (.int x1), some (.int x2), some (.int x3), some (.int x4), some (.int x5)] [] [(.int x4)] (mkM σ) (fun _ _ => rfl) ?_
        exact k_m_rests_b99 n d q _ _ _ _ _ _ _ _ h
      · refine bfr_run 1 99 [some (.ref 0), some (.int x1), some (.int x2), some (.int x3), some (.int x4), some (.int x5)] [] [(.int ci_m1)] (mkM σ) (fun _ _ => rfl) ?_
        exact k_m_rests_b99 n d q _ _ _ _ _ _ _ _ h
    · refine bfr_br 6 (pc1 := 56) (L1 := [some (.ref 0), some (.int x1), some (.int x2), some (.int x3), some (.int x4), some (.int x5)]) (J1 := []) (st1 := []) (w1 := mkM σ) (pc2 := 82) (L2 := [some (.ref 0), some (.int x1), some (.int x2), some (.int x3), some (.int x4), some (.int x5)]) (J2 := []) (st2 := []) (w2 := mkM σ) (fun _ _ => rfl) h (fun h => ?_) (fun h => ?_)
      · refine bfr_call 5 (d1 := d + 6) (M1 := M_X12_isRest) (vs := [(.ref 0), (.int x1), (.int x2), (.int x5)]) (w1 := mkM σ) (pc2 := 64) (L2 := [some (.ref 0), some (.int x1), some (.int x2), some (.int x3), some (.int x4), some (.int x5)]) (J2 := []) (rest := []) (fun a => some (.int a.1)) (fun a => mkM a.2) (fun _ _ => rfl) h (fun a ha => k_m_isRest n (d + 0) _ _ _ _ _ ha) (fun q1 _ h => ?_)
        refine bfr_br 1 (pc1 := 67) (L1 := [some (.ref 0), some (.int x1), some (.int x2), some (.int x3), some (.int x4), some (.int x5)]) (J1 := []) (st1 := []) (w1 := mkM q1.2) (pc2 := 70) (L2 := [some (.ref 0), some (.int x1), some (.int x2), some (.int x3), some (.int x4), some (.int x5)]) (J2 := []) (st2 := []) (w2 := mkM q1.2) (fun _ _ => rfl) h (fun h => ?_) (fun h => ?_)
        · refine bfr_run 1 82 [some (.ref 0), some (.int x1), some (.int x2), some (.int x3), some (.int x4), some (.int x5)] [] [] (mkM q1.2) (fun _ _ => rfl) ?_
          exact k_m_rests_b82 n d _ q (ih) _ _ _ _ _ _ h
        · refine bfr_br 3 (pc1 := 76) (L1 := [some (.ref 0), some (.int x1), some (.int x2), some (.int x3), some (.int x4), some (.int x5)]) (J1 := []) (st1 := []) (w1 := mkM q1.2) (pc2 := 79) (L2 := [some (.ref 0), some (.int x1), some (.int x2), some (.int x3), some (.int x4), some (.int x5)]) (J2 := []) (st2 := []) (w2 := mkM q1.2) (fun _ _ => rfl) h (fun h => ?_) (fun h => ?_)
          · cases h
            exact bfr_ret 2 (fun _ _ => rfl)
          · refine bfr_run 1 82 [some (.ref 0), some (.int x1), some (.int x2), some (.int x3), some (.int (x4 + ci_1)), some (.int x5)] [] [] (mkM q1.2) (fun _ _ => rfl) ?_
            exact k_m_rests_b82 n d _ q (ih) _ _ _ _ _ _ h
      · exact k_m_rests_b82 n d _ q (ih) _ _ _ _ _ _ h
set_option maxRecDepth 100000 in
theorem k_m_rests_b14 (n d : Nat) (q : (Int32 × bS)) (o0 : Option Value) (o1 : Option Value) (o2 : Option Value) (o3 : Option Value) (o4 : Option Value) (o5 : Option Value) (σ : bS) (h : m_rests_b14 n σ = some q) : bfr MT (d + 7) M_X12_rests 14 [o0, o1, o2, o3, o4, o5] [] [] (mkM σ) (some (.int q.1), mkM q.2) := by
  unfold m_rests_b14 at h
  cases h
  exact bfr_ret 2 (fun _ _ => rfl)
set_option maxRecDepth 100000 in
theorem k_m_rests (n d : Nat) (q : (Int32 × bS)) (x1 : Int32) (x2 : Int32) (x3 : Int32) (σ : bS) (h : m_rests n x1 x2 x3 σ = some q) : bfr MT (d + 7) M_X12_rests 0 [some (.ref 0), some (.int x1), some (.int x2), some (.int x3), none, none] [] [] (mkM σ) (some (.int q.1), mkM q.2) := by
  unfold m_rests at h
  refine bfr_call 4 (d1 := d + 6) (M1 := M_X12_isSet) (vs := [(.ref 0), (.int x1), (.int x2)]) (w1 := mkM σ) (pc2 := 6) (L2 := [some (.ref 0), some (.int x1), some (.int x2), some (.int x3), none, none]) (J2 := []) (rest := []) (fun a => some (.int a.1)) (fun a => mkM a.2) (fun _ _ => rfl) h (fun a ha => k_m_isSet n (d + 5) _ _ _ _ ha) (fun q2 _ h => ?_)
  refine bfr_br 1 (pc1 := 14) (L1 := [some (.ref 0), some (.int x1), some (.int x2), some (.int x3), none, none]) (J1 := []) (st1 := []) (w1 := mkM q2.2) (pc2 := 9) (L2 := [some (.ref 0), some (.int x1), some (.int x2), some (.int x3), none, none]) (J2 := []) (st2 := []) (w2 := mkM q2.2) (fun _ _ => rfl) h (fun h => ?_) (fun h => ?_)
  · exact k_m_rests_b14 n d q _ _ _ _ _ _ _ h
  · refine bfr_br 3 (pc1 := 16) (L1 := [some (.ref 0), some (.int x1), some (.int x2), some (.int x3), none, none]) (J1 := []) (st1 := []) (w1 := mkM q2.2) (pc2 := 14) (L2 := [some (.ref 0), some (.int x1), some (.int x2), some (.int x3), none, none]) (J2 := []) (st2 := []) (w2 := mkM q2.2) (fun _ _ => rfl) h (fun h => ?_) (fun h => ?_)
    · refine bfr_call 4 (d1 := d + 6) (M1 := M_X12_areAtFoot) (vs := [(.ref 0), (.int x1), (.int x2)]) (w1 := mkM q2.2) (pc2 := 22) (L2 := [some (.ref 0), some (.int x1), some (.int x2), some (.int x3), none, none]) (J2 := []) (rest := []) (fun a => some (.int a.1)) (fun a => mkM a.2) (fun _ _ => rfl) h (fun a ha => k_m_areAtFoot n (d + 4) _ _ _ _ ha) (fun q3 _ h => ?_)
      refine bfr_br 1 (pc1 := 25) (L1 := [some (.ref 0), some (.int x1), some (.int x2), some (.int x3), none, none]) (J1 := []) (st1 := []) (w1 := mkM q3.2) (pc2 := 28) (L2 := [some (.ref 0), some (.int x1), some (.int x2), some (.int x3), none, none]) (J2 := []) (st2 := []) (w2 := mkM q3.2) (fun _ _ => rfl) h (fun h => ?_) (fun h => ?_)
      · cases h
        exact bfr_ret 2 (fun _ _ => rfl)
      · refine bfr_run 4 34 [some (.ref 0), some (.int x1), some (.int x2), some (.int x3), some (.int ci_0), some (.int ci_0)] [] [] (mkM q3.2) (fun _ _ => rfl) ?_
        exact k_m_rests_b34 n d q _ _ _ _ _ _ _ h
    · exact k_m_rests_b14 n d q _ _ _ _ _ _ _ h
set_option maxRecDepth 100000 in
theorem k_m_best_b135 (n d : Nat) (q : (Int32 × bS)) (s0 : Int32) (o0 : Option Value) (o1 : Option Value) (o2 : Option Value) (o3 : Option Value) (o4 : Option Value) (o5 : Option Value) (o6 : Option Value) (o7 : Option Value) (σ : bS) (h : m_best_b135 n s0 σ = some q) : bfr MT (d + 7) M_X12_best 135 [o0, o1, o2, o3, o4, o5, o6, o7] [] [(.int s0)] (mkM σ) (some (.int q.1), mkM q.2) := by
  unfold m_best_b135 at h
  cases h
  exact bfr_ret 1 (fun _ _ => rfl)
set_option maxRecDepth 100000 in
theorem k_m_best_b103 (n d : Nat) (r35 : Int32 → Int32 → Int32 → Int32 → Int32 → Int32 → bS → Option (Int32 × bS)) (q : (Int32 × bS)) (hr35 : ∀ (x1 : Int32) (x2 : Int32) (x3 : Int32) (x4 : Int32) (x5 : Int32) (x6 : Int32) (o7 : Option Value) (σ : bS), r35 x1 x2 x3 x4 x5 x6 σ = some q → bfr MT (d + 7) M_X12_best 35 [some (.ref 0), some (.int x1), some (.int x2), some (.int x3), some (.int x4), some (.int x5), some (.int x6), o7] [] [] (mkM σ) (some (.int q.1), mkM q.2)) (x1 : Int32) (x2 : Int32) (x3 : Int32) (x4 : Int32) (x5 : Int32) (x6 : Int32) (o7 : Option Value) (σ : bS) (h : m_best_b103 n r35 x1 x2 x3 x4 x5 x6 σ = some q) : bfr MT (d + 7) M_X12_best 103 [some (.ref 0), some (.int x1), some (.int x2), some (.int x3), some (.int x4), some (.int x5), some (.int x6), o7] [] [] (mkM σ) (some (.int q.1), mkM q.2) := by
  unfold m_best_b103 at h
  refine bfr_run 1 106 [some (.ref 0), some (.int x1), some (.int x2), some (.int x3), some (.int x4), some (.int x5), some (.int (x6 + ci_1)), o7] [] [] (mkM σ) (fun _ _ => rfl) ?_
  refine bfr_run 1 35 [some (.ref 0), some (.int x1), some (.int x2), some (.int x3), some (.int x4), some (.int x5), some (.int (x6 + ci_1)), o7] [] [] (mkM σ) (fun _ _ => rfl) ?_
  exact hr35 _ _ _ _ _ _ _ _ h
set_option maxRecDepth 100000 in
theorem k_m_best_b81 (n d : Nat) (r35 : Int32 → Int32 → Int32 → Int32 → Int32 → Int32 → bS → Option (Int32 × bS)) (q : (Int32 × bS)) (hr35 : ∀ (x1 : Int32) (x2 : Int32) (x3 : Int32) (x4 : Int32) (x5 : Int32) (x6 : Int32) (o7 : Option Value) (σ : bS), r35 x1 x2 x3 x4 x5 x6 σ = some q → bfr MT (d + 7) M_X12_best 35 [some (.ref 0), some (.int x1), some (.int x2), some (.int x3), some (.int x4), some (.int x5), some (.int x6), o7] [] [] (mkM σ) (some (.int q.1), mkM q.2)) (x1 : Int32) (x2 : Int32) (x3 : Int32) (x4 : Int32) (x5 : Int32) (x6 : Int32) (x7 : Int32) (σ : bS) (h : m_best_b81 n r35 x1 x2 x3 x4 x5 x6 x7 σ = some q) : bfr MT (d + 7) M_X12_best 81 [some (.ref 0), some (.int x1), some (.int x2), some (.int x3), some (.int x4), some (.int x5), some (.int x6), some (.int x7)] [] [] (mkM σ) (some (.int q.1), mkM q.2) := by
  unfold m_best_b81 at h
  refine bfr_br 3 (pc1 := 103) (L1 := [some (.ref 0), some (.int x1), some (.int x2), some (.int x3), some (.int x4), some (.int x5), some (.int x6), some (.int x7)]) (J1 := []) (st1 := []) (w1 := mkM σ) (pc2 := 88) (L2 := [some (.ref 0), some (.int x1), some (.int x2), some (.int x3), some (.int x4), some (.int x5), some (.int x6), some (.int x7)]) (J2 := []) (st2 := []) (w2 := mkM σ) (fun _ _ => rfl) h (fun h => ?_) (fun h => ?_)
  · exact k_m_best_b103 n d _ q hr35 _ _ _ _ _ _ _ _ h
  · refine bfr_call 5 (d1 := d + 6) (M1 := M_X12_isRest) (vs := [(.ref 0), (.int x1), (.int x2), (.int x6)]) (w1 := mkM σ) (pc2 := 96) (L2 := [some (.ref 0), some (.int x1), some (.int x2), some (.int x3), some (.int x4), some (.int x5), some (.int x6), some (.int x7)]) (J2 := []) (rest := []) (fun a => some (.int a.1)) (fun a => mkM a.2) (fun _ _ => rfl) h (fun a ha => k_m_isRest n (d + 0) _ _ _ _ _ ha) (fun q1 _ h => ?_)
    refine bfr_br 1 (pc1 := 103) (L1 := [some (.ref 0), some (.int x1), some (.int x2), some (.int x3), some (.int x4), some (.int x5), some (.int x6), some (.int x7)]) (J1 := []) (st1 := []) (w1 := mkM q1.2) (pc2 := 99) (L2 := [some (.ref 0), some (.int x1), some (.int x2), some (.int x3), some (.int x4), some (.int x5), some (.int x6), some (.int x7)]) (J2 := []) (st2 := []) (w2 := mkM q1.2) (fun _ _ => rfl) h (fun h => ?_) (fun h => ?_)
    · exact k_m_best_b103 n d _ q hr35 _ _ _ _ _ _ _ _ h
    · refine bfr_run 2 103 [some (.ref 0), some (.int x1), some (.int x2), some (.int x3), some (.int x4), some (.int x7), some (.int x6), some (.int x7)] [] [] (mkM q1.2) (fun _ _ => rfl) ?_
      exact k_m_best_b103 n d _ q hr35 _ _ _ _ _ _ _ _ h
set_option maxRecDepth 100000 in
theorem k_m_best_b35 (n d : Nat) (q : (Int32 × bS)) : ∀ (k : Nat) (x1 : Int32) (x2 : Int32) (x3 : Int32) (x4 : Int32) (x5 : Int32) (x6 : Int32) (o7 : Option Value) (σ : bS), m_best_b35 n k x1 x2 x3 x4 x5 x6 σ = some q → bfr MT (d + 7) M_X12_best 35 [some (.ref 0), some (.int x1), some (.int x2), some (.int x3), some (.int x4), some (.int x5), some (.int x6), o7] [] [] (mkM σ) (some (.int q.1), mkM q.2) := by
  intro k
  induction k with
  | zero => intro x1 x2 x3 x4 x5 x6 o7 σ h; exact bno h
  | succ k ih =>
    intro x1 x2 x3 x4 x5 x6 o7 σ h
    unfold m_best_b35 at h
    refine bfr_in (i := ci_0) (m := 2) 6 (pc1 := 44) (L1 := [some (.ref 0), some (.int x1), some (.int x2), some (.int x3), some (.int x4), some (.int x5), some (.int x6), o7]) (J1 := []) (st1 := [(.int (sA σ 20 ci_0)), (.int ci_1), (.int x6)]) (w1 := mkM σ) (fun _ _ => rfl) h (fun h => ?_)
    refine bfr_br 2 (pc1 := 109) (L1 := [some (.ref 0), some (.int x1), some (.int x2), some (.int x3), some (.int x4), some (.int x5), some (.int x6), o7]) (J1 := []) (st1 := []) (w1 := mkM σ) (pc2 := 48) (L2 := [some (.ref 0), some (.int x1), some (.int x2), some (.int x3), some (.int x4), some (.int x5), some (.int x6), o7]) (J2 := []) (st2 := []) (w2 := mkM σ) (fun _ _ => rfl) h (fun h => ?_) (fun h => ?_)
    · refine bfr_br 2 (pc1 := 113) (L1 := [some (.ref 0), some (.int x1), some (.int x2), some (.int x3), some (.int x4), some (.int x5), some (.int x6), o7]) (J1 := []) (st1 := []) (w1 := mkM σ) (pc2 := 116) (L2 := [some (.ref 0), some (.int x1), some (.int x2), some (.int x3), some (.int x4), some (.int x5), some (.int x6), o7]) (J2 := []) (st2 := []) (w2 := mkM σ) (fun _ _ => rfl) h (fun h => ?_) (fun h => ?_)
      · cases h
        exact bfr_ret 2 (fun _ _ => rfl)
      · refine bfr_br 3 (pc1 := 124) (L1 := [some (.ref 0), some (.int x1), some (.int x2), some (.int x3), some (.int x4), some (.int x5), some (.int x6), o7]) (J1 := []) (st1 := []) (w1 := mkM σ) (pc2 := 130) (L2 := [some (.ref 0), some (.int x1), some (.int x2), some (.int x3), some (.int x4), some (.int x5), some (.int x6), o7]) (J2 := []) (st2 := []) (w2 := mkM σ) (fun _ _ => rfl) h (fun h => ?_) (fun h => ?_)
        · refine bfr_run 2 135 [some (.ref 0), some (.int x1), some (.int x2), some (.int x3), some (.int x4), some (.int x5), some (.int x6), o7] [] [(.int cs_m1000)] (mkM σ) (fun _ _ => rfl) ?_
          exact k_m_best_b135 n d q _ _ _ _ _ _ _ _ _ _ h
        · refine bfr_run 3 135 [some (.ref 0), some (.int x1), some (.int x2), some (.int x3), some (.int x4), some (.int x5), some (.int x6), o7] [] [(.int (x4 - x5))] (mkM σ) (fun _ _ => rfl) ?_
          exact k_m_best_b135 n d q _ _ _ _ _ _ _ _ _ _ h
    · refine bfr_br 6 (pc1 := 60) (L1 := [some (.ref 0), some (.int x1), some (.int x2), some (.int x3), some (.int x4), some (.int x5), some (.int x6), o7]) (J1 := []) (st1 := []) (w1 := mkM σ) (pc2 := 57) (L2 := [some (.ref 0), some (.int x1), some (.int x2), some (.int x3), some (.int x4), some (.int x5), some (.int x6), o7]) (J2 := []) (st2 := []) (w2 := mkM σ) (fun _ _ => rfl) h (fun h => ?_) (fun h => ?_)
      · refine bfr_call 5 (d1 := d + 6) (M1 := M_X12_worthOf) (vs := [(.ref 0), (.int x1), (.int x2), (.int x6)]) (w1 := mkM σ) (pc2 := 68) (L2 := [some (.ref 0), some (.int x1), some (.int x2), some (.int x3), some (.int x4), some (.int x5), some (.int x6), o7]) (J2 := []) (rest := []) (fun a => some (.int a.1)) (fun a => mkM a.2) (fun _ _ => rfl) h (fun a ha => k_m_worthOf n (d + 0) _ _ _ _ _ ha) (fun q2 _ h => ?_)
        refine bfr_br 4 (pc1 := 81) (L1 := [some (.ref 0), some (.int x1), some (.int x2), some (.int x3), some (.int x4), some (.int x5), some (.int x6), some (.int q2.1)]) (J1 := []) (st1 := []) (w1 := mkM q2.2) (pc2 := 77) (L2 := [some (.ref 0), some (.int x1), some (.int x2), some (.int x3), some (.int x4), some (.int x5), some (.int x6), some (.int q2.1)]) (J2 := []) (st2 := []) (w2 := mkM q2.2) (fun _ _ => rfl) h (fun h => ?_) (fun h => ?_)
        · exact k_m_best_b81 n d _ q (ih) _ _ _ _ _ _ _ _ h
        · refine bfr_run 2 81 [some (.ref 0), some (.int x1), some (.int x2), some (.int x3), some (.int q2.1), some (.int x5), some (.int x6), some (.int q2.1)] [] [] (mkM q2.2) (fun _ _ => rfl) ?_
          exact k_m_best_b81 n d _ q (ih) _ _ _ _ _ _ _ _ h
      · refine bfr_run 1 103 [some (.ref 0), some (.int x1), some (.int x2), some (.int x3), some (.int x4), some (.int x5), some (.int x6), o7] [] [] (mkM σ) (fun _ _ => rfl) ?_
        exact k_m_best_b103 n d _ q (ih) _ _ _ _ _ _ _ _ h
set_option maxRecDepth 100000 in
theorem k_m_best_b18 (n d : Nat) (q : (Int32 × bS)) (o0 : Option Value) (o1 : Option Value) (o2 : Option Value) (o3 : Option Value) (o4 : Option Value) (o5 : Option Value) (o6 : Option Value) (o7 : Option Value) (σ : bS) (h : m_best_b18 n σ = some q) : bfr MT (d + 7) M_X12_best 18 [o0, o1, o2, o3, o4, o5, o6, o7] [] [] (mkM σ) (some (.int q.1), mkM q.2) := by
  unfold m_best_b18 at h
  cases h
  exact bfr_ret 2 (fun _ _ => rfl)
set_option maxRecDepth 100000 in
theorem k_m_best (n d : Nat) (q : (Int32 × bS)) (x1 : Int32) (x2 : Int32) (x3 : Int32) (σ : bS) (h : m_best n x1 x2 x3 σ = some q) : bfr MT (d + 7) M_X12_best 0 [some (.ref 0), some (.int x1), some (.int x2), some (.int x3), none, none, none, none] [] [] (mkM σ) (some (.int q.1), mkM q.2) := by
  unfold m_best at h
  refine bfr_call 4 (d1 := d + 6) (M1 := M_X12_isSet) (vs := [(.ref 0), (.int x1), (.int x2)]) (w1 := mkM σ) (pc2 := 6) (L2 := [some (.ref 0), some (.int x1), some (.int x2), some (.int x3), none, none, none, none]) (J2 := []) (rest := []) (fun a => some (.int a.1)) (fun a => mkM a.2) (fun _ _ => rfl) h (fun a ha => k_m_isSet n (d + 5) _ _ _ _ ha) (fun q3 _ h => ?_)
  refine bfr_br 1 (pc1 := 18) (L1 := [some (.ref 0), some (.int x1), some (.int x2), some (.int x3), none, none, none, none]) (J1 := []) (st1 := []) (w1 := mkM q3.2) (pc2 := 9) (L2 := [some (.ref 0), some (.int x1), some (.int x2), some (.int x3), none, none, none, none]) (J2 := []) (st2 := []) (w2 := mkM q3.2) (fun _ _ => rfl) h (fun h => ?_) (fun h => ?_)
  · exact k_m_best_b18 n d q _ _ _ _ _ _ _ _ _ h
  · refine bfr_call 4 (d1 := d + 6) (M1 := M_X12_areAtFoot) (vs := [(.ref 0), (.int x1), (.int x2)]) (w1 := mkM q3.2) (pc2 := 15) (L2 := [some (.ref 0), some (.int x1), some (.int x2), some (.int x3), none, none, none, none]) (J2 := []) (rest := []) (fun a => some (.int a.1)) (fun a => mkM a.2) (fun _ _ => rfl) h (fun a ha => k_m_areAtFoot n (d + 4) _ _ _ _ ha) (fun q4 _ h => ?_)
    refine bfr_br 1 (pc1 := 18) (L1 := [some (.ref 0), some (.int x1), some (.int x2), some (.int x3), none, none, none, none]) (J1 := []) (st1 := []) (w1 := mkM q4.2) (pc2 := 22) (L2 := [some (.ref 0), some (.int x1), some (.int x2), some (.int x3), none, none, none, none]) (J2 := []) (st2 := []) (w2 := mkM q4.2) (fun _ _ => rfl) h (fun h => ?_) (fun h => ?_)
    · exact k_m_best_b18 n d q _ _ _ _ _ _ _ _ _ h
    · refine bfr_run 6 35 [some (.ref 0), some (.int x1), some (.int x2), some (.int x3), some (.int cs_m1000), some (.int cs_1000), some (.int ci_0), none] [] [] (mkM q4.2) (fun _ _ => rfl) ?_
      exact k_m_best_b35 n d q _ _ _ _ _ _ _ _ _ h
set_option maxRecDepth 100000 in
theorem k_m_laysPrices_b53 (n d : Nat) (r15 : Int32 → Int32 → Int32 → Int32 → bS → Option (Int32 × bS)) (q : (Int32 × bS)) (hr15 : ∀ (x2 : Int32) (x3 : Int32) (x4 : Int32) (x5 : Int32) (o1 : Option Value) (σ : bS), r15 x2 x3 x4 x5 σ = some q → bfr MT (d + 0) M_X12_laysPrices 15 [some (.ref 0), o1, some (.int x2), some (.int x3), some (.int x4), some (.int x5)] [] [] (mkM σ) (some (.int q.1), mkM q.2)) (x2 : Int32) (x3 : Int32) (x4 : Int32) (x5 : Int32) (o1 : Option Value) (σ : bS) (h : m_laysPrices_b53 n r15 x2 x3 x4 x5 σ = some q) : bfr MT (d + 0) M_X12_laysPrices 53 [some (.ref 0), o1, some (.int x2), some (.int x3), some (.int x4), some (.int x5)] [] [] (mkM σ) (some (.int q.1), mkM q.2) := by
  unfold m_laysPrices_b53 at h
  refine bfr_run 1 15 [some (.ref 0), o1, some (.int x2), some (.int x3), some (.int x4), some (.int x5)] [] [] (mkM σ) (fun _ _ => rfl) ?_
  exact hr15 _ _ _ _ _ _ h
set_option maxRecDepth 100000 in
theorem k_m_laysPrices_b15 (n d : Nat) (q : (Int32 × bS)) : ∀ (k : Nat) (x2 : Int32) (x3 : Int32) (x4 : Int32) (x5 : Int32) (o1 : Option Value) (σ : bS), m_laysPrices_b15 n k x2 x3 x4 x5 σ = some q → bfr MT (d + 0) M_X12_laysPrices 15 [some (.ref 0), o1, some (.int x2), some (.int x3), some (.int x4), some (.int x5)] [] [] (mkM σ) (some (.int q.1), mkM q.2) := by
  intro k
  induction k with
  | zero => intro x2 x3 x4 x5 o1 σ h; exact bno h
  | succ k ih =>
    intro x2 x3 x4 x5 o1 σ h
    unfold m_laysPrices_b15 at h
    refine bfr_br 2 (pc1 := 56) (L1 := [some (.ref 0), o1, some (.int x2), some (.int x3), some (.int x4), some (.int x5)]) (J1 := []) (st1 := []) (w1 := mkM σ) (pc2 := 20) (L2 := [some (.ref 0), o1, some (.int x2), some (.int x3), some (.int x4), some (.int x5)]) (J2 := []) (st2 := []) (w2 := mkM σ) (fun _ _ => rfl) h (fun h => ?_) (fun h => ?_)
    · cases h
      exact bfr_ret 2 (fun _ _ => rfl)
    · refine bfr_run 6 29 [some (.ref 0), o1, some (.int x2), some (.int x3), some (.int x4), some (.int x5)] [] [(.int ci_1), (.int x2), (.int x3), (.int x5), (.ref 36)] (mkM σ) (fun _ _ => rfl) ?_
      refine bfr_chk 2 (pc1 := 31) (L1 := [some (.ref 0), o1, some (.int x2), some (.int x3), some (.int x4), some (.int x5)]) (J1 := []) (st1 := [(.int (brem x3 (x2 + ci_1))), (.int x5), (.ref 36)]) (w1 := mkM σ) (fun _ _ => rfl) h (fun h => ?_)
      refine bfr_in (i := x5) (m := 6) 1 (pc1 := 32) (L1 := [some (.ref 0), o1, some (.int x2), some (.int x3), some (.int x4), some (.int x5)]) (J1 := []) (st1 := []) (w1 := ((mkM σ).set 36 (.inl (0, 6, upd (σ.2.1 36) (x5).toNatClampNeg (brem x3 (x2 + ci_1)))))) (fun _ _ => rfl) h (fun h => ?_)
      rw [mkM_A36]
      refine bfr_in (i := x5) (m := 6) 5 (pc1 := 41) (L1 := [some (.ref 0), o1, some (.int x2), some (.int x3), some (.int x4), some (.int x5)]) (J1 := []) (st1 := [(.int (sA (uA σ 36 x5 (brem x3 (x2 + ci_1))) 36 x5)), (.int x4)]) (w1 := mkM (uA σ 36 x5 (brem x3 (x2 + ci_1)))) (fun _ _ => rfl) h (fun h => ?_)
      refine bfr_run 6 48 [some (.ref 0), o1, some (.int x2), some (.int x3), some (.int (x4 + (sA (uA σ 36 x5 (brem x3 (x2 + ci_1))) 36 x5))), some (.int x5)] [] [(.int (x2 + ci_1)), (.int x3)] (mkM (uA σ 36 x5 (brem x3 (x2 + ci_1)))) (fun _ _ => rfl) ?_
      refine bfr_chk 1 (pc1 := 49) (L1 := [some (.ref 0), o1, some (.int x2), some (.int x3), some (.int (x4 + (sA (uA σ 36 x5 (brem x3 (x2 + ci_1))) 36 x5))), some (.int x5)]) (J1 := []) (st1 := [(.int (x3 / (x2 + ci_1)))]) (w1 := mkM (uA σ 36 x5 (brem x3 (x2 + ci_1)))) (fun _ _ => rfl) h (fun h => ?_)
      refine bfr_run 2 53 [some (.ref 0), o1, some (.int x2), some (.int (x3 / (x2 + ci_1))), some (.int (x4 + (sA (uA σ 36 x5 (brem x3 (x2 + ci_1))) 36 x5))), some (.int (x5 + ci_m1))] [] [] (mkM (uA σ 36 x5 (brem x3 (x2 + ci_1)))) (fun _ _ => rfl) ?_
      exact k_m_laysPrices_b53 n d _ q (ih) _ _ _ _ _ _ h
set_option maxRecDepth 100000 in
theorem k_m_laysPrices_b13 (n d : Nat) (q : (Int32 × bS)) (x2 : Int32) (x3 : Int32) (x4 : Int32) (s0 : Int32) (o1 : Option Value) (o5 : Option Value) (σ : bS) (h : m_laysPrices_b13 n x2 x3 x4 s0 σ = some q) : bfr MT (d + 0) M_X12_laysPrices 13 [some (.ref 0), o1, some (.int x2), some (.int x3), some (.int x4), o5] [] [(.int s0)] (mkM σ) (some (.int q.1), mkM q.2) := by
  unfold m_laysPrices_b13 at h
  refine bfr_run 1 15 [some (.ref 0), o1, some (.int x2), some (.int x3), some (.int x4), some (.int s0)] [] [] (mkM σ) (fun _ _ => rfl) ?_
  exact k_m_laysPrices_b15 n d q _ _ _ _ _ _ _ h
set_option maxRecDepth 100000 in
theorem k_m_laysPrices (n d : Nat) (q : (Int32 × bS)) (x1 : Int32) (x2 : Int32) (σ : bS) (h : m_laysPrices n x1 x2 σ = some q) : bfr MT (d + 0) M_X12_laysPrices 0 [some (.ref 0), some (.int x1), some (.int x2), none, none, none] [] [] (mkM σ) (some (.int q.1), mkM q.2) := by
  unfold m_laysPrices at h
  refine bfr_run 6 9 [some (.ref 0), some (.int x1), some (.int x2), some (.int x1), some (.int ci_0), none] [] [(.ref 12)] (mkM σ) (fun _ _ => rfl) ?_
  refine bfr_in (i := ci_0) (m := 2) 2 (pc1 := 11) (L1 := [some (.ref 0), some (.int x1), some (.int x2), some (.int x1), some (.int ci_0), none]) (J1 := []) (st1 := [(.int (sA σ 12 ci_0))]) (w1 := mkM σ) (fun _ _ => rfl) h (fun h => ?_)
  refine bfr_run 2 13 [some (.ref 0), some (.int x1), some (.int x2), some (.int x1), some (.int ci_0), none] [] [(.int ((sA σ 12 ci_0) - ci_1))] (mkM σ) (fun _ _ => rfl) ?_
  exact k_m_laysPrices_b13 n d q _ _ _ _ _ _ _ h
set_option maxRecDepth 100000 in
theorem k_m_prices_b211 (n d : Nat) (q : (Int32 × bS)) (s0 : Int32) (o0 : Option Value) (o1 : Option Value) (o2 : Option Value) (o3 : Option Value) (o4 : Option Value) (o5 : Option Value) (o6 : Option Value) (o7 : Option Value) (o8 : Option Value) (o9 : Option Value) (σ : bS) (h : m_prices_b211 n s0 σ = some q) : bfr MT (d + 5) M_X12_prices 211 [o0, o1, o2, o3, o4, o5, o6, o7, o8, o9] [] [(.int s0)] (mkM σ) (some (.int q.1), mkM q.2) := by
  unfold m_prices_b211 at h
  cases h
  exact bfr_ret 1 (fun _ _ => rfl)
set_option maxRecDepth 100000 in
theorem k_m_prices_b199 (n d : Nat) (q : (Int32 × bS)) (x6 : Int32) (o0 : Option Value) (o1 : Option Value) (o2 : Option Value) (o3 : Option Value) (o4 : Option Value) (o5 : Option Value) (o7 : Option Value) (o8 : Option Value) (o9 : Option Value) (σ : bS) (h : m_prices_b199 n x6 σ = some q) : bfr MT (d + 5) M_X12_prices 199 [o0, o1, o2, o3, o4, o5, some (.int x6), o7, o8, o9] [] [] (mkM σ) (some (.int q.1), mkM q.2) := by
  unfold m_prices_b199 at h
  refine bfr_run 2 211 [o0, o1, o2, o3, o4, o5, some (.int x6), o7, o8, o9] [] [(.int x6)] (mkM σ) (fun _ _ => rfl) ?_
  exact k_m_prices_b211 n d q _ _ _ _ _ _ _ _ _ _ _ _ h
set_option maxRecDepth 100000 in
theorem k_m_prices_b182 (n d : Nat) (r87 : Int32 → Int32 → Int32 → Int32 → Int32 → Int32 → Int32 → bS → Option (Int32 × bS)) (q : (Int32 × bS)) (hr87 : ∀ (x1 : Int32) (x2 : Int32) (x3 : Int32) (x4 : Int32) (x5 : Int32) (x6 : Int32) (x7 : Int32) (o8 : Option Value) (o9 : Option Value) (σ : bS), r87 x1 x2 x3 x4 x5 x6 x7 σ = some q → bfr MT (d + 5) M_X12_prices 87 [some (.ref 0), some (.int x1), some (.int x2), some (.int x3), some (.int x4), some (.int x5), some (.int x6), some (.int x7), o8, o9] [] [] (mkM σ) (some (.int q.1), mkM q.2)) (x1 : Int32) (x2 : Int32) (x3 : Int32) (x4 : Int32) (x5 : Int32) (x6 : Int32) (x7 : Int32) (o8 : Option Value) (o9 : Option Value) (σ : bS) (h : m_prices_b182 n r87 x1 x2 x3 x4 x5 x6 x7 σ = some q) : bfr MT (d + 5) M_X12_prices 182 [some (.ref 0), some (.int x1), some (.int x2), some (.int x3), some (.int x4), some (.int x5), some (.int x6), some (.int x7), o8, o9] [] [] (mkM σ) (some (.int q.1), mkM q.2) := by
  unfold m_prices_b182 at h
  refine bfr_run 1 185 [some (.ref 0), some (.int x1), some (.int x2), some (.int x3), some (.int x4), some (.int x5), some (.int x6), some (.int (x7 + ci_1)), o8, o9] [] [] (mkM σ) (fun _ _ => rfl) ?_
  refine bfr_run 1 87 [some (.ref 0), some (.int x1), some (.int x2), some (.int x3), some (.int x4), some (.int x5), some (.int x6), some (.int (x7 + ci_1)), o8, o9] [] [] (mkM σ) (fun _ _ => rfl) ?_
  exact hr87 _ _ _ _ _ _ _ _ _ _ h
set_option maxRecDepth 100000 in
theorem k_m_prices_b151 (n d : Nat) (r87 : Int32 → Int32 → Int32 → Int32 → Int32 → Int32 → Int32 → bS → Option (Int32 × bS)) (q : (Int32 × bS)) (hr87 : ∀ (x1 : Int32) (x2 : Int32) (x3 : Int32) (x4 : Int32) (x5 : Int32) (x6 : Int32) (x7 : Int32) (o8 : Option Value) (o9 : Option Value) (σ : bS), r87 x1 x2 x3 x4 x5 x6 x7 σ = some q → bfr MT (d + 5) M_X12_prices 87 [some (.ref 0), some (.int x1), some (.int x2), some (.int x3), some (.int x4), some (.int x5), some (.int x6), some (.int x7), o8, o9] [] [] (mkM σ) (some (.int q.1), mkM q.2)) : ∀ (k : Nat) (x1 : Int32) (x2 : Int32) (x3 : Int32) (x4 : Int32) (x5 : Int32) (x6 : Int32) (x7 : Int32) (x9 : Int32) (o8 : Option Value) (σ : bS), m_prices_b151 n r87 k x1 x2 x3 x4 x5 x6 x7 x9 σ = some q → bfr MT (d + 5) M_X12_prices 151 [some (.ref 0), some (.int x1), some (.int x2), some (.int x3), some (.int x4), some (.int x5), some (.int x6), some (.int x7), o8, some (.int x9)] [] [] (mkM σ) (some (.int q.1), mkM q.2) := by
  intro k
  induction k with
  | zero => intro x1 x2 x3 x4 x5 x6 x7 x9 o8 σ h; exact bno h
  | succ k ih =>
    intro x1 x2 x3 x4 x5 x6 x7 x9 o8 σ h
    unfold m_prices_b151 at h
    refine bfr_in (i := ci_0) (m := 2) 5 (pc1 := 159) (L1 := [some (.ref 0), some (.int x1), some (.int x2), some (.int x3), some (.int x4), some (.int x5), some (.int x6), some (.int x7), o8, some (.int x9)]) (J1 := []) (st1 := [(.int (sA σ 12 ci_0)), (.int x9)]) (w1 := mkM σ) (fun _ _ => rfl) h (fun h => ?_)
    refine bfr_br 1 (pc1 := 182) (L1 := [some (.ref 0), some (.int x1), some (.int x2), some (.int x3), some (.int x4), some (.int x5), some (.int x6), some (.int x7), o8, some (.int x9)]) (J1 := []) (st1 := []) (w1 := mkM σ) (pc2 := 162) (L2 := [some (.ref 0), some (.int x1), some (.int x2), some (.int x3), some (.int x4), some (.int x5), some (.int x6), some (.int x7), o8, some (.int x9)]) (J2 := []) (st2 := []) (w2 := mkM σ) (fun _ _ => rfl) h (fun h => ?_) (fun h => ?_)
    · exact k_m_prices_b182 n d _ q hr87 _ _ _ _ _ _ _ _ _ _ h
    · refine bfr_run 6 174 [some (.ref 0), some (.int x1), some (.int x2), some (.int x3), some (.int x4), some (.int x5), some (.int x6), some (.int x7), o8, some (.int x9)] [] [(.int x9), (.ref 36), (.int x9), (.ref 43)] (mkM σ) (fun _ _ => rfl) ?_
      refine bfr_in (i := x9) (m := 6) 1 (pc1 := 175) (L1 := [some (.ref 0), some (.int x1), some (.int x2), some (.int x3), some (.int x4), some (.int x5), some (.int x6), some (.int x7), o8, some (.int x9)]) (J1 := []) (st1 := [(.int (sA σ 36 x9)), (.int x9), (.ref 43)]) (w1 := mkM σ) (fun _ _ => rfl) h (fun h => ?_)
      refine bfr_in (i := x9) (m := 6) 1 (pc1 := 176) (L1 := [some (.ref 0), some (.int x1), some (.int x2), some (.int x3), some (.int x4), some (.int x5), some (.int x6), some (.int x7), o8, some (.int x9)]) (J1 := []) (st1 := []) (w1 := ((mkM σ).set 43 (.inl (0, 6, upd (σ.2.1 43) (x9).toNatClampNeg (sA σ 36 x9))))) (fun _ _ => rfl) h (fun h => ?_)
      rw [mkM_A43]
      refine bfr_run 1 179 [some (.ref 0), some (.int x1), some (.int x2), some (.int x3), some (.int x4), some (.int x5), some (.int x6), some (.int x7), o8, some (.int (x9 + ci_1))] [] [] (mkM (uA σ 43 x9 (sA σ 36 x9))) (fun _ _ => rfl) ?_
      refine bfr_run 1 151 [some (.ref 0), some (.int x1), some (.int x2), some (.int x3), some (.int x4), some (.int x5), some (.int x6), some (.int x7), o8, some (.int (x9 + ci_1))] [] [] (mkM (uA σ 43 x9 (sA σ 36 x9))) (fun _ _ => rfl) ?_
      exact ih _ _ _ _ _ _ _ _ _ _ h
set_option maxRecDepth 100000 in
theorem k_m_prices_b118 (n d : Nat) (r87 : Int32 → Int32 → Int32 → Int32 → Int32 → Int32 → Int32 → bS → Option (Int32 × bS)) (q : (Int32 × bS)) (hr87 : ∀ (x1 : Int32) (x2 : Int32) (x3 : Int32) (x4 : Int32) (x5 : Int32) (x6 : Int32) (x7 : Int32) (o8 : Option Value) (o9 : Option Value) (σ : bS), r87 x1 x2 x3 x4 x5 x6 x7 σ = some q → bfr MT (d + 5) M_X12_prices 87 [some (.ref 0), some (.int x1), some (.int x2), some (.int x3), some (.int x4), some (.int x5), some (.int x6), some (.int x7), o8, o9] [] [] (mkM σ) (some (.int q.1), mkM q.2)) (x1 : Int32) (x2 : Int32) (x3 : Int32) (x4 : Int32) (x5 : Int32) (x6 : Int32) (x7 : Int32) (x8 : Int32) (o9 : Option Value) (σ : bS) (h : m_prices_b118 n r87 x1 x2 x3 x4 x5 x6 x7 x8 σ = some q) : bfr MT (d + 5) M_X12_prices 118 [some (.ref 0), some (.int x1), some (.int x2), some (.int x3), some (.int x4), some (.int x5), some (.int x6), some (.int x7), some (.int x8), o9] [] [] (mkM σ) (some (.int q.1), mkM q.2) := by
  unfold m_prices_b118 at h
  refine bfr_call 4 (d1 := d + 4) (M1 := M_X12_laysRow) (vs := [(.ref 0), (.int x2), (.int ci_0)]) (w1 := mkM σ) (pc2 := 124) (L2 := [some (.ref 0), some (.int x1), some (.int x2), some (.int x3), some (.int x4), some (.int x5), some (.int x6), some (.int x7), some (.int x8), o9]) (J2 := []) (rest := []) (fun _ => none) (fun a => mkM a) (fun _ _ => rfl) h (fun a ha => k_m_laysRow n (d + 4) _ _ _ _ ha) (fun q1 _ h => ?_)
  refine bfr_run 3 129 [some (.ref 0), some (.int x1), some (.int x2), some (.int x3), some (.int x4), some (.int x5), some (.int x6), some (.int x7), some (.int x8), o9] [] [] ((mkM q1).set 0 (.inr (.inr (12, (mkM_0 q1).set 53 (.int ci_1))))) (fun _ _ => rfl) ?_
  rw [mkM_I0_53]
  refine bfr_call 3 (d1 := d + 4) (M1 := M_X12_rowGoes) (vs := [(.ref 0), (.int x1)]) (w1 := mkM (uI q1 0 53 ci_1)) (pc2 := 134) (L2 := [some (.ref 0), some (.int x1), some (.int x2), some (.int x3), some (.int x4), some (.int x5), some (.int x6), some (.int x7), some (.int x8), o9]) (J2 := []) (rest := []) (fun _ => none) (fun a => mkM a) (fun _ _ => rfl) h (fun a ha => k_m_rowGoes n (d + 0) _ _ _ ha) (fun q2 _ h => ?_)
  refine bfr_call 2 (d1 := d + 4) (M1 := M_X12_areHome) (vs := [(.ref 0)]) (w1 := mkM q2) (pc2 := 138) (L2 := [some (.ref 0), some (.int x1), some (.int x2), some (.int x3), some (.int x4), some (.int x5), some (.int x6), some (.int x7), some (.int x8), o9]) (J2 := []) (rest := []) (fun a => some (.int a.1)) (fun a => mkM a.2) (fun _ _ => rfl) h (fun a ha => k_m_areHome n (d + 2) _ _ ha) (fun q3 _ h => ?_)
  refine bfr_br 1 (pc1 := 141) (L1 := [some (.ref 0), some (.int x1), some (.int x2), some (.int x3), some (.int x4), some (.int x5), some (.int x6), some (.int x7), some (.int x8), o9]) (J1 := []) (st1 := []) (w1 := mkM q3.2) (pc2 := 144) (L2 := [some (.ref 0), some (.int x1), some (.int x2), some (.int x3), some (.int x4), some (.int x5), some (.int x6), some (.int x7), some (.int x8), o9]) (J2 := []) (st2 := []) (w2 := mkM q3.2) (fun _ _ => rfl) h (fun h => ?_) (fun h => ?_)
  · refine bfr_run 1 182 [some (.ref 0), some (.int x1), some (.int x2), some (.int x3), some (.int x4), some (.int x5), some (.int x6), some (.int x7), some (.int x8), o9] [] [] (mkM q3.2) (fun _ _ => rfl) ?_
    exact k_m_prices_b182 n d _ q hr87 _ _ _ _ _ _ _ _ _ _ h
  · refine bfr_run 4 151 [some (.ref 0), some (.int x1), some (.int x2), some (.int x3), some (.int x4), some (.int x5), some (.int x8), some (.int x7), some (.int x8), some (.int ci_0)] [] [] (mkM q3.2) (fun _ _ => rfl) ?_
    exact k_m_prices_b151 n d _ q hr87 _ _ _ _ _ _ _ _ _ _ _ h
set_option maxRecDepth 100000 in
theorem k_m_prices_b87 (n d : Nat) (q : (Int32 × bS)) : ∀ (k : Nat) (x1 : Int32) (x2 : Int32) (x3 : Int32) (x4 : Int32) (x5 : Int32) (x6 : Int32) (x7 : Int32) (o8 : Option Value) (o9 : Option Value) (σ : bS), m_prices_b87 n k x1 x2 x3 x4 x5 x6 x7 σ = some q → bfr MT (d + 5) M_X12_prices 87 [some (.ref 0), some (.int x1), some (.int x2), some (.int x3), some (.int x4), some (.int x5), some (.int x6), some (.int x7), o8, o9] [] [] (mkM σ) (some (.int q.1), mkM q.2) := by
  intro k
  induction k with
  | zero => intro x1 x2 x3 x4 x5 x6 x7 o8 o9 σ h; exact bno h
  | succ k ih =>
    intro x1 x2 x3 x4 x5 x6 x7 o8 o9 σ h
    unfold m_prices_b87 at h
    refine bfr_br 3 (pc1 := 188) (L1 := [some (.ref 0), some (.int x1), some (.int x2), some (.int x3), some (.int x4), some (.int x5), some (.int x6), some (.int x7), o8, o9]) (J1 := []) (st1 := []) (w1 := mkM σ) (pc2 := 94) (L2 := [some (.ref 0), some (.int x1), some (.int x2), some (.int x3), some (.int x4), some (.int x5), some (.int x6), some (.int x7), o8, o9]) (J2 := []) (st2 := []) (w2 := mkM σ) (fun _ _ => rfl) h (fun h => ?_) (fun h => ?_)
    · refine bfr_br 2 (pc1 := 199) (L1 := [some (.ref 0), some (.int x1), some (.int x2), some (.int x3), some (.int x4), some (.int x5), some (.int x6), some (.int x7), o8, o9]) (J1 := []) (st1 := []) (w1 := mkM σ) (pc2 := 193) (L2 := [some (.ref 0), some (.int x1), some (.int x2), some (.int x3), some (.int x4), some (.int x5), some (.int x6), some (.int x7), o8, o9]) (J2 := []) (st2 := []) (w2 := mkM σ) (fun _ _ => rfl) h (fun h => ?_) (fun h => ?_)
      · exact k_m_prices_b199 n d q _ _ _ _ _ _ _ _ _ _ _ h
      · refine bfr_br 3 (pc1 := 199) (L1 := [some (.ref 0), some (.int x1), some (.int x2), some (.int x3), some (.int x4), some (.int x5), some (.int x6), some (.int x7), o8, o9]) (J1 := []) (st1 := []) (w1 := mkM σ) (pc2 := 204) (L2 := [some (.ref 0), some (.int x1), some (.int x2), some (.int x3), some (.int x4), some (.int x5), some (.int x6), some (.int x7), o8, o9]) (J2 := []) (st2 := []) (w2 := mkM σ) (fun _ _ => rfl) h (fun h => ?_) (fun h => ?_)
        · exact k_m_prices_b199 n d q _ _ _ _ _ _ _ _ _ _ _ h
        · refine bfr_in (i := x4) (m := 6) 4 (pc1 := 211) (L1 := [some (.ref 0), some (.int x1), some (.int x2), some (.int x3), some (.int x4), some (.int x5), some (.int x6), some (.int x7), o8, o9]) (J1 := []) (st1 := [(.int (sA σ 43 x4))]) (w1 := mkM σ) (fun _ _ => rfl) h (fun h => ?_)
          exact k_m_prices_b211 n d q _ _ _ _ _ _ _ _ _ _ _ _ h
    · refine bfr_call 4 (d1 := d + 4) (M1 := M_X12_laysPrices) (vs := [(.ref 0), (.int x7), (.int x3)]) (w1 := mkM σ) (pc2 := 101) (L2 := [some (.ref 0), some (.int x1), some (.int x2), some (.int x3), some (.int x4), some (.int x5), some (.int x6), some (.int x7), o8, o9]) (J2 := []) (rest := []) (fun a => some (.int a.1)) (fun a => mkM a.2) (fun _ _ => rfl) h (fun a ha => k_m_laysPrices n (d + 4) _ _ _ _ ha) (fun q4 _ h => ?_)
      refine bfr_br 3 (pc1 := 118) (L1 := [some (.ref 0), some (.int x1), some (.int x2), some (.int x3), some (.int x4), some (.int x5), some (.int x6), some (.int x7), some (.int q4.1), o9]) (J1 := []) (st1 := []) (w1 := mkM q4.2) (pc2 := 108) (L2 := [some (.ref 0), some (.int x1), some (.int x2), some (.int x3), some (.int x4), some (.int x5), some (.int x6), some (.int x7), some (.int q4.1), o9]) (J2 := []) (st2 := []) (w2 := mkM q4.2) (fun _ _ => rfl) h (fun h => ?_) (fun h => ?_)
      · exact k_m_prices_b118 n d _ q (ih) _ _ _ _ _ _ _ _ _ _ h
      · refine bfr_br 3 (pc1 := 118) (L1 := [some (.ref 0), some (.int x1), some (.int x2), some (.int x3), some (.int x4), some (.int x5), some (.int x6), some (.int x7), some (.int q4.1), o9]) (J1 := []) (st1 := []) (w1 := mkM q4.2) (pc2 := 115) (L2 := [some (.ref 0), some (.int x1), some (.int x2), some (.int x3), some (.int x4), some (.int x5), some (.int x6), some (.int x7), some (.int q4.1), o9]) (J2 := []) (st2 := []) (w2 := mkM q4.2) (fun _ _ => rfl) h (fun h => ?_) (fun h => ?_)
        · exact k_m_prices_b118 n d _ q (ih) _ _ _ _ _ _ _ _ _ _ h
        · refine bfr_run 1 182 [some (.ref 0), some (.int x1), some (.int x2), some (.int x3), some (.int x4), some (.int x5), some (.int x6), some (.int x7), some (.int q4.1), o9] [] [] (mkM q4.2) (fun _ _ => rfl) ?_
          exact k_m_prices_b182 n d _ q (ih) _ _ _ _ _ _ _ _ _ _ h
set_option maxRecDepth 100000 in
theorem k_m_prices_b55 (n d : Nat) (q : (Int32 × bS)) : ∀ (k : Nat) (x1 : Int32) (x2 : Int32) (x3 : Int32) (x4 : Int32) (x5 : Int32) (x6 : Int32) (o7 : Option Value) (o8 : Option Value) (o9 : Option Value) (σ : bS), m_prices_b55 n k x1 x2 x3 x4 x5 x6 σ = some q → bfr MT (d + 5) M_X12_prices 55 [some (.ref 0), some (.int x1), some (.int x2), some (.int x3), some (.int x4), some (.int x5), some (.int x6), o7, o8, o9] [] [] (mkM σ) (some (.int q.1), mkM q.2) := by
  intro k
  induction k with
  | zero => intro x1 x2 x3 x4 x5 x6 o7 o8 o9 σ h; exact bno h
  | succ k ih =>
    intro x1 x2 x3 x4 x5 x6 o7 o8 o9 σ h
    unfold m_prices_b55 at h
    refine bfr_in (i := ci_0) (m := 2) 5 (pc1 := 63) (L1 := [some (.ref 0), some (.int x1), some (.int x2), some (.int x3), some (.int x4), some (.int x5), some (.int x6), o7, o8, o9]) (J1 := []) (st1 := [(.int (sA σ 12 ci_0)), (.int x6)]) (w1 := mkM σ) (fun _ _ => rfl) h (fun h => ?_)
    refine bfr_br 1 (pc1 := 80) (L1 := [some (.ref 0), some (.int x1), some (.int x2), some (.int x3), some (.int x4), some (.int x5), some (.int x6), o7, o8, o9]) (J1 := []) (st1 := []) (w1 := mkM σ) (pc2 := 66) (L2 := [some (.ref 0), some (.int x1), some (.int x2), some (.int x3), some (.int x4), some (.int x5), some (.int x6), o7, o8, o9]) (J2 := []) (st2 := []) (w2 := mkM σ) (fun _ _ => rfl) h (fun h => ?_) (fun h => ?_)
    · refine bfr_run 4 87 [some (.ref 0), some (.int x1), some (.int x2), some (.int x3), some (.int x4), some (.int x5), some (.int cb_m2), some (.int ci_0), o8, o9] [] [] (mkM σ) (fun _ _ => rfl) ?_
      exact k_m_prices_b87 n d q _ _ _ _ _ _ _ _ _ _ _ h
    · refine bfr_run 6 74 [some (.ref 0), some (.int x1), some (.int x2), some (.int x3), some (.int x4), some (.int (x5 * (x3 + ci_1))), some (.int x6), o7, o8, o9] [] [] (mkM σ) (fun _ _ => rfl) ?_
      refine bfr_run 1 77 [some (.ref 0), some (.int x1), some (.int x2), some (.int x3), some (.int x4), some (.int (x5 * (x3 + ci_1))), some (.int (x6 + ci_1)), o7, o8, o9] [] [] (mkM σ) (fun _ _ => rfl) ?_
      refine bfr_run 1 55 [some (.ref 0), some (.int x1), some (.int x2), some (.int x3), some (.int x4), some (.int (x5 * (x3 + ci_1))), some (.int (x6 + ci_1)), o7, o8, o9] [] [] (mkM σ) (fun _ _ => rfl) ?_
      exact ih _ _ _ _ _ _ _ _ _ _ h
set_option maxRecDepth 100000 in
theorem k_m_prices_b35 (n d : Nat) (q : (Int32 × bS)) (o0 : Option Value) (o1 : Option Value) (o2 : Option Value) (o3 : Option Value) (o4 : Option Value) (o5 : Option Value) (o6 : Option Value) (o7 : Option Value) (o8 : Option Value) (o9 : Option Value) (σ : bS) (h : m_prices_b35 n σ = some q) : bfr MT (d + 5) M_X12_prices 35 [o0, o1, o2, o3, o4, o5, o6, o7, o8, o9] [] [] (mkM σ) (some (.int q.1), mkM q.2) := by
  unfold m_prices_b35 at h
  cases h
  exact bfr_ret 2 (fun _ _ => rfl)
set_option maxRecDepth 100000 in
theorem k_m_prices_b29 (n d : Nat) (q : (Int32 × bS)) (x1 : Int32) (x2 : Int32) (x3 : Int32) (x4 : Int32) (s0 : Int32) (s1 : Int32) (s2 : Int32) (o5 : Option Value) (o6 : Option Value) (o7 : Option Value) (o8 : Option Value) (o9 : Option Value) (σ : bS) (h : m_prices_b29 n x1 x2 x3 x4 s0 s1 s2 σ = some q) : bfr MT (d + 5) M_X12_prices 29 [some (.ref 0), some (.int x1), some (.int x2), some (.int x3), some (.int x4), o5, o6, o7, o8, o9] [] [(.int s2), (.int s1), (.int s0)] (mkM σ) (some (.int q.1), mkM q.2) := by
  unfold m_prices_b29 at h
  refine bfr_call 1 (d1 := d + 4) (M1 := M_X12_isIn) (vs := [(.int s0), (.int s1), (.int s2)]) (w1 := mkM σ) (pc2 := 32) (L2 := [some (.ref 0), some (.int x1), some (.int x2), some (.int x3), some (.int x4), o5, o6, o7, o8, o9]) (J2 := []) (rest := []) (fun a => some (.int a.1)) (fun a => mkM a.2) (fun _ _ => rfl) h (fun a ha => k_m_isIn n (d + 4) _ _ _ _ _ ha) (fun q5 _ h => ?_)
  refine bfr_br 1 (pc1 := 35) (L1 := [some (.ref 0), some (.int x1), some (.int x2), some (.int x3), some (.int x4), o5, o6, o7, o8, o9]) (J1 := []) (st1 := []) (w1 := mkM q5.2) (pc2 := 37) (L2 := [some (.ref 0), some (.int x1), some (.int x2), some (.int x3), some (.int x4), o5, o6, o7, o8, o9]) (J2 := []) (st2 := []) (w2 := mkM q5.2) (fun _ _ => rfl) h (fun h => ?_) (fun h => ?_)
  · exact k_m_prices_b35 n d q _ _ _ _ _ _ _ _ _ _ _ h
  · refine bfr_call 4 (d1 := d + 4) (M1 := M_X12_areAtFoot) (vs := [(.ref 0), (.int x1), (.int x2)]) (w1 := mkM q5.2) (pc2 := 43) (L2 := [some (.ref 0), some (.int x1), some (.int x2), some (.int x3), some (.int x4), o5, o6, o7, o8, o9]) (J2 := []) (rest := []) (fun a => some (.int a.1)) (fun a => mkM a.2) (fun _ _ => rfl) h (fun a ha => k_m_areAtFoot n (d + 2) _ _ _ _ ha) (fun q6 _ h => ?_)
    refine bfr_br 1 (pc1 := 46) (L1 := [some (.ref 0), some (.int x1), some (.int x2), some (.int x3), some (.int x4), o5, o6, o7, o8, o9]) (J1 := []) (st1 := []) (w1 := mkM q6.2) (pc2 := 49) (L2 := [some (.ref 0), some (.int x1), some (.int x2), some (.int x3), some (.int x4), o5, o6, o7, o8, o9]) (J2 := []) (st2 := []) (w2 := mkM q6.2) (fun _ _ => rfl) h (fun h => ?_) (fun h => ?_)
    · cases h
      exact bfr_ret 2 (fun _ _ => rfl)
    · refine bfr_run 4 55 [some (.ref 0), some (.int x1), some (.int x2), some (.int x3), some (.int x4), some (.int ci_1), some (.int ci_0), o7, o8, o9] [] [] (mkM q6.2) (fun _ _ => rfl) ?_
      exact k_m_prices_b55 n d q _ _ _ _ _ _ _ _ _ _ _ h
set_option maxRecDepth 100000 in
theorem k_m_prices (n d : Nat) (q : (Int32 × bS)) (x1 : Int32) (x2 : Int32) (x3 : Int32) (x4 : Int32) (σ : bS) (h : m_prices n x1 x2 x3 x4 σ = some q) : bfr MT (d + 5) M_X12_prices 0 [some (.ref 0), some (.int x1), some (.int x2), some (.int x3), some (.int x4), none, none, none, none, none] [] [] (mkM σ) (some (.int q.1), mkM q.2) := by
  unfold m_prices at h
  refine bfr_call 4 (d1 := d + 4) (M1 := M_X12_isSet) (vs := [(.ref 0), (.int x1), (.int x2)]) (w1 := mkM σ) (pc2 := 6) (L2 := [some (.ref 0), some (.int x1), some (.int x2), some (.int x3), some (.int x4), none, none, none, none, none]) (J2 := []) (rest := []) (fun a => some (.int a.1)) (fun a => mkM a.2) (fun _ _ => rfl) h (fun a ha => k_m_isSet n (d + 3) _ _ _ _ ha) (fun q7 _ h => ?_)
  refine bfr_br 1 (pc1 := 35) (L1 := [some (.ref 0), some (.int x1), some (.int x2), some (.int x3), some (.int x4), none, none, none, none, none]) (J1 := []) (st1 := []) (w1 := mkM q7.2) (pc2 := 9) (L2 := [some (.ref 0), some (.int x1), some (.int x2), some (.int x3), some (.int x4), none, none, none, none, none]) (J2 := []) (st2 := []) (w2 := mkM q7.2) (fun _ _ => rfl) h (fun h => ?_) (fun h => ?_)
  · exact k_m_prices_b35 n d q _ _ _ _ _ _ _ _ _ _ _ h
  · refine bfr_call 4 (d1 := d + 4) (M1 := M_X12_isIn) (vs := [(.int x3), (.int ci_0), (.int ci_3)]) (w1 := mkM q7.2) (pc2 := 15) (L2 := [some (.ref 0), some (.int x1), some (.int x2), some (.int x3), some (.int x4), none, none, none, none, none]) (J2 := []) (rest := []) (fun a => some (.int a.1)) (fun a => mkM a.2) (fun _ _ => rfl) h (fun a ha => k_m_isIn n (d + 4) _ _ _ _ _ ha) (fun q8 _ h => ?_)
    refine bfr_br 1 (pc1 := 35) (L1 := [some (.ref 0), some (.int x1), some (.int x2), some (.int x3), some (.int x4), none, none, none, none, none]) (J1 := []) (st1 := []) (w1 := mkM q8.2) (pc2 := 18) (L2 := [some (.ref 0), some (.int x1), some (.int x2), some (.int x3), some (.int x4), none, none, none, none, none]) (J2 := []) (st2 := []) (w2 := mkM q8.2) (fun _ _ => rfl) h (fun h => ?_) (fun h => ?_)
    · exact k_m_prices_b35 n d q _ _ _ _ _ _ _ _ _ _ _ h
    · refine bfr_in (i := ci_0) (m := 2) 6 (pc1 := 27) (L1 := [some (.ref 0), some (.int x1), some (.int x2), some (.int x3), some (.int x4), none, none, none, none, none]) (J1 := []) (st1 := [(.int (sA q8.2 12 ci_0)), (.int ci_m1), (.int x4)]) (w1 := mkM q8.2) (fun _ _ => rfl) h (fun h => ?_)
      refine bfr_run 2 29 [some (.ref 0), some (.int x1), some (.int x2), some (.int x3), some (.int x4), none, none, none, none, none] [] [(.int ((sA q8.2 12 ci_0) - ci_1)), (.int ci_m1), (.int x4)] (mkM q8.2) (fun _ _ => rfl) ?_
      exact k_m_prices_b29 n d q _ _ _ _ _ _ _ _ _ _ _ _ _ h
