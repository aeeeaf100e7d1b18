set_option maxRecDepth 100000 in
theorem k_m_begins_b187 (n d : Nat) (q : bS) : ∀ (k : Nat) (x1 : Int32) (σ : bS), m_begins_b187 n k x1 σ = some q → bfr MT (d + 0) M_X12_begins 187 [some (.ref 0), some (.int x1)] [] [] (mkM σ) (none, mkM q) := by
  intro k
  induction k with
  | zero => intro x1 σ h; exact bno h
  | succ k ih =>
    intro x1 σ h
    unfold m_begins_b187 at h
    refine bfr_br 3 (pc1 := 205) (L1 := [some (.ref 0), some (.int x1)]) (J1 := []) (st1 := []) (w1 := mkM σ) (pc2 := 192) (L2 := [some (.ref 0), some (.int x1)]) (J2 := []) (st2 := []) (w2 := mkM σ) (fun _ _ => rfl) h (fun h => ?_) (fun h => ?_)
    · cases h
      exact bfr_ret 1 (fun _ _ => rfl)
    · refine bfr_in (i := x1) (m := 3) 5 (pc1 := 199) (L1 := [some (.ref 0), some (.int x1)]) (J1 := []) (st1 := []) (w1 := ((mkM σ).set 30 (.inl (2, 3, upd (σ.2.1 30) (x1).toNatClampNeg (vp_nar .boolean ci_0))))) (fun _ _ => rfl) h (fun h => ?_)
      rw [mkM_A30]
      refine bfr_run 1 202 [some (.ref 0), some (.int (x1 + ci_1))] [] [] (mkM (uA σ 30 x1 (vp_nar .boolean ci_0))) (fun _ _ => rfl) ?_
      refine bfr_run 1 187 [some (.ref 0), some (.int (x1 + ci_1))] [] [] (mkM (uA σ 30 x1 (vp_nar .boolean ci_0))) (fun _ _ => rfl) ?_
      exact ih _ _ h
set_option maxRecDepth 100000 in
theorem k_m_begins_b166 (n d : Nat) (q : bS) : ∀ (k : Nat) (x1 : Int32) (σ : bS), m_begins_b166 n k x1 σ = some q → bfr MT (d + 0) M_X12_begins 166 [some (.ref 0), some (.int x1)] [] [] (mkM σ) (none, mkM q) := by
  intro k
  induction k with
  | zero => intro x1 σ h; exact bno h
  | succ k ih =>
    intro x1 σ h
    unfold m_begins_b166 at h
    refine bfr_br 3 (pc1 := 185) (L1 := [some (.ref 0), some (.int x1)]) (J1 := []) (st1 := []) (w1 := mkM σ) (pc2 := 172) (L2 := [some (.ref 0), some (.int x1)]) (J2 := []) (st2 := []) (w2 := mkM σ) (fun _ _ => rfl) h (fun h => ?_) (fun h => ?_)
    · refine bfr_run 2 187 [some (.ref 0), some (.int ci_0)] [] [] (mkM σ) (fun _ _ => rfl) ?_
      exact k_m_begins_b187 n d q _ _ _ h
    · refine bfr_in (i := x1) (m := 7) 5 (pc1 := 179) (L1 := [some (.ref 0), some (.int x1)]) (J1 := []) (st1 := []) (w1 := ((mkM σ).set 46 (.inl (0, 7, upd (σ.2.1 46) (x1).toNatClampNeg ci_m1)))) (fun _ _ => rfl) h (fun h => ?_)
      rw [mkM_A46]
      refine bfr_run 1 182 [some (.ref 0), some (.int (x1 + ci_1))] [] [] (mkM (uA σ 46 x1 ci_m1)) (fun _ _ => rfl) ?_
      refine bfr_run 1 166 [some (.ref 0), some (.int (x1 + ci_1))] [] [] (mkM (uA σ 46 x1 ci_m1)) (fun _ _ => rfl) ?_
      exact ih _ _ h
set_option maxRecDepth 100000 in
theorem k_m_begins_b134 (n d : Nat) (r60 : Int32 → bS → Option bS) (q : bS) (hr60 : ∀ (x1 : Int32) (σ : bS), r60 x1 σ = some q → bfr MT (d + 0) M_X12_begins 60 [some (.ref 0), some (.int x1)] [] [] (mkM σ) (none, mkM q)) (x1 : Int32) (s1 : Int32) (s2 : Int32) (σ : bS) (h : m_begins_b134 n r60 x1 s1 s2 σ = some q) : bfr MT (d + 0) M_X12_begins 134 [some (.ref 0), some (.int x1)] [] [(.int s2), (.int s1), (.ref 29)] (mkM σ) (none, mkM q) := by
  unfold m_begins_b134 at h
  refine bfr_in (i := s1) (m := 2208) 1 (pc1 := 135) (L1 := [some (.ref 0), some (.int x1)]) (J1 := []) (st1 := []) (w1 := ((mkM σ).set 29 (.inl (0, 2208, upd (σ.2.1 29) (s1).toNatClampNeg s2)))) (fun _ _ => rfl) h (fun h => ?_)
  rw [mkM_A29]
  refine bfr_run 1 138 [some (.ref 0), some (.int (x1 + ci_1))] [] [] (mkM (uA σ 29 s1 s2)) (fun _ _ => rfl) ?_
  refine bfr_run 1 60 [some (.ref 0), some (.int (x1 + ci_1))] [] [] (mkM (uA σ 29 s1 s2)) (fun _ _ => rfl) ?_
  exact hr60 _ _ h
set_option maxRecDepth 100000 in
theorem k_m_begins_b94 (n d : Nat) (r60 : Int32 → bS → Option bS) (q : bS) (hr60 : ∀ (x1 : Int32) (σ : bS), r60 x1 σ = some q → bfr MT (d + 0) M_X12_begins 60 [some (.ref 0), some (.int x1)] [] [] (mkM σ) (none, mkM q)) (x1 : Int32) (s1 : Int32) (s2 : Int32) (σ : bS) (h : m_begins_b94 n r60 x1 s1 s2 σ = some q) : bfr MT (d + 0) M_X12_begins 94 [some (.ref 0), some (.int x1)] [] [(.int s2), (.int s1), (.ref 29)] (mkM σ) (none, mkM q) := by
  unfold m_begins_b94 at h
  refine bfr_in (i := s1) (m := 2208) 1 (pc1 := 95) (L1 := [some (.ref 0), some (.int x1)]) (J1 := []) (st1 := []) (w1 := ((mkM σ).set 29 (.inl (0, 2208, upd (σ.2.1 29) (s1).toNatClampNeg s2)))) (fun _ _ => rfl) h (fun h => ?_)
  rw [mkM_A29]
  refine bfr_run 6 105 [some (.ref 0), some (.int x1)] [] [(.int cb_m2), (.int (cb_12 + x1)), (.ref 29)] (mkM (uA σ 29 s1 s2)) (fun _ _ => rfl) ?_
  refine bfr_in (i := (cb_12 + x1)) (m := 2208) 1 (pc1 := 106) (L1 := [some (.ref 0), some (.int x1)]) (J1 := []) (st1 := []) (w1 := ((mkM (uA σ 29 s1 s2)).set 29 (.inl (0, 2208, upd ((uA σ 29 s1 s2).2.1 29) ((cb_12 + x1)).toNatClampNeg cb_m2)))) (fun _ _ => rfl) h (fun h => ?_)
  rw [mkM_A29]
  refine bfr_run 6 115 [some (.ref 0), some (.int x1)] [] [(.int x1), (.int (cb_19 + x1)), (.ref 29)] (mkM (uA (uA σ 29 s1 s2) 29 (cb_12 + x1) cb_m2)) (fun _ _ => rfl) ?_
  refine bfr_in (i := ci_0) (m := 2) 4 (pc1 := 121) (L1 := [some (.ref 0), some (.int x1)]) (J1 := []) (st1 := [(.int (sA (uA (uA σ 29 s1 s2) 29 (cb_12 + x1) cb_m2) 20 ci_0)), (.int x1), (.int (cb_19 + x1)), (.ref 29)]) (w1 := mkM (uA (uA σ 29 s1 s2) 29 (cb_12 + x1) cb_m2)) (fun _ _ => rfl) h (fun h => ?_)
  refine bfr_br 1 (pc1 := 133) (L1 := [some (.ref 0), some (.int x1)]) (J1 := []) (st1 := [(.int (cb_19 + x1)), (.ref 29)]) (w1 := mkM (uA (uA σ 29 s1 s2) 29 (cb_12 + x1) cb_m2)) (pc2 := 124) (L2 := [some (.ref 0), some (.int x1)]) (J2 := []) (st2 := [(.int (cb_19 + x1)), (.ref 29)]) (w2 := mkM (uA (uA σ 29 s1 s2) 29 (cb_12 + x1) cb_m2)) (fun _ _ => rfl) h (fun h => ?_) (fun h => ?_)
  · refine bfr_run 1 134 [some (.ref 0), some (.int x1)] [] [(.int ci_0), (.int (cb_19 + x1)), (.ref 29)] (mkM (uA (uA σ 29 s1 s2) 29 (cb_12 + x1) cb_m2)) (fun _ _ => rfl) ?_
    exact k_m_begins_b134 n d _ q hr60 _ _ _ _ h
  · refine bfr_in (i := x1) (m := 14) 4 (pc1 := 130) (L1 := [some (.ref 0), some (.int x1)]) (J1 := []) (st1 := [(.int (sA (uA (uA σ 29 s1 s2) 29 (cb_12 + x1) cb_m2) 23 x1)), (.int (cb_19 + x1)), (.ref 29)]) (w1 := mkM (uA (uA σ 29 s1 s2) 29 (cb_12 + x1) cb_m2)) (fun _ _ => rfl) h (fun h => ?_)
    refine bfr_run 1 134 [some (.ref 0), some (.int x1)] [] [(.int (sA (uA (uA σ 29 s1 s2) 29 (cb_12 + x1) cb_m2) 23 x1)), (.int (cb_19 + x1)), (.ref 29)] (mkM (uA (uA σ 29 s1 s2) 29 (cb_12 + x1) cb_m2)) (fun _ _ => rfl) ?_
    exact k_m_begins_b134 n d _ q hr60 _ _ _ _ h
set_option maxRecDepth 100000 in
theorem k_m_begins_b60 (n d : Nat) (q : bS) : ∀ (k : Nat) (x1 : Int32) (σ : bS), m_begins_b60 n k x1 σ = some q → bfr MT (d + 0) M_X12_begins 60 [some (.ref 0), some (.int x1)] [] [] (mkM σ) (none, mkM q) := by
  intro k
  induction k with
  | zero => intro x1 σ h; exact bno h
  | succ k ih =>
    intro x1 σ h
    unfold m_begins_b60 at h
    refine bfr_br 3 (pc1 := 141) (L1 := [some (.ref 0), some (.int x1)]) (J1 := []) (st1 := []) (w1 := mkM σ) (pc2 := 66) (L2 := [some (.ref 0), some (.int x1)]) (J2 := []) (st2 := []) (w2 := mkM σ) (fun _ _ => rfl) h (fun h => ?_) (fun h => ?_)
    · refine bfr_run 6 152 [some (.ref 0), some (.int x1)] [] [(.int ci_3), (.ref 24), (.int cb_46), (.ref 29)] (mkM σ) (fun _ _ => rfl) ?_
      refine bfr_in (i := ci_3) (m := 8) 1 (pc1 := 153) (L1 := [some (.ref 0), some (.int x1)]) (J1 := []) (st1 := [(.int (sA σ 24 ci_3)), (.int cb_46), (.ref 29)]) (w1 := mkM σ) (fun _ _ => rfl) h (fun h => ?_)
      refine bfr_in (i := cb_46) (m := 2208) 1 (pc1 := 154) (L1 := [some (.ref 0), some (.int x1)]) (J1 := []) (st1 := []) (w1 := ((mkM σ).set 29 (.inl (0, 2208, upd (σ.2.1 29) (cb_46).toNatClampNeg (sA σ 24 ci_3))))) (fun _ _ => rfl) h (fun h => ?_)
      rw [mkM_A29]
      refine bfr_run 3 159 [some (.ref 0), some (.int x1)] [] [] ((mkM (uA σ 29 cb_46 (sA σ 24 ci_3))).set 0 (.inr (.inr (12, (mkM_0 (uA σ 29 cb_46 (sA σ 24 ci_3))).set 41 (.int ci_0))))) (fun _ _ => rfl) ?_
      rw [mkM_I0_41]
      refine bfr_run 3 164 [some (.ref 0), some (.int x1)] [] [] ((mkM (uI (uA σ 29 cb_46 (sA σ 24 ci_3)) 0 41 ci_0)).set 0 (.inr (.inr (12, (mkM_0 (uI (uA σ 29 cb_46 (sA σ 24 ci_3)) 0 41 ci_0)).set 62 (.int ci_0))))) (fun _ _ => rfl) ?_
      rw [mkM_I0_62]
      refine bfr_run 2 166 [some (.ref 0), some (.int ci_0)] [] [] (mkM (uI (uI (uA σ 29 cb_46 (sA σ 24 ci_3)) 0 41 ci_0) 0 62 ci_0)) (fun _ _ => rfl) ?_
      exact k_m_begins_b166 n d q _ _ _ h
    · refine bfr_run 6 74 [some (.ref 0), some (.int x1)] [] [(.int x1), (.int (ci_5 + x1)), (.ref 29)] (mkM σ) (fun _ _ => rfl) ?_
      refine bfr_in (i := ci_0) (m := 2) 4 (pc1 := 80) (L1 := [some (.ref 0), some (.int x1)]) (J1 := []) (st1 := [(.int (sA σ 20 ci_0)), (.int x1), (.int (ci_5 + x1)), (.ref 29)]) (w1 := mkM σ) (fun _ _ => rfl) h (fun h => ?_)
      refine bfr_br 1 (pc1 := 92) (L1 := [some (.ref 0), some (.int x1)]) (J1 := []) (st1 := [(.int (ci_5 + x1)), (.ref 29)]) (w1 := mkM σ) (pc2 := 83) (L2 := [some (.ref 0), some (.int x1)]) (J2 := []) (st2 := [(.int (ci_5 + x1)), (.ref 29)]) (w2 := mkM σ) (fun _ _ => rfl) h (fun h => ?_) (fun h => ?_)
      · refine bfr_run 1 94 [some (.ref 0), some (.int x1)] [] [(.int cb_m2), (.int (ci_5 + x1)), (.ref 29)] (mkM σ) (fun _ _ => rfl) ?_
        exact k_m_begins_b94 n d _ q (ih) _ _ _ _ h
      · refine bfr_in (i := x1) (m := 14) 4 (pc1 := 89) (L1 := [some (.ref 0), some (.int x1)]) (J1 := []) (st1 := [(.int (sA σ 21 x1)), (.int (ci_5 + x1)), (.ref 29)]) (w1 := mkM σ) (fun _ _ => rfl) h (fun h => ?_)
        refine bfr_run 1 94 [some (.ref 0), some (.int x1)] [] [(.int (sA σ 21 x1)), (.int (ci_5 + x1)), (.ref 29)] (mkM σ) (fun _ _ => rfl) ?_
        exact k_m_begins_b94 n d _ q (ih) _ _ _ _ h
set_option maxRecDepth 100000 in
theorem k_m_begins_b28 (n d : Nat) (q : bS) : ∀ (k : Nat) (x1 : Int32) (σ : bS), m_begins_b28 n k x1 σ = some q → bfr MT (d + 0) M_X12_begins 28 [some (.ref 0), some (.int x1)] [] [] (mkM σ) (none, mkM q) := by
  intro k
  induction k with
  | zero => intro x1 σ h; exact bno h
  | succ k ih =>
    intro x1 σ h
    unfold m_begins_b28 at h
    refine bfr_in (i := ci_0) (m := 2) 5 (pc1 := 35) (L1 := [some (.ref 0), some (.int x1)]) (J1 := []) (st1 := [(.int (sA σ 17 ci_0)), (.int x1)]) (w1 := mkM σ) (fun _ _ => rfl) h (fun h => ?_)
    refine bfr_br 1 (pc1 := 58) (L1 := [some (.ref 0), some (.int x1)]) (J1 := []) (st1 := []) (w1 := mkM σ) (pc2 := 38) (L2 := [some (.ref 0), some (.int x1)]) (J2 := []) (st2 := []) (w2 := mkM σ) (fun _ _ => rfl) h (fun h => ?_) (fun h => ?_)
    · refine bfr_run 2 60 [some (.ref 0), some (.int ci_0)] [] [] (mkM σ) (fun _ _ => rfl) ?_
      exact k_m_begins_b60 n d q _ _ _ h
    · refine bfr_run 6 46 [some (.ref 0), some (.int x1)] [] [(.ref 0), (.int (ci_1 + x1)), (.ref 29)] (mkM σ) (fun _ _ => rfl) ?_
      refine bfr_in (i := x1) (m := 8) 3 (pc1 := 51) (L1 := [some (.ref 0), some (.int x1)]) (J1 := []) (st1 := [(.int (sA σ 19 x1)), (.int (ci_1 + x1)), (.ref 29)]) (w1 := mkM σ) (fun _ _ => rfl) h (fun h => ?_)
      refine bfr_in (i := (ci_1 + x1)) (m := 2208) 1 (pc1 := 52) (L1 := [some (.ref 0), some (.int x1)]) (J1 := []) (st1 := []) (w1 := ((mkM σ).set 29 (.inl (0, 2208, upd (σ.2.1 29) ((ci_1 + x1)).toNatClampNeg (sA σ 19 x1))))) (fun _ _ => rfl) h (fun h => ?_)
      rw [mkM_A29]
      refine bfr_run 1 55 [some (.ref 0), some (.int (x1 + ci_1))] [] [] (mkM (uA σ 29 (ci_1 + x1) (sA σ 19 x1))) (fun _ _ => rfl) ?_
      refine bfr_run 1 28 [some (.ref 0), some (.int (x1 + ci_1))] [] [] (mkM (uA σ 29 (ci_1 + x1) (sA σ 19 x1))) (fun _ _ => rfl) ?_
      exact ih _ _ h
set_option maxRecDepth 100000 in
theorem k_m_begins_b7 (n d : Nat) (q : bS) : ∀ (k : Nat) (x1 : Int32) (σ : bS), m_begins_b7 n k x1 σ = some q → bfr MT (d + 0) M_X12_begins 7 [some (.ref 0), some (.int x1)] [] [] (mkM σ) (none, mkM q) := by
  intro k
  induction k with
  | zero => intro x1 σ h; exact bno h
  | succ k ih =>
    intro x1 σ h
    unfold m_begins_b7 at h
    refine bfr_br 3 (pc1 := 26) (L1 := [some (.ref 0), some (.int x1)]) (J1 := []) (st1 := []) (w1 := mkM σ) (pc2 := 13) (L2 := [some (.ref 0), some (.int x1)]) (J2 := []) (st2 := []) (w2 := mkM σ) (fun _ _ => rfl) h (fun h => ?_) (fun h => ?_)
    · refine bfr_run 2 28 [some (.ref 0), some (.int ci_0)] [] [] (mkM σ) (fun _ _ => rfl) ?_
      exact k_m_begins_b28 n d q _ _ _ h
    · refine bfr_in (i := x1) (m := 2208) 5 (pc1 := 20) (L1 := [some (.ref 0), some (.int x1)]) (J1 := []) (st1 := []) (w1 := ((mkM σ).set 29 (.inl (0, 2208, upd (σ.2.1 29) (x1).toNatClampNeg ci_0)))) (fun _ _ => rfl) h (fun h => ?_)
      rw [mkM_A29]
      refine bfr_run 1 23 [some (.ref 0), some (.int (x1 + ci_1))] [] [] (mkM (uA σ 29 x1 ci_0)) (fun _ _ => rfl) ?_
      refine bfr_run 1 7 [some (.ref 0), some (.int (x1 + ci_1))] [] [] (mkM (uA σ 29 x1 ci_0)) (fun _ _ => rfl) ?_
      exact ih _ _ h
set_option maxRecDepth 100000 in
theorem k_m_begins (n d : Nat) (q : bS) (σ : bS) (h : m_begins n σ = some q) : bfr MT (d + 0) M_X12_begins 0 [some (.ref 0), none] [] [] (mkM σ) (none, mkM q) := by
  unfold m_begins at h
  refine bfr_run 3 5 [some (.ref 0), none] [] [] ((mkM σ).set 0 (.inr (.inr (12, (mkM_0 σ).set 40 (.int ci_0))))) (fun _ _ => rfl) ?_
  rw [mkM_I0_40]
  refine bfr_run 2 7 [some (.ref 0), some (.int ci_0)] [] [] (mkM (uI σ 0 40 ci_0)) (fun _ _ => rfl) ?_
  exact k_m_begins_b7 n d q _ _ _ h
set_option maxRecDepth 100000 in
theorem k_m_read_b69 (n d : Nat) (q : (Int32 × bS)) (σ : bS) (h : m_read_b69 n σ = some q) : bfr MT (d + 9) M_X12_read 69 [some (.ref 0)] [] [] (mkM σ) (some (.int q.1), mkM q.2) := by
  unfold m_read_b69 at h
  cases h
  exact bfr_ret 3 (fun _ _ => rfl)
set_option maxRecDepth 100000 in
theorem k_m_read_b49 (n d : Nat) (q : (Int32 × bS)) (σ : bS) (h : m_read_b49 n σ = some q) : bfr MT (d + 9) M_X12_read 49 [some (.ref 0)] [] [] (mkM σ) (some (.int q.1), mkM q.2) := by
  unfold m_read_b49 at h
  refine bfr_run 3 54 [some (.ref 0)] [] [] ((mkM σ).set 0 (.inr (.inr (12, (mkM_0 σ).set 0 (.int ci_0))))) (fun _ _ => rfl) ?_
  rw [mkM_I0_0]
  refine bfr_br 3 (pc1 := 61) (L1 := [some (.ref 0)]) (J1 := []) (st1 := []) (w1 := mkM (uI σ 0 0 ci_0)) (pc2 := 69) (L2 := [some (.ref 0)]) (J2 := []) (st2 := []) (w2 := mkM (uI σ 0 0 ci_0)) (fun _ _ => rfl) h (fun h => ?_) (fun h => ?_)
  · refine bfr_call 2 (d1 := d + 8) (M1 := M_X12_lays) (vs := [(.ref 0)]) (w1 := mkM (uI σ 0 0 ci_0)) (pc2 := 65) (L2 := [some (.ref 0)]) (J2 := []) (rest := []) (fun _ => none) (fun a => mkM a) (fun _ _ => rfl) h (fun a ha => k_m_lays n (d + 8) _ _ ha) (fun q1 _ h => ?_)
    refine bfr_call 2 (d1 := d + 8) (M1 := M_X12_begins) (vs := [(.ref 0)]) (w1 := mkM q1) (pc2 := 69) (L2 := [some (.ref 0)]) (J2 := []) (rest := []) (fun _ => none) (fun a => mkM a) (fun _ _ => rfl) h (fun a ha => k_m_begins n (d + 8) _ _ ha) (fun q2 _ h => ?_)
    exact k_m_read_b69 n d q _ h
  · exact k_m_read_b69 n d q _ h
set_option maxRecDepth 100000 in
theorem k_m_read (n d : Nat) (q : (Int32 × bS)) (σ : bS) (h : m_read n σ = some q) : bfr MT (d + 9) M_X12_read 0 [some (.ref 0)] [] [] (mkM σ) (some (.int q.1), mkM q.2) := by
  unfold m_read at h
  refine bfr_call 2 (d1 := d + 8) (M1 := M_X12_scanAll) (vs := [(.ref 0)]) (w1 := mkM σ) (pc2 := 4) (L2 := [some (.ref 0)]) (J2 := []) (rest := []) (fun _ => none) (fun a => mkM a) (fun _ _ => rfl) h (fun a ha => k_m_scanAll n (d + 5) _ _ ha) (fun q3 _ h => ?_)
  refine bfr_run 3 9 [some (.ref 0)] [] [] ((mkM q3).set 0 (.inr (.inr (12, (mkM_0 q3).set 8 (.int ci_0))))) (fun _ _ => rfl) ?_
  rw [mkM_I0_8]
  refine bfr_run 3 14 [some (.ref 0)] [] [] ((mkM (uI q3 0 8 ci_0)).set 0 (.inr (.inr (12, (mkM_0 (uI q3 0 8 ci_0)).set 9 (.int ci_m1))))) (fun _ _ => rfl) ?_
  rw [mkM_I0_9]
  refine bfr_run 3 19 [some (.ref 0)] [] [] ((mkM (uI (uI q3 0 8 ci_0) 0 9 ci_m1)).set 0 (.inr (.inr (12, (mkM_0 (uI (uI q3 0 8 ci_0) 0 9 ci_m1)).set 10 (.int ci_0))))) (fun _ _ => rfl) ?_
  rw [mkM_I0_10]
  refine bfr_call 2 (d1 := d + 8) (M1 := M_X12_parses) (vs := [(.ref 0)]) (w1 := mkM (uI (uI (uI q3 0 8 ci_0) 0 9 ci_m1) 0 10 ci_0)) (pc2 := 23) (L2 := [some (.ref 0)]) (J2 := []) (rest := []) (fun a => some (.int a.1)) (fun a => mkM a.2) (fun _ _ => rfl) h (fun a ha => k_m_parses n (d + 0) _ _ ha) (fun q4 _ h => ?_)
  refine bfr_br 1 (pc1 := 49) (L1 := [some (.ref 0)]) (J1 := []) (st1 := []) (w1 := mkM q4.2) (pc2 := 26) (L2 := [some (.ref 0)]) (J2 := []) (st2 := []) (w2 := mkM q4.2) (fun _ _ => rfl) h (fun h => ?_) (fun h => ?_)
  · exact k_m_read_b49 n d q _ h
  · refine bfr_br 3 (pc1 := 49) (L1 := [some (.ref 0)]) (J1 := []) (st1 := []) (w1 := mkM q4.2) (pc2 := 33) (L2 := [some (.ref 0)]) (J2 := []) (st2 := []) (w2 := mkM q4.2) (fun _ _ => rfl) h (fun h => ?_) (fun h => ?_)
    · exact k_m_read_b49 n d q _ h
    · refine bfr_run 4 41 [some (.ref 0)] [] [] ((mkM q4.2).set 0 (.inr (.inr (12, (mkM_0 q4.2).set 8 (.int (sI q4.2 0 10)))))) (fun _ _ => rfl) ?_
      rw [mkM_I0_8]
      refine bfr_run 4 49 [some (.ref 0)] [] [] ((mkM (uI q4.2 0 8 (sI q4.2 0 10))).set 0 (.inr (.inr (12, (mkM_0 (uI q4.2 0 8 (sI q4.2 0 10))).set 9 (.int (sI (uI q4.2 0 8 (sI q4.2 0 10)) 0 11)))))) (fun _ _ => rfl) ?_
      rw [mkM_I0_9]
      exact k_m_read_b49 n d q _ h
set_option maxRecDepth 100000 in
theorem k_m_place (n d : Nat) (q : (Int32 × bS)) (σ : bS) (h : m_place n σ = some q) : bfr MT (d + 0) M_X12_place 0 [some (.ref 0)] [] [] (mkM σ) (some (.int q.1), mkM q.2) := by
  unfold m_place at h
  cases h
  exact bfr_ret 3 (fun _ _ => rfl)
set_option maxRecDepth 100000 in
theorem k_m_copies_b2 (n d : Nat) (q : bS) : ∀ (k : Nat) (x1 : Int32) (x2 : Int32) (x3 : Int32) (σ : bS), m_copies_b2 n k x1 x2 x3 σ = some q → bfr MT (d + 0) M_X12_copies 2 [some (.ref 0), some (.int x1), some (.int x2), some (.int x3)] [] [] (mkM σ) (none, mkM q) := by
  intro k
  induction k with
  | zero => intro x1 x2 x3 σ h; exact bno h
  | succ k ih =>
    intro x1 x2 x3 σ h
    unfold m_copies_b2 at h
    refine bfr_br 3 (pc1 := 30) (L1 := [some (.ref 0), some (.int x1), some (.int x2), some (.int x3)]) (J1 := []) (st1 := []) (w1 := mkM σ) (pc2 := 8) (L2 := [some (.ref 0), some (.int x1), some (.int x2), some (.int x3)]) (J2 := []) (st2 := []) (w2 := mkM σ) (fun _ _ => rfl) h (fun h => ?_) (fun h => ?_)
    · cases h
      exact bfr_ret 1 (fun _ _ => rfl)
    · refine bfr_run 6 16 [some (.ref 0), some (.int x1), some (.int x2), some (.int x3)] [] [(.ref 0), (.int (x2 + x3)), (.ref 29)] (mkM σ) (fun _ _ => rfl) ?_
      refine bfr_in (i := (x1 + x3)) (m := 2208) 5 (pc1 := 23) (L1 := [some (.ref 0), some (.int x1), some (.int x2), some (.int x3)]) (J1 := []) (st1 := [(.int (sA σ 29 (x1 + x3))), (.int (x2 + x3)), (.ref 29)]) (w1 := mkM σ) (fun _ _ => rfl) h (fun h => ?_)
      refine bfr_in (i := (x2 + x3)) (m := 2208) 1 (pc1 := 24) (L1 := [some (.ref 0), some (.int x1), some (.int x2), some (.int x3)]) (J1 := []) (st1 := []) (w1 := ((mkM σ).set 29 (.inl (0, 2208, upd (σ.2.1 29) ((x2 + x3)).toNatClampNeg (sA σ 29 (x1 + x3)))))) (fun _ _ => rfl) h (fun h => ?_)
      rw [mkM_A29]
      refine bfr_run 1 27 [some (.ref 0), some (.int x1), some (.int x2), some (.int (x3 + ci_1))] [] [] (mkM (uA σ 29 (x2 + x3) (sA σ 29 (x1 + x3)))) (fun _ _ => rfl) ?_
      refine bfr_run 1 2 [some (.ref 0), some (.int x1), some (.int x2), some (.int (x3 + ci_1))] [] [] (mkM (uA σ 29 (x2 + x3) (sA σ 29 (x1 + x3)))) (fun _ _ => rfl) ?_
      exact ih _ _ _ _ h
set_option maxRecDepth 100000 in
theorem k_m_copies (n d : Nat) (q : bS) (x1 : Int32) (x2 : Int32) (σ : bS) (h : m_copies n x1 x2 σ = some q) : bfr MT (d + 0) M_X12_copies 0 [some (.ref 0), some (.int x1), some (.int x2), none] [] [] (mkM σ) (none, mkM q) := by
  unfold m_copies at h
  refine bfr_run 2 2 [some (.ref 0), some (.int x1), some (.int x2), some (.int ci_0)] [] [] (mkM σ) (fun _ _ => rfl) ?_
  exact k_m_copies_b2 n d q _ _ _ _ _ h
set_option maxRecDepth 100000 in
theorem k_m_tries (n d : Nat) (q : bS) (σ : bS) (h : m_tries n σ = some q) : bfr MT (d + 1) M_X12_tries 0 [some (.ref 0)] [] [] (mkM σ) (none, mkM q) := by
  unfold m_tries at h
  refine bfr_call 4 (d1 := d + 0) (M1 := M_X12_copies) (vs := [(.ref 0), (.int ci_0), (.int cb_48)]) (w1 := mkM σ) (pc2 := 7) (L2 := [some (.ref 0)]) (J2 := []) (rest := []) (fun _ => none) (fun a => mkM a) (fun _ _ => rfl) h (fun a ha => k_m_copies n (d + 0) _ _ _ _ ha) (fun q1 _ h => ?_)
  refine bfr_run 3 13 [some (.ref 0)] [] [] ((mkM q1).set 0 (.inr (.inr (12, (mkM_0 q1).set 40 (.int cb_48))))) (fun _ _ => rfl) ?_
  rw [mkM_I0_40]
  cases h
  exact bfr_ret 1 (fun _ _ => rfl)
set_option maxRecDepth 100000 in
theorem k_m_isIn_b15 (n d : Nat) (q : (Int32 × bS)) (s0 : Int32) (o0 : Option Value) (o1 : Option Value) (o2 : Option Value) (σ : bS) (h : m_isIn_b15 n s0 σ = some q) : bfr MT (d + 0) M_X12_isIn 15 [o0, o1, o2] [] [(.int s0)] (mkM σ) (some (.int q.1), mkM q.2) := by
  unfold m_isIn_b15 at h
  exact bfr_bz (mk := mkM) 1 (fun _ _ => rfl) h
set_option maxRecDepth 100000 in
theorem k_m_isIn_b14 (n d : Nat) (q : (Int32 × bS)) (o0 : Option Value) (o1 : Option Value) (o2 : Option Value) (σ : bS) (h : m_isIn_b14 n σ = some q) : bfr MT (d + 0) M_X12_isIn 14 [o0, o1, o2] [] [] (mkM σ) (some (.int q.1), mkM q.2) := by
  unfold m_isIn_b14 at h
  refine bfr_run 1 15 [o0, o1, o2] [] [(.int ci_0)] (mkM σ) (fun _ _ => rfl) ?_
  exact k_m_isIn_b15 n d q _ _ _ _ _ h
set_option maxRecDepth 100000 in
theorem k_m_isIn (n d : Nat) (q : (Int32 × bS)) (x0 : Int32) (x1 : Int32) (x2 : Int32) (σ : bS) (h : m_isIn n x0 x1 x2 σ = some q) : bfr MT (d + 0) M_X12_isIn 0 [some (.int x0), some (.int x1), some (.int x2)] [] [] (mkM σ) (some (.int q.1), mkM q.2) := by
  unfold m_isIn at h
  refine bfr_br 3 (pc1 := 14) (L1 := [some (.int x0), some (.int x1), some (.int x2)]) (J1 := []) (st1 := []) (w1 := mkM σ) (pc2 := 5) (L2 := [some (.int x0), some (.int x1), some (.int x2)]) (J2 := []) (st2 := []) (w2 := mkM σ) (fun _ _ => rfl) h (fun h => ?_) (fun h => ?_)
  · exact k_m_isIn_b14 n d q _ _ _ _ h
  · refine bfr_br 3 (pc1 := 14) (L1 := [some (.int x0), some (.int x1), some (.int x2)]) (J1 := []) (st1 := []) (w1 := mkM σ) (pc2 := 10) (L2 := [some (.int x0), some (.int x1), some (.int x2)]) (J2 := []) (st2 := []) (w2 := mkM σ) (fun _ _ => rfl) h (fun h => ?_) (fun h => ?_)
    · exact k_m_isIn_b14 n d q _ _ _ _ h
    · refine bfr_run 2 15 [some (.int x0), some (.int x1), some (.int x2)] [] [(.int ci_1)] (mkM σ) (fun _ _ => rfl) ?_
      exact k_m_isIn_b15 n d q _ _ _ _ _ h
set_option maxRecDepth 100000 in
theorem k_m_within_b19 (n d : Nat) (q : (Int32 × bS)) (s0 : Int32) (o0 : Option Value) (o1 : Option Value) (o2 : Option Value) (σ : bS) (h : m_within_b19 n s0 σ = some q) : bfr MT (d + 0) M_X12_within 19 [o0, o1, o2] [] [(.int s0)] (mkM σ) (some (.int q.1), mkM q.2) := by
  unfold m_within_b19 at h
  cases h
  exact bfr_ret 1 (fun _ _ => rfl)
set_option maxRecDepth 100000 in
theorem k_m_within (n d : Nat) (q : (Int32 × bS)) (x0 : Int32) (x1 : Int32) (x2 : Int32) (σ : bS) (h : m_within n x0 x1 x2 σ = some q) : bfr MT (d + 0) M_X12_within 0 [some (.int x0), some (.int x1), some (.int x2)] [] [] (mkM σ) (some (.int q.1), mkM q.2) := by
  unfold m_within at h
  refine bfr_br 3 (pc1 := 9) (L1 := [some (.int x0), some (.int x1), some (.int x2)]) (J1 := []) (st1 := []) (w1 := mkM σ) (pc2 := 5) (L2 := [some (.int x0), some (.int x1), some (.int x2)]) (J2 := []) (st2 := []) (w2 := mkM σ) (fun _ _ => rfl) h (fun h => ?_) (fun h => ?_)
  · refine bfr_br 3 (pc1 := 18) (L1 := [some (.int x0), some (.int x1), some (.int x2)]) (J1 := []) (st1 := []) (w1 := mkM σ) (pc2 := 14) (L2 := [some (.int x0), some (.int x1), some (.int x2)]) (J2 := []) (st2 := []) (w2 := mkM σ) (fun _ _ => rfl) h (fun h => ?_) (fun h => ?_)
    · refine bfr_run 1 19 [some (.int x0), some (.int x1), some (.int x2)] [] [(.int x0)] (mkM σ) (fun _ _ => rfl) ?_
      exact k_m_within_b19 n d q _ _ _ _ _ h
    · refine bfr_run 2 19 [some (.int x0), some (.int x1), some (.int x2)] [] [(.int x2)] (mkM σ) (fun _ _ => rfl) ?_
      exact k_m_within_b19 n d q _ _ _ _ _ h
  · refine bfr_run 2 19 [some (.int x0), some (.int x1), some (.int x2)] [] [(.int x1)] (mkM σ) (fun _ _ => rfl) ?_
    exact k_m_within_b19 n d q _ _ _ _ _ h
set_option maxRecDepth 100000 in
theorem k_m_isBank_b19 (n d : Nat) (q : (Int32 × bS)) (s0 : Int32) (o0 : Option Value) (o1 : Option Value) (σ : bS) (h : m_isBank_b19 n s0 σ = some q) : bfr MT (d + 0) M_X12_isBank 19 [o0, o1] [] [(.int s0)] (mkM σ) (some (.int q.1), mkM q.2) := by
  unfold m_isBank_b19 at h
  exact bfr_bz (mk := mkM) 1 (fun _ _ => rfl) h
set_option maxRecDepth 100000 in
theorem k_m_isBank_b18 (n d : Nat) (q : (Int32 × bS)) (o0 : Option Value) (o1 : Option Value) (σ : bS) (h : m_isBank_b18 n σ = some q) : bfr MT (d + 0) M_X12_isBank 18 [o0, o1] [] [] (mkM σ) (some (.int q.1), mkM q.2) := by
  unfold m_isBank_b18 at h
  refine bfr_run 1 19 [o0, o1] [] [(.int ci_0)] (mkM σ) (fun _ _ => rfl) ?_
  exact k_m_isBank_b19 n d q _ _ _ _ h
set_option maxRecDepth 100000 in
theorem k_m_isBank (n d : Nat) (q : (Int32 × bS)) (x1 : Int32) (σ : bS) (h : m_isBank n x1 σ = some q) : bfr MT (d + 0) M_X12_isBank 0 [some (.ref 0), some (.int x1)] [] [] (mkM σ) (some (.int q.1), mkM q.2) := by
  unfold m_isBank at h
  refine bfr_br 2 (pc1 := 18) (L1 := [some (.ref 0), some (.int x1)]) (J1 := []) (st1 := []) (w1 := mkM σ) (pc2 := 4) (L2 := [some (.ref 0), some (.int x1)]) (J2 := []) (st2 := []) (w2 := mkM σ) (fun _ _ => rfl) h (fun h => ?_) (fun h => ?_)
  · exact k_m_isBank_b18 n d q _ _ _ h
  · refine bfr_in (i := ci_0) (m := 2) 5 (pc1 := 11) (L1 := [some (.ref 0), some (.int x1)]) (J1 := []) (st1 := [(.int (sA σ 12 ci_0)), (.int x1)]) (w1 := mkM σ) (fun _ _ => rfl) h (fun h => ?_)
    refine bfr_br 1 (pc1 := 18) (L1 := [some (.ref 0), some (.int x1)]) (J1 := []) (st1 := []) (w1 := mkM σ) (pc2 := 14) (L2 := [some (.ref 0), some (.int x1)]) (J2 := []) (st2 := []) (w2 := mkM σ) (fun _ _ => rfl) h (fun h => ?_) (fun h => ?_)
    · exact k_m_isBank_b18 n d q _ _ _ h
    · refine bfr_run 2 19 [some (.ref 0), some (.int x1)] [] [(.int ci_1)] (mkM σ) (fun _ _ => rfl) ?_
      exact k_m_isBank_b19 n d q _ _ _ _ h
set_option maxRecDepth 100000 in
theorem k_m_isBridge_b19 (n d : Nat) (q : (Int32 × bS)) (s0 : Int32) (o0 : Option Value) (o1 : Option Value) (σ : bS) (h : m_isBridge_b19 n s0 σ = some q) : bfr MT (d + 0) M_X12_isBridge 19 [o0, o1] [] [(.int s0)] (mkM σ) (some (.int q.1), mkM q.2) := by
  unfold m_isBridge_b19 at h
  exact bfr_bz (mk := mkM) 1 (fun _ _ => rfl) h
set_option maxRecDepth 100000 in
theorem k_m_isBridge_b18 (n d : Nat) (q : (Int32 × bS)) (o0 : Option Value) (o1 : Option Value) (σ : bS) (h : m_isBridge_b18 n σ = some q) : bfr MT (d + 0) M_X12_isBridge 18 [o0, o1] [] [] (mkM σ) (some (.int q.1), mkM q.2) := by
  unfold m_isBridge_b18 at h
  refine bfr_run 1 19 [o0, o1] [] [(.int ci_0)] (mkM σ) (fun _ _ => rfl) ?_
  exact k_m_isBridge_b19 n d q _ _ _ _ h
set_option maxRecDepth 100000 in
theorem k_m_isBridge (n d : Nat) (q : (Int32 × bS)) (x1 : Int32) (σ : bS) (h : m_isBridge n x1 σ = some q) : bfr MT (d + 0) M_X12_isBridge 0 [some (.ref 0), some (.int x1)] [] [] (mkM σ) (some (.int q.1), mkM q.2) := by
  unfold m_isBridge at h
  refine bfr_br 2 (pc1 := 18) (L1 := [some (.ref 0), some (.int x1)]) (J1 := []) (st1 := []) (w1 := mkM σ) (pc2 := 4) (L2 := [some (.ref 0), some (.int x1)]) (J2 := []) (st2 := []) (w2 := mkM σ) (fun _ _ => rfl) h (fun h => ?_) (fun h => ?_)
  · exact k_m_isBridge_b18 n d q _ _ _ h
  · refine bfr_in (i := ci_0) (m := 2) 5 (pc1 := 11) (L1 := [some (.ref 0), some (.int x1)]) (J1 := []) (st1 := [(.int (sA σ 17 ci_0)), (.int x1)]) (w1 := mkM σ) (fun _ _ => rfl) h (fun h => ?_)
    refine bfr_br 1 (pc1 := 18) (L1 := [some (.ref 0), some (.int x1)]) (J1 := []) (st1 := []) (w1 := mkM σ) (pc2 := 14) (L2 := [some (.ref 0), some (.int x1)]) (J2 := []) (st2 := []) (w2 := mkM σ) (fun _ _ => rfl) h (fun h => ?_) (fun h => ?_)
    · exact k_m_isBridge_b18 n d q _ _ _ h
    · refine bfr_run 2 19 [some (.ref 0), some (.int x1)] [] [(.int ci_1)] (mkM σ) (fun _ _ => rfl) ?_
      exact k_m_isBridge_b19 n d q _ _ _ _ h
set_option maxRecDepth 100000 in
theorem k_m_isMan_b19 (n d : Nat) (q : (Int32 × bS)) (s0 : Int32) (o0 : Option Value) (o1 : Option Value) (σ : bS) (h : m_isMan_b19 n s0 σ = some q) : bfr MT (d + 0) M_X12_isMan 19 [o0, o1] [] [(.int s0)] (mkM σ) (some (.int q.1), mkM q.2) := by
  unfold m_isMan_b19 at h
  exact bfr_bz (mk := mkM) 1 (fun _ _ => rfl) h
set_option maxRecDepth 100000 in
theorem k_m_isMan_b18 (n d : Nat) (q : (Int32 × bS)) (o0 : Option Value) (o1 : Option Value) (σ : bS) (h : m_isMan_b18 n σ = some q) : bfr MT (d + 0) M_X12_isMan 18 [o0, o1] [] [] (mkM σ) (some (.int q.1), mkM q.2) := by
  unfold m_isMan_b18 at h
  refine bfr_run 1 19 [o0, o1] [] [(.int ci_0)] (mkM σ) (fun _ _ => rfl) ?_
  exact k_m_isMan_b19 n d q _ _ _ _ h
set_option maxRecDepth 100000 in
theorem k_m_isMan (n d : Nat) (q : (Int32 × bS)) (x1 : Int32) (σ : bS) (h : m_isMan n x1 σ = some q) : bfr MT (d + 0) M_X12_isMan 0 [some (.ref 0), some (.int x1)] [] [] (mkM σ) (some (.int q.1), mkM q.2) := by
  unfold m_isMan at h
  refine bfr_br 2 (pc1 := 18) (L1 := [some (.ref 0), some (.int x1)]) (J1 := []) (st1 := []) (w1 := mkM σ) (pc2 := 4) (L2 := [some (.ref 0), some (.int x1)]) (J2 := []) (st2 := []) (w2 := mkM σ) (fun _ _ => rfl) h (fun h => ?_) (fun h => ?_)
  · exact k_m_isMan_b18 n d q _ _ _ h
  · refine bfr_in (i := ci_0) (m := 2) 5 (pc1 := 11) (L1 := [some (.ref 0), some (.int x1)]) (J1 := []) (st1 := [(.int (sA σ 20 ci_0)), (.int x1)]) (w1 := mkM σ) (fun _ _ => rfl) h (fun h => ?_)
    refine bfr_br 1 (pc1 := 18) (L1 := [some (.ref 0), some (.int x1)]) (J1 := []) (st1 := []) (w1 := mkM σ) (pc2 := 14) (L2 := [some (.ref 0), some (.int x1)]) (J2 := []) (st2 := []) (w2 := mkM σ) (fun _ _ => rfl) h (fun h => ?_) (fun h => ?_)
    · exact k_m_isMan_b18 n d q _ _ _ h
    · refine bfr_run 2 19 [some (.ref 0), some (.int x1)] [] [(.int ci_1)] (mkM σ) (fun _ _ => rfl) ?_
      exact k_m_isMan_b19 n d q _ _ _ _ h
set_option maxRecDepth 100000 in
theorem k_m_joined_b47 (n d : Nat) (q : (Int32 × bS)) (s0 : Int32) (o0 : Option Value) (o1 : Option Value) (o2 : Option Value) (o3 : Option Value) (σ : bS) (h : m_joined_b47 n s0 σ = some q) : bfr MT (d + 0) M_X12_joined 47 [o0, o1, o2, o3] [] [(.int s0)] (mkM σ) (some (.int q.1), mkM q.2) := by
  unfold m_joined_b47 at h
  cases h
  exact bfr_ret 1 (fun _ _ => rfl)
set_option maxRecDepth 100000 in
theorem k_m_joined_b36 (n d : Nat) (q : (Int32 × bS)) (x2 : Int32) (x3 : Int32) (o0 : Option Value) (o1 : Option Value) (σ : bS) (h : m_joined_b36 n x2 x3 σ = some q) : bfr MT (d + 0) M_X12_joined 36 [o0, o1, some (.int x2), some (.int x3)] [] [] (mkM σ) (some (.int q.1), mkM q.2) := by
  unfold m_joined_b36 at h
  refine bfr_br 2 (pc1 := 40) (L1 := [o0, o1, some (.int x2), some (.int x3)]) (J1 := []) (st1 := []) (w1 := mkM σ) (pc2 := 44) (L2 := [o0, o1, some (.int x2), some (.int x3)]) (J2 := []) (st2 := []) (w2 := mkM σ) (fun _ _ => rfl) h (fun h => ?_) (fun h => ?_)
  · refine bfr_run 2 47 [o0, o1, some (.int x2), some (.int x3)] [] [(.int ci_0)] (mkM σ) (fun _ _ => rfl) ?_
    exact k_m_joined_b47 n d q _ _ _ _ _ _ h
  · refine bfr_chk 3 (pc1 := 47) (L1 := [o0, o1, some (.int x2), some (.int x3)]) (J1 := []) (st1 := [(.int (x2 / x3))]) (w1 := mkM σ) (fun _ _ => rfl) h (fun h => ?_)
    exact k_m_joined_b47 n d q _ _ _ _ _ _ h
set_option maxRecDepth 100000 in
theorem k_m_joined_b17 (n d : Nat) (q : (Int32 × bS)) (s0 : Int32) (o0 : Option Value) (o1 : Option Value) (o2 : Option Value) (o3 : Option Value) (σ : bS) (h : m_joined_b17 n s0 σ = some q) : bfr MT (d + 0) M_X12_joined 17 [o0, o1, o2, o3] [] [(.int s0)] (mkM σ) (some (.int q.1), mkM q.2) := by
  unfold m_joined_b17 at h
  cases h
  exact bfr_ret 1 (fun _ _ => rfl)
set_option maxRecDepth 100000 in
theorem k_m_joined (n d : Nat) (q : (Int32 × bS)) (x1 : Int32) (x2 : Int32) (x3 : Int32) (σ : bS) (h : m_joined n x1 x2 x3 σ = some q) : bfr MT (d + 0) M_X12_joined 0 [some (.ref 0), some (.int x1), some (.int x2), some (.int x3)] [] [] (mkM σ) (some (.int q.1), mkM q.2) := by
  unfold m_joined at h
  refine bfr_br 3 (pc1 := 5) (L1 := [some (.ref 0), some (.int x1), some (.int x2), some (.int x3)]) (J1 := []) (st1 := []) (w1 := mkM σ) (pc2 := 9) (L2 := [some (.ref 0), some (.int x1), some (.int x2), some (.int x3)]) (J2 := []) (st2 := []) (w2 := mkM σ) (fun _ _ => rfl) h (fun h => ?_) (fun h => ?_)
  · cases h
    exact bfr_ret 4 (fun _ _ => rfl)
  · refine bfr_br 3 (pc1 := 14) (L1 := [some (.ref 0), some (.int x1), some (.int x2), some (.int x3)]) (J1 := []) (st1 := []) (w1 := mkM σ) (pc2 := 18) (L2 := [some (.ref 0), some (.int x1), some (.int x2), some (.int x3)]) (J2 := []) (st2 := []) (w2 := mkM σ) (fun _ _ => rfl) h (fun h => ?_) (fun h => ?_)
    · refine bfr_run 3 17 [some (.ref 0), some (.int x1), some (.int x2), some (.int x3)] [] [(.int (x2 - x3))] (mkM σ) (fun _ _ => rfl) ?_
      exact k_m_joined_b17 n d q _ _ _ _ _ _ h
    · refine bfr_br 3 (pc1 := 23) (L1 := [some (.ref 0), some (.int x1), some (.int x2), some (.int x3)]) (J1 := []) (st1 := []) (w1 := mkM σ) (pc2 := 27) (L2 := [some (.ref 0), some (.int x1), some (.int x2), some (.int x3)]) (J2 := []) (st2 := []) (w2 := mkM σ) (fun _ _ => rfl) h (fun h => ?_) (fun h => ?_)
      · cases h
        exact bfr_ret 4 (fun _ _ => rfl)
      · refine bfr_br 2 (pc1 := 31) (L1 := [some (.ref 0), some (.int x1), some (.int x2), some (.int x3)]) (J1 := []) (st1 := []) (w1 := mkM σ) (pc2 := 36) (L2 := [some (.ref 0), some (.int x1), some (.int x2), some (.int x3)]) (J2 := []) (st2 := []) (w2 := mkM σ) (fun _ _ => rfl) h (fun h => ?_) (fun h => ?_)
        · refine bfr_run 3 36 [some (.ref 0), some (.int x1), some (.int x2), some (.int x3)] [] [] ((mkM σ).set 0 (.inr (.inr (12, (mkM_0 σ).set 46 (.int ci_1))))) (fun _ _ => rfl) ?_
          rw [mkM_I0_46]
          exact k_m_joined_b36 n d q _ _ _ _ _ h
        · exact k_m_joined_b36 n d q _ _ _ _ _ h
set_option maxRecDepth 100000 in
theorem k_m_sumTold_b120 (n d : Nat) (r28 : Int32 → Int32 → Int32 → bS → Option (Int32 × bS)) (q : (Int32 × bS)) (hr28 : ∀ (x3 : Int32) (x4 : Int32) (x5 : Int32) (o1 : Option Value) (o2 : Option Value) (o6 : Option Value) (σ : bS), r28 x3 x4 x5 σ = some q → bfr MT (d + 1) M_X12_sumTold 28 [some (.ref 0), o1, o2, some (.int x3), some (.int x4), some (.int x5), o6] [] [] (mkM σ) (some (.int q.1), mkM q.2)) (x3 : Int32) (x4 : Int32) (x5 : Int32) (o1 : Option Value) (o2 : Option Value) (o6 : Option Value) (σ : bS) (h : m_sumTold_b120 n r28 x3 x4 x5 σ = some q) : bfr MT (d + 1) M_X12_sumTold 120 [some (.ref 0), o1, o2, some (.int x3), some (.int x4), some (.int x5), o6] [] [] (mkM σ) (some (.int q.1), mkM q.2) := by
  unfold m_sumTold_b120 at h
  refine bfr_run 1 123 [some (.ref 0), o1, o2, some (.int x3), some (.int x4), some (.int (x5 + ci_1)), o6] [] [] (mkM σ) (fun _ _ => rfl) ?_
  refine bfr_run 1 28 [some (.ref 0), o1, o2, some (.int x3), some (.int x4), some (.int (x5 + ci_1)), o6] [] [] (mkM σ) (fun _ _ => rfl) ?_
  exact hr28 _ _ _ _ _ _ _ h
set_option maxRecDepth 100000 in
theorem k_m_sumTold_b116 (n d : Nat) (r28 : Int32 → Int32 → Int32 → bS → Option (Int32 × bS)) (q : (Int32 × bS)) (hr28 : ∀ (x3 : Int32) (x4 : Int32) (x5 : Int32) (o1 : Option Value) (o2 : Option Value) (o6 : Option Value) (σ : bS), r28 x3 x4 x5 σ = some q → bfr MT (d + 1) M_X12_sumTold 28 [some (.ref 0), o1, o2, some (.int x3), some (.int x4), some (.int x5), o6] [] [] (mkM σ) (some (.int q.1), mkM q.2)) (x3 : Int32) (x4 : Int32) (x5 : Int32) (s1 : Int32) (s2 : Int32) (o1 : Option Value) (o2 : Option Value) (o6 : Option Value) (σ : bS) (h : m_sumTold_b116 n r28 x3 x4 x5 s1 s2 σ = some q) : bfr MT (d + 1) M_X12_sumTold 116 [some (.ref 0), o1, o2, some (.int x3), some (.int x4), some (.int x5), o6] [] [(.int s2), (.int s1), (.ref 32)] (mkM σ) (some (.int q.1), mkM q.2) := by
  unfold m_sumTold_b116 at h
  refine bfr_in (i := s1) (m := 500) 1 (pc1 := 117) (L1 := [some (.ref 0), o1, o2, some (.int x3), some (.int x4), some (.int x5), o6]) (J1 := []) (st1 := []) (w1 := ((mkM σ).set 32 (.inl (0, 500, upd (σ.2.1 32) (s1).toNatClampNeg s2)))) (fun _ _ => rfl) h (fun h => ?_)
  rw [mkM_A32]
  refine bfr_run 1 120 [some (.ref 0), o1, o2, some (.int (x3 + ci_1)), some (.int x4), some (.int x5), o6] [] [] (mkM (uA σ 32 s1 s2)) (fun _ _ => rfl) ?_
  exact k_m_sumTold_b120 n d _ q hr28 _ _ _ _ _ _ _ h
set_option maxRecDepth 100000 in
theorem k_m_sumTold_b70 (n d : Nat) (r28 : Int32 → Int32 → Int32 → bS → Option (Int32 × bS)) (q : (Int32 × bS)) (hr28 : ∀ (x3 : Int32) (x4 : Int32) (x5 : Int32) (o1 : Option Value) (o2 : Option Value) (o6 : Option Value) (σ : bS), r28 x3 x4 x5 σ = some q → bfr MT (d + 1) M_X12_sumTold 28 [some (.ref 0), o1, o2, some (.int x3), some (.int x4), some (.int x5), o6] [] [] (mkM σ) (some (.int q.1), mkM q.2)) (x3 : Int32) (x4 : Int32) (x5 : Int32) (s1 : Int32) (s3 : Int32) (s5 : Int32) (o1 : Option Value) (o2 : Option Value) (o6 : Option Value) (σ : bS) (h : m_sumTold_b70 n r28 x3 x4 x5 s1 s3 s5 σ = some q) : bfr MT (d + 1) M_X12_sumTold 70 [some (.ref 0), o1, o2, some (.int x3), some (.int x4), some (.int x5), o6] [] [(.int s5), (.ref 32), (.int s3), (.ref 0), (.int s1), (.ref 32)] (mkM σ) (some (.int q.1), mkM q.2) := by
  unfold m_sumTold_b70 at h
  refine bfr_in (i := s5) (m := 500) 1 (pc1 := 71) (L1 := [some (.ref 0), o1, o2, some (.int x3), some (.int x4), some (.int x5), o6]) (J1 := []) (st1 := [(.int (sA σ 32 s5)), (.int s3), (.ref 0), (.int s1), (.ref 32)]) (w1 := mkM σ) (fun _ _ => rfl) h (fun h => ?_)
  refine bfr_in (i := x3) (m := 500) 4 (pc1 := 77) (L1 := [some (.ref 0), o1, o2, some (.int x3), some (.int x4), some (.int x5), o6]) (J1 := []) (st1 := [(.int (sA σ 32 x3)), (.int (sA σ 32 s5)), (.int s3), (.ref 0), (.int s1), (.ref 32)]) (w1 := mkM σ) (fun _ _ => rfl) h (fun h => ?_)
  refine bfr_call 1 (d1 := d + 0) (M1 := M_X12_joined) (vs := [(.ref 0), (.int s3), (.int (sA σ 32 s5)), (.int (sA σ 32 x3))]) (w1 := mkM σ) (pc2 := 80) (L2 := [some (.ref 0), o1, o2, some (.int x3), some (.int x4), some (.int x5), o6]) (J2 := []) (rest := [(.int s1), (.ref 32)]) (fun a => some (.int a.1)) (fun a => mkM a.2) (fun _ _ => rfl) h (fun a ha => k_m_joined n (d + 0) _ _ _ _ _ ha) (fun q1 _ h => ?_)
  refine bfr_in (i := s1) (m := 500) 1 (pc1 := 81) (L1 := [some (.ref 0), o1, o2, some (.int x3), some (.int x4), some (.int x5), o6]) (J1 := []) (st1 := []) (w1 := ((mkM q1.2).set 32 (.inl (0, 500, upd (q1.2.2.1 32) (s1).toNatClampNeg q1.1)))) (fun _ _ => rfl) h (fun h => ?_)
  rw [mkM_A32]
  refine bfr_run 1 120 [some (.ref 0), o1, o2, some (.int x3), some (.int x4), some (.int x5), o6] [] [] (mkM (uA q1.2 32 s1 q1.1)) (fun _ _ => rfl) ?_
  exact k_m_sumTold_b120 n d _ q hr28 _ _ _ _ _ _ _ h
set_option maxRecDepth 100000 in
theorem k_m_sumTold_b60 (n d : Nat) (r28 : Int32 → Int32 → Int32 → bS → Option (Int32 × bS)) (q : (Int32 × bS)) (hr28 : ∀ (x3 : Int32) (x4 : Int32) (x5 : Int32) (o1 : Option Value) (o2 : Option Value) (o6 : Option Value) (σ : bS), r28 x3 x4 x5 σ = some q → bfr MT (d + 1) M_X12_sumTold 28 [some (.ref 0), o1, o2, some (.int x3), some (.int x4), some (.int x5), o6] [] [] (mkM σ) (some (.int q.1), mkM q.2)) (x3 : Int32) (x4 : Int32) (x5 : Int32) (x6 : Int32) (s1 : Int32) (o1 : Option Value) (o2 : Option Value) (σ : bS) (h : m_sumTold_b60 n r28 x3 x4 x5 x6 s1 σ = some q) : bfr MT (d + 1) M_X12_sumTold 60 [some (.ref 0), o1, o2, some (.int x3), some (.int x4), some (.int x5), some (.int x6)] [] [(.int s1), (.ref 32)] (mkM σ) (some (.int q.1), mkM q.2) := by
  unfold m_sumTold_b60 at h
  refine bfr_run 6 69 [some (.ref 0), o1, o2, some (.int x3), some (.int x4), some (.int x5), some (.int x6)] [] [(.int ci_1), (.int x3), (.ref 32), (.int x6), (.ref 0), (.int s1), (.ref 32)] (mkM σ) (fun _ _ => rfl) ?_
  refine bfr_run 1 70 [some (.ref 0), o1, o2, some (.int x3), some (.int x4), some (.int x5), some (.int x6)] [] [(.int (x3 - ci_1)), (.ref 32), (.int x6), (.ref 0), (.int s1), (.ref 32)] (mkM σ) (fun _ _ => rfl) ?_
  exact k_m_sumTold_b70 n d _ q hr28 _ _ _ _ _ _ _ _ _ _ h
set_option maxRecDepth 100000 in
theorem k_m_sumTold_b53 (n d : Nat) (r28 : Int32 → Int32 → Int32 → bS → Option (Int32 × bS)) (q : (Int32 × bS)) (hr28 : ∀ (x3 : Int32) (x4 : Int32) (x5 : Int32) (o1 : Option Value) (o2 : Option Value) (o6 : Option Value) (σ : bS), r28 x3 x4 x5 σ = some q → bfr MT (d + 1) M_X12_sumTold 28 [some (.ref 0), o1, o2, some (.int x3), some (.int x4), some (.int x5), o6] [] [] (mkM σ) (some (.int q.1), mkM q.2)) (x3 : Int32) (x4 : Int32) (x5 : Int32) (x6 : Int32) (o1 : Option Value) (o2 : Option Value) (σ : bS) (h : m_sumTold_b53 n r28 x3 x4 x5 x6 σ = some q) : bfr MT (d + 1) M_X12_sumTold 53 [some (.ref 0), o1, o2, some (.int x3), some (.int x4), some (.int x5), some (.int x6)] [] [] (mkM σ) (some (.int q.1), mkM q.2) := by
  unfold m_sumTold_b53 at h
  refine bfr_run 5 60 [some (.ref 0), o1, o2, some (.int x3), some (.int x4), some (.int x5), some (.int x6)] [] [(.int (x3 - ci_1)), (.ref 32)] (mkM σ) (fun _ _ => rfl) ?_
  exact k_m_sumTold_b60 n d _ q hr28 _ _ _ _ _ _ _ _ h
set_option maxRecDepth 100000 in
theorem k_m_sumTold_b28 (n d : Nat) (q : (Int32 × bS)) : ∀ (k : Nat) (x3 : Int32) (x4 : Int32) (x5 : Int32) (o1 : Option Value) (o2 : Option Value) (o6 : Option Value) (σ : bS), m_sumTold_b28 n k x3 x4 x5 σ = some q → bfr MT (d + 1) M_X12_sumTold 28 [some (.ref 0), o1, o2, some (.int x3), some (.int x4), some (.int x5), o6] [] [] (mkM σ) (some (.int q.1), mkM q.2) := by
  intro k
  induction k with
  | zero => intro x3 x4 x5 o1 o2 o6 σ h; exact bno h
  | succ k ih =>
    intro x3 x4 x5 o1 o2 o6 σ h
    unfold m_sumTold_b28 at h
    refine bfr_br 3 (pc1 := 126) (L1 := [some (.ref 0), o1, o2, some (.int x3), some (.int x4), some (.int x5), o6]) (J1 := []) (st1 := []) (w1 := mkM σ) (pc2 := 35) (L2 := [some (.ref 0), o1, o2, some (.int x3), some (.int x4), some (.int x5), o6]) (J2 := []) (st2 := []) (w2 := mkM σ) (fun _ _ => rfl) h (fun h => ?_) (fun h => ?_)
    · refine bfr_in (i := ci_0) (m := 500) 4 (pc1 := 132) (L1 := [some (.ref 0), o1, o2, some (.int x3), some (.int x4), some (.int x5), o6]) (J1 := []) (st1 := [(.int (sA σ 32 ci_0))]) (w1 := mkM σ) (fun _ _ => rfl) h (fun h => ?_)
      cases h
      exact bfr_ret 1 (fun _ _ => rfl)
    · refine bfr_in (i := x5) (m := 1000) 4 (pc1 := 42) (L1 := [some (.ref 0), o1, o2, some (.int x3), some (.int x4), some (.int x5), o6]) (J1 := []) (st1 := [(.int (sA σ 7 x5))]) (w1 := mkM σ) (fun _ _ => rfl) h (fun h => ?_)
      refine bfr_br 4 (pc1 := 84) (L1 := [some (.ref 0), o1, o2, some (.int x3), some (.int x4), some (.int x5), some (.int (sA σ 7 x5))]) (J1 := []) (st1 := []) (w1 := mkM σ) (pc2 := 50) (L2 := [some (.ref 0), o1, o2, some (.int x3), some (.int x4), some (.int x5), some (.int (sA σ 7 x5))]) (J2 := []) (st2 := []) (w2 := mkM σ) (fun _ _ => rfl) h (fun h => ?_) (fun h => ?_)
      · refine bfr_br 5 (pc1 := 94) (L1 := [some (.ref 0), o1, o2, some (.int x3), some (.int x4), some (.int x5), some (.int (sA σ 7 x5))]) (J1 := []) (st1 := [(.int x3), (.ref 32)]) (w1 := mkM σ) (pc2 := 104) (L2 := [some (.ref 0), o1, o2, some (.int x3), some (.int x4), some (.int x5), some (.int (sA σ 7 x5))]) (J2 := []) (st2 := [(.int x3), (.ref 32)]) (w2 := mkM σ) (fun _ _ => rfl) h (fun h => ?_) (fun h => ?_)
        · refine bfr_in (i := x5) (m := 1000) 4 (pc1 := 101) (L1 := [some (.ref 0), o1, o2, some (.int x3), some (.int x4), some (.int x5), some (.int (sA σ 7 x5))]) (J1 := []) (st1 := [(.int (sA σ 8 x5)), (.int x3), (.ref 32)]) (w1 := mkM σ) (fun _ _ => rfl) h (fun h => ?_)
          refine bfr_run 1 116 [some (.ref 0), o1, o2, some (.int x3), some (.int x4), some (.int x5), some (.int (sA σ 7 x5))] [] [(.int (sA σ 8 x5)), (.int x3), (.ref 32)] (mkM σ) (fun _ _ => rfl) ?_
          exact k_m_sumTold_b116 n d _ q (ih) _ _ _ _ _ _ _ _ _ h
        · refine bfr_in (i := x5) (m := 1000) 6 (pc1 := 115) (L1 := [some (.ref 0), o1, o2, some (.int x3), some (.int x4), some (.int x5), some (.int (sA σ 7 x5))]) (J1 := []) (st1 := [(.int (sA σ 8 x5)), (.ref 31), (.int x3), (.ref 32)]) (w1 := mkM σ) (fun _ _ => rfl) h (fun h => ?_)
          refine bfr_in (i := (sA σ 8 x5)) (m := 8) 1 (pc1 := 116) (L1 := [some (.ref 0), o1, o2, some (.int x3), some (.int x4), some (.int x5), some (.int (sA σ 7 x5))]) (J1 := []) (st1 := [(.int (sA σ 31 (sA σ 8 x5))), (.int x3), (.ref 32)]) (w1 := mkM σ) (fun _ _ => rfl) h (fun h => ?_)
          exact k_m_sumTold_b116 n d _ q (ih) _ _ _ _ _ _ _ _ _ h
      · refine bfr_run 1 53 [some (.ref 0), o1, o2, some (.int (x3 + ci_m1)), some (.int x4), some (.int x5), some (.int (sA σ 7 x5))] [] [] (mkM σ) (fun _ _ => rfl) ?_
        exact k_m_sumTold_b53 n d _ q (ih) _ _ _ _ _ _ _ h
set_option maxRecDepth 100000 in
theorem k_m_sumTold (n d : Nat) (q : (Int32 × bS)) (x1 : Int32) (x2 : Int32) (σ : bS) (h : m_sumTold n x1 x2 σ = some q) : bfr MT (d + 1) M_X12_sumTold 0 [some (.ref 0), some (.int x1), some (.int x2), none, none, none, none] [] [] (mkM σ) (some (.int q.1), mkM q.2) := by
  unfold m_sumTold at h
  refine bfr_run 6 9 [some (.ref 0), some (.int x1), some (.int x2), some (.int ci_0), none, none, none] [] [(.int x1), (.int cb_14), (.ref 11)] (mkM σ) (fun _ _ => rfl) ?_
  refine bfr_in (i := ((cb_14 * x1) + x2)) (m := 392) 4 (pc1 := 13) (L1 := [some (.ref 0), some (.int x1), some (.int x2), some (.int ci_0), none, none, none]) (J1 := []) (st1 := [(.int (sA σ 11 ((cb_14 * x1) + x2)))]) (w1 := mkM σ) (fun _ _ => rfl) h (fun h => ?_)
  refine bfr_run 6 23 [some (.ref 0), some (.int x1), some (.int x2), some (.int ci_0), some (.int (sA σ 11 ((cb_14 * x1) + x2))), none, none] [] [(.int (cb_14 * x1)), (.ref 10)] (mkM σ) (fun _ _ => rfl) ?_
  refine bfr_in (i := ((cb_14 * x1) + x2)) (m := 392) 3 (pc1 := 26) (L1 := [some (.ref 0), some (.int x1), some (.int x2), some (.int ci_0), some (.int (sA σ 11 ((cb_14 * x1) + x2))), none, none]) (J1 := []) (st1 := [(.int (sA σ 10 ((cb_14 * x1) + x2)))]) (w1 := mkM σ) (fun _ _ => rfl) h (fun h => ?_)
  refine bfr_run 1 28 [some (.ref 0), some (.int x1), some (.int x2), some (.int ci_0), some (.int (sA σ 11 ((cb_14 * x1) + x2))), some (.int (sA σ 10 ((cb_14 * x1) + x2))), none] [] [] (mkM σ) (fun _ _ => rfl) ?_
  exact k_m_sumTold_b28 n d q _ _ _ _ _ _ _ _ h
set_option maxRecDepth 100000 in
theorem k_m_lawOf_b117 (n d : Nat) (q : (Int32 × bS)) (s0 : Int32) (o0 : Option Value) (o1 : Option Value) (o2 : Option Value) (o3 : Option Value) (o4 : Option Value) (o5 : Option Value) (σ : bS) (h : m_lawOf_b117 n s0 σ = some q) : bfr MT (d + 2) M_X12_lawOf 117 [o0, o1, o2, o3, o4, o5] [] [(.int s0)] (mkM σ) (some (.int q.1), mkM q.2) := by
  unfold m_lawOf_b117 at h
  cases h
  exact bfr_ret 1 (fun _ _ => rfl)
set_option maxRecDepth 100000 in
theorem k_m_lawOf_b99 (n d : Nat) (q : (Int32 × bS)) (s1 : Int32) (s2 : Int32) (o1 : Option Value) (o2 : Option Value) (o3 : Option Value) (o4 : Option Value) (o5 : Option Value) (σ : bS) (h : m_lawOf_b99 n s1 s2 σ = some q) : bfr MT (d + 2) M_X12_lawOf 99 [some (.ref 0), o1, o2, o3, o4, o5] [] [(.int s2), (.int s1), (.ref 0)] (mkM σ) (some (.int q.1), mkM q.2) := by
  unfold m_lawOf_b99 at h
  refine bfr_call 1 (d1 := d + 1) (M1 := M_X12_sumTold) (vs := [(.ref 0), (.int s1), (.int s2)]) (w1 := mkM σ) (pc2 := 102) (L2 := [some (.ref 0), o1, o2, o3, o4, o5]) (J2 := []) (rest := []) (fun a => some (.int a.1)) (fun a => mkM a.2) (fun _ _ => rfl) h (fun a ha => k_m_sumTold n (d + 0) _ _ _ _ ha) (fun q1 _ h => ?_)
  refine bfr_br 4 (pc1 := 115) (L1 := [some (.ref 0), o1, o2, o3, o4, some (.int q1.1)]) (J1 := []) (st1 := []) (w1 := mkM q1.2) (pc2 := 111) (L2 := [some (.ref 0), o1, o2, o3, o4, some (.int q1.1)]) (J2 := []) (st2 := []) (w2 := mkM q1.2) (fun _ _ => rfl) h (fun h => ?_) (fun h => ?_)
  · refine bfr_run 1 117 [some (.ref 0), o1, o2, o3, o4, some (.int q1.1)] [] [(.int q1.1)] (mkM q1.2) (fun _ _ => rfl) ?_
    exact k_m_lawOf_b117 n d q _ _ _ _ _ _ _ _ h
  · refine bfr_run 2 117 [some (.ref 0), o1, o2, o3, o4, some (.int q1.1)] [] [(.int ci_0)] (mkM q1.2) (fun _ _ => rfl) ?_
    exact k_m_lawOf_b117 n d q _ _ _ _ _ _ _ _ h
set_option maxRecDepth 100000 in
theorem k_m_lawOf_b63 (n d : Nat) (r22 : Int32 → Int32 → Int32 → bS → Option (Int32 × bS)) (q : (Int32 × bS)) (hr22 : ∀ (x1 : Int32) (x3 : Int32) (x4 : Int32) (o2 : Option Value) (o5 : Option Value) (σ : bS), r22 x1 x3 x4 σ = some q → bfr MT (d + 2) M_X12_lawOf 22 [some (.ref 0), some (.int x1), o2, some (.int x3), some (.int x4), o5] [] [] (mkM σ) (some (.int q.1), mkM q.2)) (x1 : Int32) (x3 : Int32) (s0 : Int32) (o2 : Option Value) (o4 : Option Value) (o5 : Option Value) (σ : bS) (h : m_lawOf_b63 n r22 x1 x3 s0 σ = some q) : bfr MT (d + 2) M_X12_lawOf 63 [some (.ref 0), some (.int x1), o2, some (.int x3), o4, o5] [] [(.int s0)] (mkM σ) (some (.int q.1), mkM q.2) := by
  unfold m_lawOf_b63 at h
  refine bfr_br 3 (pc1 := 22) (L1 := [some (.ref 0), some (.int x1), o2, some (.int x3), some (.int s0), o5]) (J1 := []) (st1 := []) (w1 := mkM σ) (pc2 := 70) (L2 := [some (.ref 0), some (.int x1), o2, some (.int x3), some (.int s0), o5]) (J2 := []) (st2 := []) (w2 := mkM σ) (fun _ _ => rfl) h (fun h => ?_) (fun h => ?_)
  · exact hr22 _ _ _ _ _ _ h
  · refine bfr_run 1 73 [some (.ref 0), some (.int x1), o2, some (.int (x3 + ci_1)), some (.int s0), o5] [] [] (mkM σ) (fun _ _ => rfl) ?_
    refine bfr_run 1 22 [some (.ref 0), some (.int x1), o2, some (.int (x3 + ci_1)), some (.int s0), o5] [] [] (mkM σ) (fun _ _ => rfl) ?_
    exact hr22 _ _ _ _ _ _ h
set_option maxRecDepth 100000 in
theorem k_m_lawOf_b62 (n d : Nat) (r22 : Int32 → Int32 → Int32 → bS → Option (Int32 × bS)) (q : (Int32 × bS)) (hr22 : ∀ (x1 : Int32) (x3 : Int32) (x4 : Int32) (o2 : Option Value) (o5 : Option Value) (σ : bS), r22 x1 x3 x4 σ = some q → bfr MT (d + 2) M_X12_lawOf 22 [some (.ref 0), some (.int x1), o2, some (.int x3), some (.int x4), o5] [] [] (mkM σ) (some (.int q.1), mkM q.2)) (x1 : Int32) (x3 : Int32) (o2 : Option Value) (o4 : Option Value) (o5 : Option Value) (σ : bS) (h : m_lawOf_b62 n r22 x1 x3 σ = some q) : bfr MT (d + 2) M_X12_lawOf 62 [some (.ref 0), some (.int x1), o2, some (.int x3), o4, o5] [] [] (mkM σ) (some (.int q.1), mkM q.2) := by
  unfold m_lawOf_b62 at h
  refine bfr_run 1 63 [some (.ref 0), some (.int x1), o2, some (.int x3), o4, o5] [] [(.int ci_0)] (mkM σ) (fun _ _ => rfl) ?_
  exact k_m_lawOf_b63 n d _ q hr22 _ _ _ _ _ _ _ h
set_option maxRecDepth 100000 in
theorem k_m_lawOf_b22 (n d : Nat) (q : (Int32 × bS)) : ∀ (k : Nat) (x1 : Int32) (x3 : Int32) (x4 : Int32) (o2 : Option Value) (o5 : Option Value) (σ : bS), m_lawOf_b22 n k x1 x3 x4 σ = some q → bfr MT (d + 2) M_X12_lawOf 22 [some (.ref 0), some (.int x1), o2, some (.int x3), some (.int x4), o5] [] [] (mkM σ) (some (.int q.1), mkM q.2) := by
  intro k
  induction k with
  | zero => intro x1 x3 x4 o2 o5 σ h; exact bno h
  | succ k ih =>
    intro x1 x3 x4 o2 o5 σ h
    unfold m_lawOf_b22 at h
    refine bfr_br 2 (pc1 := 76) (L1 := [some (.ref 0), some (.int x1), o2, some (.int x3), some (.int x4), o5]) (J1 := []) (st1 := []) (w1 := mkM σ) (pc2 := 27) (L2 := [some (.ref 0), some (.int x1), o2, some (.int x3), some (.int x4), o5]) (J2 := []) (st2 := []) (w2 := mkM σ) (fun _ _ => rfl) h (fun h => ?_) (fun h => ?_)
    · refine bfr_run 6 84 [some (.ref 0), some (.int x1), o2, some (.int x3), some (.int x4), o5] [] [(.int x1), (.ref 9), (.int x3), (.int x1), (.ref 0)] (mkM σ) (fun _ _ => rfl) ?_
      refine bfr_in (i := x1) (m := 28) 1 (pc1 := 85) (L1 := [some (.ref 0), some (.int x1), o2, some (.int x3), some (.int x4), o5]) (J1 := []) (st1 := [(.int (sA σ 9 x1)), (.int x3), (.int x1), (.ref 0)]) (w1 := mkM σ) (fun _ _ => rfl) h (fun h => ?_)
      refine bfr_br 1 (pc1 := 96) (L1 := [some (.ref 0), some (.int x1), o2, some (.int x3), some (.int x4), o5]) (J1 := []) (st1 := [(.int x1), (.ref 0)]) (w1 := mkM σ) (pc2 := 88) (L2 := [some (.ref 0), some (.int x1), o2, some (.int x3), some (.int x4), o5]) (J2 := []) (st2 := [(.int x1), (.ref 0)]) (w2 := mkM σ) (fun _ _ => rfl) h (fun h => ?_) (fun h => ?_)
      · refine bfr_run 3 99 [some (.ref 0), some (.int x1), o2, some (.int x3), some (.int x4), o5] [] [(.int (ci_3 * x3)), (.int x1), (.ref 0)] (mkM σ) (fun _ _ => rfl) ?_
        exact k_m_lawOf_b99 n d q _ _ _ _ _ _ _ _ h
      · refine bfr_run 6 99 [some (.ref 0), some (.int x1), o2, some (.int x3), some (.int x4), o5] [] [(.int ((ci_3 * x3) + ci_2)), (.int x1), (.ref 0)] (mkM σ) (fun _ _ => rfl) ?_
        exact k_m_lawOf_b99 n d q _ _ _ _ _ _ _ _ h
    · refine bfr_in (i := x1) (m := 28) 5 (pc1 := 34) (L1 := [some (.ref 0), some (.int x1), o2, some (.int x3), some (.int x4), o5]) (J1 := []) (st1 := [(.int (sA σ 9 x1)), (.int x3)]) (w1 := mkM σ) (fun _ _ => rfl) h (fun h => ?_)
      refine bfr_br 1 (pc1 := 62) (L1 := [some (.ref 0), some (.int x1), o2, some (.int x3), some (.int x4), o5]) (J1 := []) (st1 := []) (w1 := mkM σ) (pc2 := 37) (L2 := [some (.ref 0), some (.int x1), o2, some (.int x3), some (.int x4), o5]) (J2 := []) (st2 := []) (w2 := mkM σ) (fun _ _ => rfl) h (fun h => ?_) (fun h => ?_)
      · exact k_m_lawOf_b62 n d _ q (ih) _ _ _ _ _ _ h
      · refine bfr_call 6 (d1 := d + 1) (M1 := M_X12_sumTold) (vs := [(.ref 0), (.int x1), (.int (ci_3 * x3))]) (w1 := mkM σ) (pc2 := 45) (L2 := [some (.ref 0), some (.int x1), o2, some (.int x3), some (.int x4), o5]) (J2 := []) (rest := []) (fun a => some (.int a.1)) (fun a => mkM a.2) (fun _ _ => rfl) h (fun a ha => k_m_sumTold n (d + 0) _ _ _ _ ha) (fun q2 _ h => ?_)
        refine bfr_run 6 51 [some (.ref 0), some (.int x1), o2, some (.int x3), some (.int x4), o5] [] [(.int ci_1), (.int (ci_3 * x3)), (.int x1), (.ref 0), (.int q2.1)] (mkM q2.2) (fun _ _ => rfl) ?_
        refine bfr_call 2 (d1 := d + 1) (M1 := M_X12_sumTold) (vs := [(.ref 0), (.int x1), (.int ((ci_3 * x3) + ci_1))]) (w1 := mkM q2.2) (pc2 := 55) (L2 := [some (.ref 0), some (.int x1), o2, some (.int x3), some (.int x4), o5]) (J2 := []) (rest := [(.int q2.1)]) (fun a => some (.int a.1)) (fun a => mkM a.2) (fun _ _ => rfl) h (fun a ha => k_m_sumTold n (d + 0) _ _ _ _ ha) (fun q3 _ h => ?_)
        refine bfr_br 1 (pc1 := 62) (L1 := [some (.ref 0), some (.int x1), o2, some (.int x3), some (.int x4), o5]) (J1 := []) (st1 := []) (w1 := mkM q3.2) (pc2 := 58) (L2 := [some (.ref 0), some (.int x1), o2, some (.int x3), some (.int x4), o5]) (J2 := []) (st2 := []) (w2 := mkM q3.2) (fun _ _ => rfl) h (fun h => ?_) (fun h => ?_)
        · exact k_m_lawOf_b62 n d _ q (ih) _ _ _ _ _ _ h
        · refine bfr_run 2 63 [some (.ref 0), some (.int x1), o2, some (.int x3), some (.int x4), o5] [] [(.int ci_1)] (mkM q3.2) (fun _ _ => rfl) ?_
          exact k_m_lawOf_b63 n d _ q (ih) _ _ _ _ _ _ _ h
set_option maxRecDepth 100000 in
theorem k_m_lawOf (n d : Nat) (q : (Int32 × bS)) (x1 : Int32) (x2 : Int32) (σ : bS) (h : m_lawOf n x1 x2 σ = some q) : bfr MT (d + 2) M_X12_lawOf 0 [some (.ref 0), some (.int x1), some (.int x2), none, none, none] [] [] (mkM σ) (some (.int q.1), mkM q.2) := by
  unfold m_lawOf at h
  refine bfr_in (i := x1) (m := 28) 4 (pc1 := 6) (L1 := [some (.ref 0), some (.int x1), some (.int x2), none, none, none]) (J1 := []) (st1 := [(.int (sA σ 9 x1))]) (w1 := mkM σ) (fun _ _ => rfl) h (fun h => ?_)
  refine bfr_br 2 (pc1 := 10) (L1 := [some (.ref 0), some (.int x1), some (.int x2), none, none, none]) (J1 := []) (st1 := []) (w1 := mkM σ) (pc2 := 12) (L2 := [some (.ref 0), some (.int x1), some (.int x2), none, none, none]) (J2 := []) (st2 := []) (w2 := mkM σ) (fun _ _ => rfl) h (fun h => ?_) (fun h => ?_)
  · cases h
    exact bfr_ret 2 (fun _ _ => rfl)
  · refine bfr_run 3 17 [some (.ref 0), some (.int x1), some (.int x2), none, none, none] [] [] ((mkM σ).set 0 (.inr (.inr (12, (mkM_0 σ).set 46 (.int ci_0))))) (fun _ _ => rfl) ?_
    rw [mkM_I0_46]
    refine bfr_run 4 22 [some (.ref 0), some (.int x1), some (.int x2), some (.int ci_0), some (.int ci_1), none] [] [] (mkM (uI σ 0 46 ci_0)) (fun _ _ => rfl) ?_
    exact k_m_lawOf_b22 n d q _ _ _ _ _ _ _ h
set_option maxRecDepth 100000 in
theorem k_m_asks_b32 (n d : Nat) (q : bS) (x1 : Int32) (s1 : Int32) (s2 : Int32) (o2 : Option Value) (σ : bS) (h : m_asks_b32 n x1 s1 s2 σ = some q) : bfr MT (d + 0) M_X12_asks 32 [some (.ref 0), some (.int x1), o2] [] [(.int s2), (.int s1), (.ref 31)] (mkM σ) (none, mkM q) := by
  unfold m_asks_b32 at h
  refine bfr_in (i := s1) (m := 8) 1 (pc1 := 33) (L1 := [some (.ref 0), some (.int x1), o2]) (J1 := []) (st1 := []) (w1 := ((mkM σ).set 31 (.inl (0, 8, upd (σ.2.1 31) (s1).toNatClampNeg s2)))) (fun _ _ => rfl) h (fun h => ?_)
  rw [mkM_A31]
  refine bfr_run 6 43 [some (.ref 0), some (.int x1), o2] [] [(.ref 0), (.ref 29), (.int ci_2), (.ref 31)] (mkM (uA σ 31 s1 s2)) (fun _ _ => rfl) ?_
  refine bfr_in (i := (((sI (uA σ 31 s1 s2) 0 40) + cb_26) + x1)) (m := 2208) 6 (pc1 := 52) (L1 := [some (.ref 0), some (.int x1), o2]) (J1 := []) (st1 := [(.int (sA (uA σ 31 s1 s2) 29 (((sI (uA σ 31 s1 s2) 0 40) + cb_26) + x1))), (.int ci_2), (.ref 31)]) (w1 := mkM (uA σ 31 s1 s2)) (fun _ _ => rfl) h (fun h => ?_)
  refine bfr_in (i := ci_2) (m := 8) 1 (pc1 := 53) (L1 := [some (.ref 0), some (.int x1), o2]) (J1 := []) (st1 := []) (w1 := ((mkM (uA σ 31 s1 s2)).set 31 (.inl (0, 8, upd ((uA σ 31 s1 s2).2.1 31) (ci_2).toNatClampNeg (sA (uA σ 31 s1 s2) 29 (((sI (uA σ 31 s1 s2) 0 40) + cb_26) + x1)))))) (fun _ _ => rfl) h (fun h => ?_)
  rw [mkM_A31]
  refine bfr_run 6 63 [some (.ref 0), some (.int x1), o2] [] [(.ref 0), (.ref 29), (.int ci_3), (.ref 31)] (mkM (uA (uA σ 31 s1 s2) 31 ci_2 (sA (uA σ 31 s1 s2) 29 (((sI (uA σ 31 s1 s2) 0 40) + cb_26) + x1)))) (fun _ _ => rfl) ?_
  refine bfr_in (i := (((sI (uA (uA σ 31 s1 s2) 31 ci_2 (sA (uA σ 31 s1 s2) 29 (((sI (uA σ 31 s1 s2) 0 40) + cb_26) + x1))) 0 40) + cb_19) + x1)) (m := 2208) 6 (pc1 := 72) (L1 := [some (.ref 0), some (.int x1), o2]) (J1 := []) (st1 := [(.int (sA (uA (uA σ 31 s1 s2) 31 ci_2 (sA (uA σ 31 s1 s2) 29 (((sI (uA σ 31 s1 s2) 0 40) + cb_26) + x1))) 29 (((sI (uA (uA σ 31 s1 s2) 31 ci_2 (sA (uA σ 31 s1 s2) 29 (((sI (uA σ 31 s1 s2) 0 40) + cb_26) + x1))) 0 40) + cb_19) + x1))), (.int ci_3), (.ref 31)]) (w1 := mkM (uA (uA σ 31 s1 s2) 31 ci_2 (sA (uA σ 31 s1 s2) 29 (((sI (uA σ 31 s1 s2) 0 40) + cb_26) + x1)))) (fun _ _ => rfl) h (fun h => ?_)
  refine bfr_in (i := ci_3) (m := 8) 1 (pc1 := 73) (L1 := [some (.ref 0), some (.int x1), o2]) (J1 := []) (st1 := []) (w1 := ((mkM (uA (uA σ 31 s1 s2) 31 ci_2 (sA (uA σ 31 s1 s2) 29 (((sI (uA σ 31 s1 s2) 0 40) + cb_26) + x1)))).set 31 (.inl (0, 8, upd ((uA (uA σ 31 s1 s2) 31 ci_2 (sA (uA σ 31 s1 s2) 29 (((sI (uA σ 31 s1 s2) 0 40) + cb_26) + x1))).2.1 31) (ci_3).toNatClampNeg (sA (uA (uA σ 31 s1 s2) 31 ci_2 (sA (uA σ 31 s1 s2) 29 (((sI (uA σ 31 s1 s2) 0 40) + cb_26) + x1))) 29 (((sI (uA (uA σ 31 s1 s2) 31 ci_2 (sA (uA σ 31 s1 s2) 29 (((sI (uA σ 31 s1 s2) 0 40) + cb_26) + x1))) 0 40) + cb_19) + x1)))))) (fun _ _ => rfl) h (fun h => ?_)
  rw [mkM_A31]
  refine bfr_run 6 83 [some (.ref 0), some (.int x1), o2] [] [(.int x1), (.ref 22), (.int ci_4), (.ref 31)] (mkM (uA (uA (uA σ 31 s1 s2) 31 ci_2 (sA (uA σ 31 s1 s2) 29 (((sI (uA σ 31 s1 s2) 0 40) + cb_26) + x1))) 31 ci_3 (sA (uA (uA σ 31 s1 s2) 31 ci_2 (sA (uA σ 31 s1 s2) 29 (((sI (uA σ 31 s1 s2) 0 40) + cb_26) + x1))) 29 (((sI (uA (uA σ 31 s1 s2) 31 ci_2 (sA (uA σ 31 s1 s2) 29 (((sI (uA σ 31 s1 s2) 0 40) + cb_26) + x1))) 0 40) + cb_19) + x1)))) (fun _ _ => rfl) ?_
  refine bfr_in (i := x1) (m := 14) 1 (pc1 := 84) (L1 := [some (.ref 0), some (.int x1), o2]) (J1 := []) (st1 := [(.int (sA (uA (uA (uA σ 31 s1 s2) 31 ci_2 (sA (uA σ 31 s1 s2) 29 (((sI (uA σ 31 s1 s2) 0 40) + cb_26) + x1))) 31 ci_3 (sA (uA (uA σ 31 s1 s2) 31 ci_2 (sA (uA σ 31 s1 s2) 29 (((sI (uA σ 31 s1 s2) 0 40) + cb_26) + x1))) 29 (((sI (uA (uA σ 31 s1 s2) 31 ci_2 (sA (uA σ 31 s1 s2) 29 (((sI (uA σ 31 s1 s2) 0 40) + cb_26) + x1))) 0 40) + cb_19) + x1))) 22 x1)), (.int ci_4), (.ref 31)]) (w1 := mkM (uA (uA (uA σ 31 s1 s2) 31 ci_2 (sA (uA σ 31 s1 s2) 29 (((sI (uA σ 31 s1 s2) 0 40) + cb_26) + x1))) 31 ci_3 (sA (uA (uA σ 31 s1 s2) 31 ci_2 (sA (uA σ 31 s1 s2) 29 (((sI (uA σ 31 s1 s2) 0 40) + cb_26) + x1))) 29 (((sI (uA (uA σ 31 s1 s2) 31 ci_2 (sA (uA σ 31 s1 s2) 29 (((sI (uA σ 31 s1 s2) 0 40) + cb_26) + x1))) 0 40) + cb_19) + x1)))) (fun _ _ => rfl) h (fun h => ?_)
  refine bfr_in (i := ci_4) (m := 8) 1 (pc1 := 85) (L1 := [some (.ref 0), some (.int x1), o2]) (J1 := []) (st1 := []) (w1 := ((mkM (uA (uA (uA σ 31 s1 s2) 31 ci_2 (sA (uA σ 31 s1 s2) 29 (((sI (uA σ 31 s1 s2) 0 40) + cb_26) + x1))) 31 ci_3 (sA (uA (uA σ 31 s1 s2) 31 ci_2 (sA (uA σ 31 s1 s2) 29 (((sI (uA σ 31 s1 s2) 0 40) + cb_26) + x1))) 29 (((sI (uA (uA σ 31 s1 s2) 31 ci_2 (sA (uA σ 31 s1 s2) 29 (((sI (uA σ 31 s1 s2) 0 40) + cb_26) + x1))) 0 40) + cb_19) + x1)))).set 31 (.inl (0, 8, upd ((uA (uA (uA σ 31 s1 s2) 31 ci_2 (sA (uA σ 31 s1 s2) 29 (((sI (uA σ 31 s1 s2) 0 40) + cb_26) + x1))) 31 ci_3 (sA (uA (uA σ 31 s1 s2) 31 ci_2 (sA (uA σ 31 s1 s2) 29 (((sI (uA σ 31 s1 s2) 0 40) + cb_26) + x1))) 29 (((sI (uA (uA σ 31 s1 s2) 31 ci_2 (sA (uA σ 31 s1 s2) 29 (((sI (uA σ 31 s1 s2) 0 40) + cb_26) + x1))) 0 40) + cb_19) + x1))).2.1 31) (ci_4).toNatClampNeg (sA (uA (uA (uA σ 31 s1 s2) 31 ci_2 (sA (uA σ 31 s1 s2) 29 (((sI (uA σ 31 s1 s2) 0 40) + cb_26) + x1))) 31 ci_3 (sA (uA (uA σ 31 s1 s2) 31 ci_2 (sA (uA σ 31 s1 s2) 29 (((sI (uA σ 31 s1 s2) 0 40) + cb_26) + x1))) 29 (((sI (uA (uA σ 31 s1 s2) 31 ci_2 (sA (uA σ 31 s1 s2) 29 (((sI (uA σ 31 s1 s2) 0 40) + cb_26) + x1))) 0 40) + cb_19) + x1))) 22 x1))))) (fun _ _ => rfl) h (fun h => ?_)
  rw [mkM_A31]
  refine bfr_in (i := ci_5) (m := 8) 5 (pc1 := 92) (L1 := [some (.ref 0), some (.int x1), o2]) (J1 := []) (st1 := []) (w1 := ((mkM (uA (uA (uA (uA σ 31 s1 s2) 31 ci_2 (sA (uA σ 31 s1 s2) 29 (((sI (uA σ 31 s1 s2) 0 40) + cb_26) + x1))) 31 ci_3 (sA (uA (uA σ 31 s1 s2) 31 ci_2 (sA (uA σ 31 s1 s2) 29 (((sI (uA σ 31 s1 s2) 0 40) + cb_26) + x1))) 29 (((sI (uA (uA σ 31 s1 s2) 31 ci_2 (sA (uA σ 31 s1 s2) 29 (((sI (uA σ 31 s1 s2) 0 40) + cb_26) + x1))) 0 40) + cb_19) + x1))) 31 ci_4 (sA (uA (uA (uA σ 31 s1 s2) 31 ci_2 (sA (uA σ 31 s1 s2) 29 (((sI (uA σ 31 s1 s2) 0 40) + cb_26) + x1))) 31 ci_3 (sA (uA (uA σ 31 s1 s2) 31 ci_2 (sA (uA σ 31 s1 s2) 29 (((sI (uA σ 31 s1 s2) 0 40) + cb_26) + x1))) 29 (((sI (uA (uA σ 31 s1 s2) 31 ci_2 (sA (uA σ 31 s1 s2) 29 (((sI (uA σ 31 s1 s2) 0 40) + cb_26) + x1))) 0 40) + cb_19) + x1))) 22 x1))).set 31 (.inl (0, 8, upd ((uA (uA (uA (uA σ 31 s1 s2) 31 ci_2 (sA (uA σ 31 s1 s2) 29 (((sI (uA σ 31 s1 s2) 0 40) + cb_26) + x1))) 31 ci_3 (sA (uA (uA σ 31 s1 s2) 31 ci_2 (sA (uA σ 31 s1 s2) 29 (((sI (uA σ 31 s1 s2) 0 40) + cb_26) + x1))) 29 (((sI (uA (uA σ 31 s1 s2) 31 ci_2 (sA (uA σ 31 s1 s2) 29 (((sI (uA σ 31 s1 s2) 0 40) + cb_26) + x1))) 0 40) + cb_19) + x1))) 31 ci_4 (sA (uA (uA (uA σ 31 s1 s2) 31 ci_2 (sA (uA σ 31 s1 s2) 29 (((sI (uA σ 31 s1 s2) 0 40) + cb_26) + x1))) 31 ci_3 (sA (uA (uA σ 31 s1 s2) 31 ci_2 (sA (uA σ 31 s1 s2) 29 (((sI (uA σ 31 s1 s2) 0 40) + cb_26) + x1))) 29 (((sI (uA (uA σ 31 s1 s2) 31 ci_2 (sA (uA σ 31 s1 s2) 29 (((sI (uA σ 31 s1 s2) 0 40) + cb_26) + x1))) 0 40) + cb_19) + x1))) 22 x1)).2.1 31) (ci_5).toNatClampNeg x1)))) (fun _ _ => rfl) h (fun h => ?_)
  rw [mkM_A31]
  refine bfr_run 6 103 [some (.ref 0), some (.int x1), o2] [] [(.ref 0), (.ref 29), (.int cb_6), (.ref 31)] (mkM (uA (uA (uA (uA (uA σ 31 s1 s2) 31 ci_2 (sA (uA σ 31 s1 s2) 29 (((sI (uA σ 31 s1 s2) 0 40) + cb_26) + x1))) 31 ci_3 (sA (uA (uA σ 31 s1 s2) 31 ci_2 (sA (uA σ 31 s1 s2) 29 (((sI (uA σ 31 s1 s2) 0 40) + cb_26) + x1))) 29 (((sI (uA (uA σ 31 s1 s2) 31 ci_2 (sA (uA σ 31 s1 s2) 29 (((sI (uA σ 31 s1 s2) 0 40) + cb_26) + x1))) 0 40) + cb_19) + x1))) 31 ci_4 (sA (uA (uA (uA σ 31 s1 s2) 31 ci_2 (sA (uA σ 31 s1 s2) 29 (((sI (uA σ 31 s1 s2) 0 40) + cb_26) + x1))) 31 ci_3 (sA (uA (uA σ 31 s1 s2) 31 ci_2 (sA (uA σ 31 s1 s2) 29 (((sI (uA σ 31 s1 s2) 0 40) + cb_26) + x1))) 29 (((sI (uA (uA σ 31 s1 s2) 31 ci_2 (sA (uA σ 31 s1 s2) 29 (((sI (uA σ 31 s1 s2) 0 40) + cb_26) + x1))) 0 40) + cb_19) + x1))) 22 x1)) 31 ci_5 x1)) (fun _ _ => rfl) ?_
  refine bfr_in (i := (((sI (uA (uA (uA (uA (uA σ 31 s1 s2) 31 ci_2 (sA (uA σ 31 s1 s2) 29 (((sI (uA σ 31 s1 s2) 0 40) + cb_26) + x1))) 31 ci_3 (sA (uA (uA σ 31 s1 s2) 31 ci_2 (sA (uA σ 31 s1 s2) 29 (((sI (uA σ 31 s1 s2) 0 40) + cb_26) + x1))) 29 (((sI (uA (uA σ 31 s1 s2) 31 ci_2 (sA (uA σ 31 s1 s2) 29 (((sI (uA σ 31 s1 s2) 0 40) + cb_26) + x1))) 0 40) + cb_19) + x1))) 31 ci_4 (sA (uA (uA (uA σ 31 s1 s2) 31 ci_2 (sA (uA σ 31 s1 s2) 29 (((sI (uA σ 31 s1 s2) 0 40) + cb_26) + x1))) 31 ci_3 (sA (uA (uA σ 31 s1 s2) 31 ci_2 (sA (uA σ 31 s1 s2) 29 (((sI (uA σ 31 s1 s2) 0 40) + cb_26) + x1))) 29 (((sI (uA (uA σ 31 s1 s2) 31 ci_2 (sA (uA σ 31 s1 s2) 29 (((sI (uA σ 31 s1 s2) 0 40) + cb_26) + x1))) 0 40) + cb_19) + x1))) 22 x1)) 31 ci_5 x1) 0 40) + ci_5) + x1)) (m := 2208) 6 (pc1 := 111) (L1 := [some (.ref 0), some (.int x1), o2]) (J1 := []) (st1 := [(.int (sA (uA (uA (uA (uA (uA σ 31 s1 s2) 31 ci_2 (sA (uA σ 31 s1 s2) 29 (((sI (uA σ 31 s1 s2) 0 40) + cb_26) + x1))) 31 ci_3 (sA (uA (uA σ 31 s1 s2) 31 ci_2 (sA (uA σ 31 s1 s2) 29 (((sI (uA σ 31 s1 s2) 0 40) + cb_26) + x1))) 29 (((sI (uA (uA σ 31 s1 s2) 31 ci_2 (sA (uA σ 31 s1 s2) 29 (((sI (uA σ 31 s1 s2) 0 40) + cb_26) + x1))) 0 40) + cb_19) + x1))) 31 ci_4 (sA (uA (uA (uA σ 31 s1 s2) 31 ci_2 (sA (uA σ 31 s1 s2) 29 (((sI (uA σ 31 s1 s2) 0 40) + cb_26) + x1))) 31 ci_3 (sA (uA (uA σ 31 s1 s2) 31 ci_2 (sA (uA σ 31 s1 s2) 29 (((sI (uA σ 31 s1 s2) 0 40) + cb_26) + x1))) 29 (((sI (uA (uA σ 31 s1 s2) 31 ci_2 (sA (uA σ 31 s1 s2) 29 (((sI (uA σ 31 s1 s2) 0 40) + cb_26) + x1))) 0 40) + cb_19) + x1))) 22 x1)) 31 ci_5 x1) 29 (((sI (uA (uA (uA (uA (uA σ 31 s1 s2) 31 ci_2 (sA (uA σ 31 s1 s2) 29 (((sI (uA σ 31 s1 s2) 0 40) + cb_26) + x1))) 31 ci_3 (sA (uA (uA σ 31 s1 s2) 31 ci_2 (sA (uA σ 31 s1 s2) 29 (((sI (uA σ 31 s1 s2) 0 40) + cb_26) + x1))) 29 (((sI (uA (uA σ 31 s1 s2) 31 ci_2 (sA (uA σ 31 s1 s2) 29 (((sI (uA σ 31 s1 s2) 0 40) + cb_26) + x1))) 0 40) + cb_19) + x1))) 31 ci_4 (sA (uA (uA (uA σ 31 s1 s2) 31 ci_2 (sA (uA σ 31 s1 s2) 29 (((sI (uA σ 31 s1 s2) 0 40) + cb_26) + x1))) 31 ci_3 (sA (uA (uA σ 31 s1 s2) 31 ci_2 (sA (uA σ 31 s1 s2) 29 (((sI (uA σ 31 s1 s2) 0 40) + cb_26) + x1))) 29 (((sI (uA (uA σ 31 s1 s2) 31 ci_2 (sA (uA σ 31 s1 s2) 29 (((sI (uA σ 31 s1 s2) 0 40) + cb_26) + x1))) 0 40) + cb_19) + x1))) 22 x1)) 31 ci_5 x1) 0 40) + ci_5) + x1))), (.int cb_6), (.ref 31)]) (w1 := mkM (uA (uA (uA (uA (uA σ 31 s1 s2) 31 ci_2 (sA (uA σ 31 s1 s2) 29 (((sI (uA σ 31 s1 s2) 0 40) + cb_26) + x1))) 31 ci_3 (sA (uA (uA σ 31 s1 s2) 31 ci_2 (sA (uA σ 31 s1 s2) 29 (((sI (uA σ 31 s1 s2) 0 40) + cb_26) + x1))) 29 (((sI (uA (uA σ 31 s1 s2) 31 ci_2 (sA (uA σ 31 s1 s2) 29 (((sI (uA σ 31 s1 s2) 0 40) + cb_26) + x1))) 0 40) + cb_19) + x1))) 31 ci_4 (sA (uA (uA (uA σ 31 s1 s2) 31 ci_2 (sA (uA σ 31 s1 s2) 29 (((sI (uA σ 31 s1 s2) 0 40) + cb_26) + x1))) 31 ci_3 (sA (uA (uA σ 31 s1 s2) 31 ci_2 (sA (uA σ 31 s1 s2) 29 (((sI (uA σ 31 s1 s2) 0 40) + cb_26) + x1))) 29 (((sI (uA (uA σ 31 s1 s2) 31 ci_2 (sA (uA σ 31 s1 s2) 29 (((sI (uA σ 31 s1 s2) 0 40) + cb_26) + x1))) 0 40) + cb_19) + x1))) 22 x1)) 31 ci_5 x1)) (fun _ _ => rfl) h (fun h => ?_)
  refine bfr_in (i := cb_6) (m := 8) 1 (pc1 := 112) (L1 := [some (.ref 0), some (.int x1), o2]) (J1 := []) (st1 := []) (w1 := ((mkM (uA (uA (uA (uA (uA σ 31 s1 s2) 31 ci_2 (sA (uA σ 31 s1 s2) 29 (((sI (uA σ 31 s1 s2) 0 40) + cb_26) + x1))) 31 ci_3 (sA (uA (uA σ 31 s1 s2) 31 ci_2 (sA (uA σ 31 s1 s2) 29 (((sI (uA σ 31 s1 s2) 0 40) + cb_26) + x1))) 29 (((sI (uA (uA σ 31 s1 s2) 31 ci_2 (sA (uA σ 31 s1 s2) 29 (((sI (uA σ 31 s1 s2) 0 40) + cb_26) + x1))) 0 40) + cb_19) + x1))) 31 ci_4 (sA (uA (uA (uA σ 31 s1 s2) 31 ci_2 (sA (uA σ 31 s1 s2) 29 (((sI (uA σ 31 s1 s2) 0 40) + cb_26) + x1))) 31 ci_3 (sA (uA (uA σ 31 s1 s2) 31 ci_2 (sA (uA σ 31 s1 s2) 29 (((sI (uA σ 31 s1 s2) 0 40) + cb_26) + x1))) 29 (((sI (uA (uA σ 31 s1 s2) 31 ci_2 (sA (uA σ 31 s1 s2) 29 (((sI (uA σ 31 s1 s2) 0 40) + cb_26) + x1))) 0 40) + cb_19) + x1))) 22 x1)) 31 ci_5 x1)).set 31 (.inl (0, 8, upd ((uA (uA (uA (uA (uA σ 31 s1 s2) 31 ci_2 (sA (uA σ 31 s1 s2) 29 (((sI (uA σ 31 s1 s2) 0 40) + cb_26) + x1))) 31 ci_3 (sA (uA (uA σ 31 s1 s2) 31 ci_2 (sA (uA σ 31 s1 s2) 29 (((sI (uA σ 31 s1 s2) 0 40) + cb_26) + x1))) 29 (((sI (uA (uA σ 31 s1 s2) 31 ci_2 (sA (uA σ 31 s1 s2) 29 (((sI (uA σ 31 s1 s2) 0 40) + cb_26) + x1))) 0 40) + cb_19) + x1))) 31 ci_4 (sA (uA (uA (uA σ 31 s1 s2) 31 ci_2 (sA (uA σ 31 s1 s2) 29 (((sI (uA σ 31 s1 s2) 0 40) + cb_26) + x1))) 31 ci_3 (sA (uA (uA σ 31 s1 s2) 31 ci_2 (sA (uA σ 31 s1 s2) 29 (((sI (uA σ 31 s1 s2) 0 40) + cb_26) + x1))) 29 (((sI (uA (uA σ 31 s1 s2) 31 ci_2 (sA (uA σ 31 s1 s2) 29 (((sI (uA σ 31 s1 s2) 0 40) + cb_26) + x1))) 0 40) + cb_19) + x1))) 22 x1)) 31 ci_5 x1).2.1 31) (cb_6).toNatClampNeg (sA (uA (uA (uA (uA (uA σ 31 s1 s2) 31 ci_2 (sA (uA σ 31 s1 s2) 29 (((sI (uA σ 31 s1 s2) 0 40) + cb_26) + x1))) 31 ci_3 (sA (uA (uA σ 31 s1 s2) 31 ci_2 (sA (uA σ 31 s1 s2) 29 (((sI (uA σ 31 s1 s2) 0 40) + cb_26) + x1))) 29 (((sI (uA (uA σ 31 s1 s2) 31 ci_2 (sA (uA σ 31 s1 s2) 29 (((sI (uA σ 31 s1 s2) 0 40) + cb_26) + x1))) 0 40) + cb_19) + x1))) 31 ci_4 (sA (uA (uA (uA σ 31 s1 s2) 31 ci_2 (sA (uA σ 31 s1 s2) 29 (((sI (uA σ 31 s1 s2) 0 40) + cb_26) + x1))) 31 ci_3 (sA (uA (uA σ 31 s1 s2) 31 ci_2 (sA (uA σ 31 s1 s2) 29 (((sI (uA σ 31 s1 s2) 0 40) + cb_26) + x1))) 29 (((sI (uA (uA σ 31 s1 s2) 31 ci_2 (sA (uA σ 31 s1 s2) 29 (((sI (uA σ 31 s1 s2) 0 40) + cb_26) + x1))) 0 40) + cb_19) + x1))) 22 x1)) 31 ci_5 x1) 29 (((sI (uA (uA (uA (uA (uA σ 31 s1 s2) 31 ci_2 (sA (uA σ 31 s1 s2) 29 (((sI (uA σ 31 s1 s2) 0 40) + cb_26) + x1))) 31 ci_3 (sA (uA (uA σ 31 s1 s2) 31 ci_2 (sA (uA σ 31 s1 s2) 29 (((sI (uA σ 31 s1 s2) 0 40) + cb_26) + x1))) 29 (((sI (uA (uA σ 31 s1 s2) 31 ci_2 (sA (uA σ 31 s1 s2) 29 (((sI (uA σ 31 s1 s2) 0 40) + cb_26) + x1))) 0 40) + cb_19) + x1))) 31 ci_4 (sA (uA (uA (uA σ 31 s1 s2) 31 ci_2 (sA (uA σ 31 s1 s2) 29 (((sI (uA σ 31 s1 s2) 0 40) + cb_26) + x1))) 31 ci_3 (sA (uA (uA σ 31 s1 s2) 31 ci_2 (sA (uA σ 31 s1 s2) 29 (((sI (uA σ 31 s1 s2) 0 40) + cb_26) + x1))) 29 (((sI (uA (uA σ 31 s1 s2) 31 ci_2 (sA (uA σ 31 s1 s2) 29 (((sI (uA σ 31 s1 s2) 0 40) + cb_26) + x1))) 0 40) + cb_19) + x1))) 22 x1)) 31 ci_5 x1) 0 40) + ci_5) + x1)))))) (fun _ _ => rfl) h (fun h => ?_)
  rw [mkM_A31]
  refine bfr_run 6 123 [some (.ref 0), some (.int x1), o2] [] [(.ref 0), (.ref 29), (.int cb_7), (.ref 31)] (mkM (uA (uA (uA (uA (uA (uA σ 31 s1 s2) 31 ci_2 (sA (uA σ 31 s1 s2) 29 (((sI (uA σ 31 s1 s2) 0 40) + cb_26) + x1))) 31 ci_3 (sA (uA (uA σ 31 s1 s2) 31 ci_2 (sA (uA σ 31 s1 s2) 29 (((sI (uA σ 31 s1 s2) 0 40) + cb_26) + x1))) 29 (((sI (uA (uA σ 31 s1 s2) 31 ci_2 (sA (uA σ 31 s1 s2) 29 (((sI (uA σ 31 s1 s2) 0 40) + cb_26) + x1))) 0 40) + cb_19) + x1))) 31 ci_4 (sA (uA (uA (uA σ 31 s1 s2) 31 ci_2 (sA (uA σ 31 s1 s2) 29 (((sI (uA σ 31 s1 s2) 0 40) + cb_26) + x1))) 31 ci_3 (sA (uA (uA σ 31 s1 s2) 31 ci_2 (sA (uA σ 31 s1 s2) 29 (((sI (uA σ 31 s1 s2) 0 40) + cb_26) + x1))) 29 (((sI (uA (uA σ 31 s1 s2) 31 ci_2 (sA (uA σ 31 s1 s2) 29 (((sI (uA σ 31 s1 s2) 0 40) + cb_26) + x1))) 0 40) + cb_19) + x1))) 22 x1)) 31 ci_5 x1) 31 cb_6 (sA (uA (uA (uA (uA (uA σ 31 s1 s2) 31 ci_2 (sA (uA σ 31 s1 s2) 29 (((sI (uA σ 31 s1 s2) 0 40) + cb_26) + x1))) 31 ci_3 (sA (uA (uA σ 31 s1 s2) 31 ci_2 (sA (uA σ 31 s1 s2) 29 (((sI (uA σ 31 s1 s2) 0 40) + cb_26) + x1))) 29 (((sI (uA (uA σ 31 s1 s2) 31 ci_2 (sA (uA σ 31 s1 s2) 29 (((sI (uA σ 31 s1 s2) 0 40) + cb_26) + x1))) 0 40) + cb_19) + x1))) 31 ci_4 (sA (uA (uA (uA σ 31 s1 s2) 31 ci_2 (sA (uA σ 31 s1 s2) 29 (((sI (uA σ 31 s1 s2) 0 40) + cb_26) + x1))) 31 ci_3 (sA (uA (uA σ 31 s1 s2) 31 ci_2 (sA (uA σ 31 s1 s2) 29 (((sI (uA σ 31 s1 s2) 0 40) + cb_26) + x1))) 29 (((sI (uA (uA σ 31 s1 s2) 31 ci_2 (sA (uA σ 31 s1 s2) 29 (((sI (uA σ 31 s1 s2) 0 40) + cb_26) + x1))) 0 40) + cb_19) + x1))) 22 x1)) 31 ci_5 x1) 29 (((sI (uA (uA (uA (uA (uA σ 31 s1 s2) 31 ci_2 (sA (uA σ 31 s1 s2) 29 (((sI (uA σ 31 s1 s2) 0 40) + cb_26) + x1))) 31 ci_3 (sA (uA (uA σ 31 s1 s2) 31 ci_2 (sA (uA σ 31 s1 s2) 29 (((sI (uA σ 31 s1 s2) 0 40) + cb_26) + x1))) 29 (((sI (uA (uA σ 31 s1 s2) 31 ci_2 (sA (uA σ 31 s1 s2) 29 (((sI (uA σ 31 s1 s2) 0 40) + cb_26) + x1))) 0 40) + cb_19) + x1))) 31 ci_4 (sA (uA (uA (uA σ 31 s1 s2) 31 ci_2 (sA (uA σ 31 s1 s2) 29 (((sI (uA σ 31 s1 s2) 0 40) + cb_26) + x1))) 31 ci_3 (sA (uA (uA σ 31 s1 s2) 31 ci_2 (sA (uA σ 31 s1 s2) 29 (((sI (uA σ 31 s1 s2) 0 40) + cb_26) + x1))) 29 (((sI (uA (uA σ 31 s1 s2) 31 ci_2 (sA (uA σ 31 s1 s2) 29 (((sI (uA σ 31 s1 s2) 0 40) + cb_26) + x1))) 0 40) + cb_19) + x1))) 22 x1)) 31 ci_5 x1) 0 40) + ci_5) + x1)))) (fun _ _ => rfl) ?_
  refine bfr_in (i := (((sI (uA (uA (uA (uA (uA (uA σ 31 s1 s2) 31 ci_2 (sA (uA σ 31 s1 s2) 29 (((sI (uA σ 31 s1 s2) 0 40) + cb_26) + x1))) 31 ci_3 (sA (uA (uA σ 31 s1 s2) 31 ci_2 (sA (uA σ 31 s1 s2) 29 (((sI (uA σ 31 s1 s2) 0 40) + cb_26) + x1))) 29 (((sI (uA (uA σ 31 s1 s2) 31 ci_2 (sA (uA σ 31 s1 s2) 29 (((sI (uA σ 31 s1 s2) 0 40) + cb_26) + x1))) 0 40) + cb_19) + x1))) 31 ci_4 (sA (uA (uA (uA σ 31 s1 s2) 31 ci_2 (sA (uA σ 31 s1 s2) 29 (((sI (uA σ 31 s1 s2) 0 40) + cb_26) + x1))) 31 ci_3 (sA (uA (uA σ 31 s1 s2) 31 ci_2 (sA (uA σ 31 s1 s2) 29 (((sI (uA σ 31 s1 s2) 0 40) + cb_26) + x1))) 29 (((sI (uA (uA σ 31 s1 s2) 31 ci_2 (sA (uA σ 31 s1 s2) 29 (((sI (uA σ 31 s1 s2) 0 40) + cb_26) + x1))) 0 40) + cb_19) + x1))) 22 x1)) 31 ci_5 x1) 31 cb_6 (sA (uA (uA (uA (uA (uA σ 31 s1 s2) 31 ci_2 (sA (uA σ 31 s1 s2) 29 (((sI (uA σ 31 s1 s2) 0 40) + cb_26) + x1))) 31 ci_3 (sA (uA (uA σ 31 s1 s2) 31 ci_2 (sA (uA σ 31 s1 s2) 29 (((sI (uA σ 31 s1 s2) 0 40) + cb_26) + x1))) 29 (((sI (uA (uA σ 31 s1 s2) 31 ci_2 (sA (uA σ 31 s1 s2) 29 (((sI (uA σ 31 s1 s2) 0 40) + cb_26) + x1))) 0 40) + cb_19) + x1))) 31 ci_4 (sA (uA (uA (uA σ 31 s1 s2) 31 ci_2 (sA (uA σ 31 s1 s2) 29 (((sI (uA σ 31 s1 s2) 0 40) + cb_26) + x1))) 31 ci_3 (sA (uA (uA σ 31 s1 s2) 31 ci_2 (sA (uA σ 31 s1 s2) 29 (((sI (uA σ 31 s1 s2) 0 40) + cb_26) + x1))) 29 (((sI (uA (uA σ 31 s1 s2) 31 ci_2 (sA (uA σ 31 s1 s2) 29 (((sI (uA σ 31 s1 s2) 0 40) + cb_26) + x1))) 0 40) + cb_19) + x1))) 22 x1)) 31 ci_5 x1) 29 (((sI (uA (uA (uA (uA (uA σ 31 s1 s2) 31 ci_2 (sA (uA σ 31 s1 s2) 29 (((sI (uA σ 31 s1 s2) 0 40) + cb_26) + x1))) 31 ci_3 (sA (uA (uA σ 31 s1 s2) 31 ci_2 (sA (uA σ 31 s1 s2) 29 (((sI (uA σ 31 s1 s2) 0 40) + cb_26) + x1))) 29 (((sI (uA (uA σ 31 s1 s2) 31 ci_2 (sA (uA σ 31 s1 s2) 29 (((sI (uA σ 31 s1 s2) 0 40) + cb_26) + x1))) 0 40) + cb_19) + x1))) 31 ci_4 (sA (uA (uA (uA σ 31 s1 s2) 31 ci_2 (sA (uA σ 31 s1 s2) 29 (((sI (uA σ 31 s1 s2) 0 40) + cb_26) + x1))) 31 ci_3 (sA (uA (uA σ 31 s1 s2) 31 ci_2 (sA (uA σ 31 s1 s2) 29 (((sI (uA σ 31 s1 s2) 0 40) + cb_26) + x1))) 29 (((sI (uA (uA σ 31 s1 s2) 31 ci_2 (sA (uA σ 31 s1 s2) 29 (((sI (uA σ 31 s1 s2) 0 40) + cb_26) + x1))) 0 40) + cb_19) + x1))) 22 x1)) 31 ci_5 x1) 0 40) + ci_5) + x1))) 0 40) + cb_33) + x1)) (m := 2208) 6 (pc1 := 132) (L1 := [some (.ref 0), some (.int x1), o2]) (J1 := []) (st1 := [(.int (sA (uA (uA (uA (uA (uA (uA σ 31 s1 s2) 31 ci_2 (sA (uA σ 31 s1 s2) 29 (((sI (uA σ 31 s1 s2) 0 40) + cb_26) + x1))) 31 ci_3 (sA (uA (uA σ 31 s1 s2) 31 ci_2 (sA (uA σ 31 s1 s2) 29 (((sI (uA σ 31 s1 s2) 0 40) + cb_26) + x1))) 29 (((sI (uA (uA σ 31 s1 s2) 31 ci_2 (sA (uA σ 31 s1 s2) 29 (((sI (uA σ 31 s1 s2) 0 40) + cb_26) + x1))) 0 40) + cb_19) + x1))) 31 ci_4 (sA (uA (uA (uA σ 31 s1 s2) 31 ci_2 (sA (uA σ 31 s1 s2) 29 (((sI (uA σ 31 s1 s2) 0 40) + cb_26) + x1))) 31 ci_3 (sA (uA (uA σ 31 s1 s2) 31 ci_2 (sA (uA σ 31 s1 s2) 29 (((sI (uA σ 31 s1 s2) 0 40) + cb_26) + x1))) 29 (((sI (uA (uA σ 31 s1 s2) 31 ci_2 (sA (uA σ 31 s1 s2) 29 (((sI (uA σ 31 s1 s2) 0 40) + cb_26) + x1))) 0 40) + cb_19) + x1))) 22 x1)) 31 ci_5 x1) 31 cb_6 (sA (uA (uA (uA (uA (uA σ 31 s1 s2) 31 ci_2 (sA (uA σ 31 s1 s2) 29 (((sI (uA σ 31 s1 s2) 0 40) + cb_26) + x1))) 31 ci_3 (sA (uA (uA σ 31 s1 s2) 31 ci_2 (sA (uA σ 31 s1 s2) 29 (((sI (uA σ 31 s1 s2) 0 40) + cb_26) + x1))) 29 (((sI (uA (uA σ 31 s1 s2) 31 ci_2 (sA (uA σ 31 s1 s2) 29 (((sI (uA σ 31 s1 s2) 0 40) + cb_26) + x1))) 0 40) + cb_19) + x1))) 31 ci_4 (sA (uA (uA (uA σ 31 s1 s2) 31 ci_2 (sA (uA σ 31 s1 s2) 29 (((sI (uA σ 31 s1 s2) 0 40) + cb_26) + x1))) 31 ci_3 (sA (uA (uA σ 31 s1 s2) 31 ci_2 (sA (uA σ 31 s1 s2) 29 (((sI (uA σ 31 s1 s2) 0 40) + cb_26) + x1))) 29 (((sI (uA (uA σ 31 s1 s2) 31 ci_2 (sA (uA σ 31 s1 s2) 29 (((sI (uA σ 31 s1 s2) 0 40) + cb_26) + x1))) 0 40) + cb_19) + x1))) 22 x1)) 31 ci_5 x1) 29 (((sI (uA (uA (uA (uA (uA σ 31 s1 s2) 31 ci_2 (sA (uA σ 31 s1 s2) 29 (((sI (uA σ 31 s1 s2) 0 40) + cb_26) + x1))) 31 ci_3 (sA (uA (uA σ 31 s1 s2) 31 ci_2 (sA (uA σ 31 s1 s2) 29 (((sI (uA σ 31 s1 s2) 0 40) + cb_26) + x1))) 29 (((sI (uA (uA σ 31 s1 s2) 31 ci_2 (sA (uA σ 31 s1 s2) 29 (((sI (uA σ 31 s1 s2) 0 40) + cb_26) + x1))) 0 40) + cb_19) + x1))) 31 ci_4 (sA (uA (uA (uA σ 31 s1 s2) 31 ci_2 (sA (uA σ 31 s1 s2) 29 (((sI (uA σ 31 s1 s2) 0 40) + cb_26) + x1))) 31 ci_3 (sA (uA (uA σ 31 s1 s2) 31 ci_2 (sA (uA σ 31 s1 s2) 29 (((sI (uA σ 31 s1 s2) 0 40) + cb_26) + x1))) 29 (((sI (uA (uA σ 31 s1 s2) 31 ci_2 (sA (uA σ 31 s1 s2) 29 (((sI (uA σ 31 s1 s2) 0 40) + cb_26) + x1))) 0 40) + cb_19) + x1))) 22 x1)) 31 ci_5 x1) 0 40) + ci_5) + x1))) 29 (((sI (uA (uA (uA (uA (uA (uA σ 31 s1 s2) 31 ci_2 (sA (uA σ 31 s1 s2) 29 (((sI (uA σ 31 s1 s2) 0 40) + cb_26) + x1))) 31 ci_3 (sA (uA (uA σ 31 s1 s2) 31 ci_2 (sA (uA σ 31 s1 s2) 29 (((sI (uA σ 31 s1 s2) 0 40) + cb_26) + x1))) 29 (((sI (uA (uA σ 31 s1 s2) 31 ci_2 (sA (uA σ 31 s1 s2) 29 (((sI (uA σ 31 s1 s2) 0 40) + cb_26) + x1))) 0 40) + cb_19) + x1))) 31 ci_4 (sA (uA (uA (uA σ 31 s1 s2) 31 ci_2 (sA (uA σ 31 s1 s2) 29 (((sI (uA σ 31 s1 s2) 0 40) + cb_26) + x1))) 31 ci_3 (sA (uA (uA σ 31 s1 s2) 31 ci_2 (sA (uA σ 31 s1 s2) 29 (((sI (uA σ 31 s1 s2) 0 40) + cb_26) + x1))) 29 (((sI (uA (uA σ 31 s1 s2) 31 ci_2 (sA (uA σ 31 s1 s2) 29 (((sI (uA σ 31 s1 s2) 0 40) + cb_26) + x1))) 0 40) + cb_19) + x1))) 22 x1)) 31 ci_5 x1) 31 cb_6 (sA (uA (uA (uA (uA (uA σ 31 s1 s2) 31 ci_2 (sA (uA σ 31 s1 s2) 29 (((sI (uA σ 31 s1 s2) 0 40) + cb_26) + x1))) 31 ci_3 (sA (uA (uA σ 31 s1 s2) 31 ci_2 (sA (uA σ 31 s1 s2) 29 (((sI (uA σ 31 s1 s2) 0 40) + cb_26) + x1))) 29 (((sI (uA (uA σ 31 s1 s2) 31 ci_2 (sA (uA σ 31 s1 s2) 29 (((sI (uA σ 31 s1 s2) 0 40) + cb_26) + x1))) 0 40) + cb_19) + x1))) 31 ci_4 (sA (uA (uA (uA σ 31 s1 s2) 31 ci_2 (sA (uA σ 31 s1 s2) 29 (((sI (uA σ 31 s1 s2) 0 40) + cb_26) + x1))) 31 ci_3 (sA (uA (uA σ 31 s1 s2) 31 ci_2 (sA (uA σ 31 s1 s2) 29 (((sI (uA σ 31 s1 s2) 0 40) + cb_26) + x1))) 29 (((sI (uA (uA σ 31 s1 s2) 31 ci_2 (sA (uA σ 31 s1 s2) 29 (((sI (uA σ 31 s1 s2) 0 40) + cb_26) + x1))) 0 40) + cb_19) + x1))) 22 x1)) 31 ci_5 x1) 29 (((sI (uA (uA (uA (uA (uA σ 31 s1 s2) 31 ci_2 (sA (uA σ 31 s1 s2) 29 (((sI (uA σ 31 s1 s2) 0 40) + cb_26) + x1))) 31 ci_3 (sA (uA (uA σ 31 s1 s2) 31 ci_2 (sA (uA σ 31 s1 s2) 29 (((sI (uA σ 31 s1 s2) 0 40) + cb_26) + x1))) 29 (((sI (uA (uA σ 31 s1 s2) 31 ci_2 (sA (uA σ 31 s1 s2) 29 (((sI (uA σ 31 s1 s2) 0 40) + cb_26) + x1))) 0 40) + cb_19) + x1))) 31 ci_4 (sA (uA (uA (uA σ 31 s1 s2) 31 ci_2 (sA (uA σ 31 s1 s2) 29 (((sI (uA σ 31 s1 s2) 0 40) + cb_26) + x1))) 31 ci_3 (sA (uA (uA σ 31 s1 s2) 31 ci_2 (sA (uA σ 31 s1 s2) 29 (((sI (uA σ 31 s1 s2) 0 40) + cb_26) + x1))) 29 (((sI (uA (uA σ 31 s1 s2) 31 ci_2 (sA (uA σ 31 s1 s2) 29 (((sI (uA σ 31 s1 s2) 0 40) + cb_26) + x1))) 0 40) + cb_19) + x1))) 22 x1)) 31 ci_5 x1) 0 40) + ci_5) + x1))) 0 40) + cb_33) + x1))), (.int cb_7), (.ref 31)]) (w1 := mkM (uA (uA (uA (uA (uA (uA σ 31 s1 s2) 31 ci_2 (sA (uA σ 31 s1 s2) 29 (((sI (uA σ 31 s1 s2) 0 40) + cb_26) + x1))) 31 ci_3 (sA (uA (uA σ 31 s1 s2) 31 ci_2 (sA (uA σ 31 s1 s2) 29 (((sI (uA σ 31 s1 s2) 0 40) + cb_26) + x1))) 29 (((sI (uA (uA σ 31 s1 s2) 31 ci_2 (sA (uA σ 31 s1 s2) 29 (((sI (uA σ 31 s1 s2) 0 40) + cb_26) + x1))) 0 40) + cb_19) + x1))) 31 ci_4 (sA (uA (uA (uA σ 31 s1 s2) 31 ci_2 (sA (uA σ 31 s1 s2) 29 (((sI (uA σ 31 s1 s2) 0 40) + cb_26) + x1))) 31 ci_3 (sA (uA (uA σ 31 s1 s2) 31 ci_2 (sA (uA σ 31 s1 s2) 29 (((sI (uA σ 31 s1 s2) 0 40) + cb_26) + x1))) 29 (((sI (uA (uA σ 31 s1 s2) 31 ci_2 (sA (uA σ 31 s1 s2) 29 (((sI (uA σ 31 s1 s2) 0 40) + cb_26) + x1))) 0 40) + cb_19) + x1))) 22 x1)) 31 ci_5 x1) 31 cb_6 (sA (uA (uA (uA (uA (uA σ 31 s1 s2) 31 ci_2 (sA (uA σ 31 s1 s2) 29 (((sI (uA σ 31 s1 s2) 0 40) + cb_26) + x1))) 31 ci_3 (sA (uA (uA σ 31 s1 s2) 31 ci_2 (sA (uA σ 31 s1 s2) 29 (((sI (uA σ 31 s1 s2) 0 40) + cb_26) + x1))) 29 (((sI (uA (uA σ 31 s1 s2) 31 ci_2 (sA (uA σ 31 s1 s2) 29 (((sI (uA σ 31 s1 s2) 0 40) + cb_26) + x1))) 0 40) + cb_19) + x1))) 31 ci_4 (sA (uA (uA (uA σ 31 s1 s2) 31 ci_2 (sA (uA σ 31 s1 s2) 29 (((sI (uA σ 31 s1 s2) 0 40) + cb_26) + x1))) 31 ci_3 (sA (uA (uA σ 31 s1 s2) 31 ci_2 (sA (uA σ 31 s1 s2) 29 (((sI (uA σ 31 s1 s2) 0 40) + cb_26) + x1))) 29 (((sI (uA (uA σ 31 s1 s2) 31 ci_2 (sA (uA σ 31 s1 s2) 29 (((sI (uA σ 31 s1 s2) 0 40) + cb_26) + x1))) 0 40) + cb_19) + x1))) 22 x1)) 31 ci_5 x1) 29 (((sI (uA (uA (uA (uA (uA σ 31 s1 s2) 31 ci_2 (sA (uA σ 31 s1 s2) 29 (((sI (uA σ 31 s1 s2) 0 40) + cb_26) + x1))) 31 ci_3 (sA (uA (uA σ 31 s1 s2) 31 ci_2 (sA (uA σ 31 s1 s2) 29 (((sI (uA σ 31 s1 s2) 0 40) + cb_26) + x1))) 29 (((sI (uA (uA σ 31 s1 s2) 31 ci_2 (sA (uA σ 31 s1 s2) 29 (((sI (uA σ 31 s1 s2) 0 40) + cb_26) + x1))) 0 40) + cb_19) + x1))) 31 ci_4 (sA (uA (uA (uA σ 31 s1 s2) 31 ci_2 (sA (uA σ 31 s1 s2) 29 (((sI (uA σ 31 s1 s2) 0 40) + cb_26) + x1))) 31 ci_3 (sA (uA (uA σ 31 s1 s2) 31 ci_2 (sA (uA σ 31 s1 s2) 29 (((sI (uA σ 31 s1 s2) 0 40) + cb_26) + x1))) 29 (((sI (uA (uA σ 31 s1 s2) 31 ci_2 (sA (uA σ 31 s1 s2) 29 (((sI (uA σ 31 s1 s2) 0 40) + cb_26) + x1))) 0 40) + cb_19) + x1))) 22 x1)) 31 ci_5 x1) 0 40) + ci_5) + x1)))) (fun _ _ => rfl) h (fun h => ?_)
  refine bfr_in (i := cb_7) (m := 8) 1 (pc1 := 133) (L1 := [some (.ref 0), some (.int x1), o2]) (J1 := []) (st1 := []) (w1 := ((mkM (uA (uA (uA (uA (uA (uA σ 31 s1 s2) 31 ci_2 (sA (uA σ 31 s1 s2) 29 (((sI (uA σ 31 s1 s2) 0 40) + cb_26) + x1))) 31 ci_3 (sA (uA (uA σ 31 s1 s2) 31 ci_2 (sA (uA σ 31 s1 s2) 29 (((sI (uA σ 31 s1 s2) 0 40) + cb_26) + x1))) 29 (((sI (uA (uA σ 31 s1 s2) 31 ci_2 (sA (uA σ 31 s1 s2) 29 (((sI (uA σ 31 s1 s2) 0 40) + cb_26) + x1))) 0 40) + cb_19) + x1))) 31 ci_4 (sA (uA (uA (uA σ 31 s1 s2) 31 ci_2 (sA (uA σ 31 s1 s2) 29 (((sI (uA σ 31 s1 s2) 0 40) + cb_26) + x1))) 31 ci_3 (sA (uA (uA σ 31 s1 s2) 31 ci_2 (sA (uA σ 31 s1 s2) 29 (((sI (uA σ 31 s1 s2) 0 40) + cb_26) + x1))) 29 (((sI (uA (uA σ 31 s1 s2) 31 ci_2 (sA (uA σ 31 s1 s2) 29 (((sI (uA σ 31 s1 s2) 0 40) + cb_26) + x1))) 0 40) + cb_19) + x1))) 22 x1)) 31 ci_5 x1) 31 cb_6 (sA (uA (uA (uA (uA (uA σ 31 s1 s2) 31 ci_2 (sA (uA σ 31 s1 s2) 29 (((sI (uA σ 31 s1 s2) 0 40) + cb_26) + x1))) 31 ci_3 (sA (uA (uA σ 31 s1 s2) 31 ci_2 (sA (uA σ 31 s1 s2) 29 (((sI (uA σ 31 s1 s2) 0 40) + cb_26) + x1))) 29 (((sI (uA (uA σ 31 s1 s2) 31 ci_2 (sA (uA σ 31 s1 s2) 29 (((sI (uA σ 31 s1 s2) 0 40) + cb_26) + x1))) 0 40) + cb_19) + x1))) 31 ci_4 (sA (uA (uA (uA σ 31 s1 s2) 31 ci_2 (sA (uA σ 31 s1 s2) 29 (((sI (uA σ 31 s1 s2) 0 40) + cb_26) + x1))) 31 ci_3 (sA (uA (uA σ 31 s1 s2) 31 ci_2 (sA (uA σ 31 s1 s2) 29 (((sI (uA σ 31 s1 s2) 0 40) + cb_26) + x1))) 29 (((sI (uA (uA σ 31 s1 s2) 31 ci_2 (sA (uA σ 31 s1 s2) 29 (((sI (uA σ 31 s1 s2) 0 40) + cb_26) + x1))) 0 40) + cb_19) + x1))) 22 x1)) 31 ci_5 x1) 29 (((sI (uA (uA (uA (uA (uA σ 31 s1 s2) 31 ci_2 (sA (uA σ 31 s1 s2) 29 (((sI (uA σ 31 s1 s2) 0 40) + cb_26) + x1))) 31 ci_3 (sA (uA (uA σ 31 s1 s2) 31 ci_2 (sA (uA σ 31 s1 s2) 29 (((sI (uA σ 31 s1 s2) 0 40) + cb_26) + x1))) 29 (((sI (uA (uA σ 31 s1 s2) 31 ci_2 (sA (uA σ 31 s1 s2) 29 (((sI (uA σ 31 s1 s2) 0 40) + cb_26) + x1))) 0 40) + cb_19) + x1))) 31 ci_4 (sA (uA (uA (uA σ 31 s1 s2) 31 ci_2 (sA (uA σ 31 s1 s2) 29 (((sI (uA σ 31 s1 s2) 0 40) + cb_26) + x1))) 31 ci_3 (sA (uA (uA σ 31 s1 s2) 31 ci_2 (sA (uA σ 31 s1 s2) 29 (((sI (uA σ 31 s1 s2) 0 40) + cb_26) + x1))) 29 (((sI (uA (uA σ 31 s1 s2) 31 ci_2 (sA (uA σ 31 s1 s2) 29 (((sI (uA σ 31 s1 s2) 0 40) + cb_26) + x1))) 0 40) + cb_19) + x1))) 22 x1)) 31 ci_5 x1) 0 40) + ci_5) + x1)))).set 31 (.inl (0, 8, upd ((uA (uA (uA (uA (uA (uA σ 31 s1 s2) 31 ci_2 (sA (uA σ 31 s1 s2) 29 (((sI (uA σ 31 s1 s2) 0 40) + cb_26) + x1))) 31 ci_3 (sA (uA (uA σ 31 s1 s2) 31 ci_2 (sA (uA σ 31 s1 s2) 29 (((sI (uA σ 31 s1 s2) 0 40) + cb_26) + x1))) 29 (((sI (uA (uA σ 31 s1 s2) 31 ci_2 (sA (uA σ 31 s1 s2) 29 (((sI (uA σ 31 s1 s2) 0 40) + cb_26) + x1))) 0 40) + cb_19) + x1))) 31 ci_4 (sA (uA (uA (uA σ 31 s1 s2) 31 ci_2 (sA (uA σ 31 s1 s2) 29 (((sI (uA σ 31 s1 s2) 0 40) + cb_26) + x1))) 31 ci_3 (sA (uA (uA σ 31 s1 s2) 31 ci_2 (sA (uA σ 31 s1 s2) 29 (((sI (uA σ 31 s1 s2) 0 40) + cb_26) + x1))) 29 (((sI (uA (uA σ 31 s1 s2) 31 ci_2 (sA (uA σ 31 s1 s2) 29 (((sI (uA σ 31 s1 s2) 0 40) + cb_26) + x1))) 0 40) + cb_19) + x1))) 22 x1)) 31 ci_5 x1) 31 cb_6 (sA (uA (uA (uA (uA (uA σ 31 s1 s2) 31 ci_2 (sA (uA σ 31 s1 s2) 29 (((sI (uA σ 31 s1 s2) 0 40) + cb_26) + x1))) 31 ci_3 (sA (uA (uA σ 31 s1 s2) 31 ci_2 (sA (uA σ 31 s1 s2) 29 (((sI (uA σ 31 s1 s2) 0 40) + cb_26) + x1))) 29 (((sI (uA (uA σ 31 s1 s2) 31 ci_2 (sA (uA σ 31 s1 s2) 29 (((sI (uA σ 31 s1 s2) 0 40) + cb_26) + x1))) 0 40) + cb_19) + x1))) 31 ci_4 (sA (uA (uA (uA σ 31 s1 s2) 31 ci_2 (sA (uA σ 31 s1 s2) 29 (((sI (uA σ 31 s1 s2) 0 40) + cb_26) + x1))) 31 ci_3 (sA (uA (uA σ 31 s1 s2) 31 ci_2 (sA (uA σ 31 s1 s2) 29 (((sI (uA σ 31 s1 s2) 0 40) + cb_26) + x1))) 29 (((sI (uA (uA σ 31 s1 s2) 31 ci_2 (sA (uA σ 31 s1 s2) 29 (((sI (uA σ 31 s1 s2) 0 40) + cb_26) + x1))) 0 40) + cb_19) + x1))) 22 x1)) 31 ci_5 x1) 29 (((sI (uA (uA (uA (uA (uA σ 31 s1 s2) 31 ci_2 (sA (uA σ 31 s1 s2) 29 (((sI (uA σ 31 s1 s2) 0 40) + cb_26) + x1))) 31 ci_3 (sA (uA (uA σ 31 s1 s2) 31 ci_2 (sA (uA σ 31 s1 s2) 29 (((sI (uA σ 31 s1 s2) 0 40) + cb_26) + x1))) 29 (((sI (uA (uA σ 31 s1 s2) 31 ci_2 (sA (uA σ 31 s1 s2) 29 (((sI (uA σ 31 s1 s2) 0 40) + cb_26) + x1))) 0 40) + cb_19) + x1))) 31 ci_4 (sA (uA (uA (uA σ 31 s1 s2) 31 ci_2 (sA (uA σ 31 s1 s2) 29 (((sI (uA σ 31 s1 s2) 0 40) + cb_26) + x1))) 31 ci_3 (sA (uA (uA σ 31 s1 s2) 31 ci_2 (sA (uA σ 31 s1 s2) 29 (((sI (uA σ 31 s1 s2) 0 40) + cb_26) + x1))) 29 (((sI (uA (uA σ 31 s1 s2) 31 ci_2 (sA (uA σ 31 s1 s2) 29 (((sI (uA σ 31 s1 s2) 0 40) + cb_26) + x1))) 0 40) + cb_19) + x1))) 22 x1)) 31 ci_5 x1) 0 40) + ci_5) + x1))).2.1 31) (cb_7).toNatClampNeg (sA (uA (uA (uA (uA (uA (uA σ 31 s1 s2) 31 ci_2 (sA (uA σ 31 s1 s2) 29 (((sI (uA σ 31 s1 s2) 0 40) + cb_26) + x1))) 31 ci_3 (sA (uA (uA σ 31 s1 s2) 31 ci_2 (sA (uA σ 31 s1 s2) 29 (((sI (uA σ 31 s1 s2) 0 40) + cb_26) + x1))) 29 (((sI (uA (uA σ 31 s1 s2) 31 ci_2 (sA (uA σ 31 s1 s2) 29 (((sI (uA σ 31 s1 s2) 0 40) + cb_26) + x1))) 0 40) + cb_19) + x1))) 31 ci_4 (sA (uA (uA (uA σ 31 s1 s2) 31 ci_2 (sA (uA σ 31 s1 s2) 29 (((sI (uA σ 31 s1 s2) 0 40) + cb_26) + x1))) 31 ci_3 (sA (uA (uA σ 31 s1 s2) 31 ci_2 (sA (uA σ 31 s1 s2) 29 (((sI (uA σ 31 s1 s2) 0 40) + cb_26) + x1))) 29 (((sI (uA (uA σ 31 s1 s2) 31 ci_2 (sA (uA σ 31 s1 s2) 29 (((sI (uA σ 31 s1 s2) 0 40) + cb_26) + x1))) 0 40) + cb_19) + x1))) 22 x1)) 31 ci_5 x1) 31 cb_6 (sA (uA (uA (uA (uA (uA σ 31 s1 s2) 31 ci_2 (sA (uA σ 31 s1 s2) 29 (((sI (uA σ 31 s1 s2) 0 40) + cb_26) + x1))) 31 ci_3 (sA (uA (uA σ 31 s1 s2) 31 ci_2 (sA (uA σ 31 s1 s2) 29 (((sI (uA σ 31 s1 s2) 0 40) + cb_26) + x1))) 29 (((sI (uA (uA σ 31 s1 s2) 31 ci_2 (sA (uA σ 31 s1 s2) 29 (((sI (uA σ 31 s1 s2) 0 40) + cb_26) + x1))) 0 40) + cb_19) + x1))) 31 ci_4 (sA (uA (uA (uA σ 31 s1 s2) 31 ci_2 (sA (uA σ 31 s1 s2) 29 (((sI (uA σ 31 s1 s2) 0 40) + cb_26) + x1))) 31 ci_3 (sA (uA (uA σ 31 s1 s2) 31 ci_2 (sA (uA σ 31 s1 s2) 29 (((sI (uA σ 31 s1 s2) 0 40) + cb_26) + x1))) 29 (((sI (uA (uA σ 31 s1 s2) 31 ci_2 (sA (uA σ 31 s1 s2) 29 (((sI (uA σ 31 s1 s2) 0 40) + cb_26) + x1))) 0 40) + cb_19) + x1))) 22 x1)) 31 ci_5 x1) 29 (((sI (uA (uA (uA (uA (uA σ 31 s1 s2) 31 ci_2 (sA (uA σ 31 s1 s2) 29 (((sI (uA σ 31 s1 s2) 0 40) + cb_26) + x1))) 31 ci_3 (sA (uA (uA σ 31 s1 s2) 31 ci_2 (sA (uA σ 31 s1 s2) 29 (((sI (uA σ 31 s1 s2) 0 40) + cb_26) + x1))) 29 (((sI (uA (uA σ 31 s1 s2) 31 ci_2 (sA (uA σ 31 s1 s2) 29 (((sI (uA σ 31 s1 s2) 0 40) + cb_26) + x1))) 0 40) + cb_19) + x1))) 31 ci_4 (sA (uA (uA (uA σ 31 s1 s2) 31 ci_2 (sA (uA σ 31 s1 s2) 29 (((sI (uA σ 31 s1 s2) 0 40) + cb_26) + x1))) 31 ci_3 (sA (uA (uA σ 31 s1 s2) 31 ci_2 (sA (uA σ 31 s1 s2) 29 (((sI (uA σ 31 s1 s2) 0 40) + cb_26) + x1))) 29 (((sI (uA (uA σ 31 s1 s2) 31 ci_2 (sA (uA σ 31 s1 s2) 29 (((sI (uA σ 31 s1 s2) 0 40) + cb_26) + x1))) 0 40) + cb_19) + x1))) 22 x1)) 31 ci_5 x1) 0 40) + ci_5) + x1))) 29 (((sI (uA (uA (uA (uA (uA (uA σ 31 s1 s2) 31 ci_2 (sA (uA σ 31 s1 s2) 29 (((sI (uA σ 31 s1 s2) 0 40) + cb_26) + x1))) 31 ci_3 (sA (uA (uA σ 31 s1 s2) 31 ci_2 (sA (uA σ 31 s1 s2) 29 (((sI (uA σ 31 s1 s2) 0 40) + cb_26) + x1))) 29 (((sI (uA (uA σ 31 s1 s2) 31 ci_2 (sA (uA σ 31 s1 s2) 29 (((sI (uA σ 31 s1 s2) 0 40) + cb_26) + x1))) 0 40) + cb_19) + x1))) 31 ci_4 (sA (uA (uA (uA σ 31 s1 s2) 31 ci_2 (sA (uA σ 31 s1 s2) 29 (((sI (uA σ 31 s1 s2) 0 40) + cb_26) + x1))) 31 ci_3 (sA (uA (uA σ 31 s1 s2) 31 ci_2 (sA (uA σ 31 s1 s2) 29 (((sI (uA σ 31 s1 s2) 0 40) + cb_26) + x1))) 29 (((sI (uA (uA σ 31 s1 s2) 31 ci_2 (sA (uA σ 31 s1 s2) 29 (((sI (uA σ 31 s1 s2) 0 40) + cb_26) + x1))) 0 40) + cb_19) + x1))) 22 x1)) 31 ci_5 x1) 31 cb_6 (sA (uA (uA (uA (uA (uA σ 31 s1 s2) 31 ci_2 (sA (uA σ 31 s1 s2) 29 (((sI (uA σ 31 s1 s2) 0 40) + cb_26) + x1))) 31 ci_3 (sA (uA (uA σ 31 s1 s2) 31 ci_2 (sA (uA σ 31 s1 s2) 29 (((sI (uA σ 31 s1 s2) 0 40) + cb_26) + x1))) 29 (((sI (uA (uA σ 31 s1 s2) 31 ci_2 (sA (uA σ 31 s1 s2) 29 (((sI (uA σ 31 s1 s2) 0 40) + cb_26) + x1))) 0 40) + cb_19) + x1))) 31 ci_4 (sA (uA (uA (uA σ 31 s1 s2) 31 ci_2 (sA (uA σ 31 s1 s2) 29 (((sI (uA σ 31 s1 s2) 0 40) + cb_26) + x1))) 31 ci_3 (sA (uA (uA σ 31 s1 s2) 31 ci_2 (sA (uA σ 31 s1 s2) 29 (((sI (uA σ 31 s1 s2) 0 40) + cb_26) + x1))) 29 (((sI (uA (uA σ 31 s1 s2) 31 ci_2 (sA (uA σ 31 s1 s2) 29 (((sI (uA σ 31 s1 s2) 0 40) + cb_26) + x1))) 0 40) + cb_19) + x1))) 22 x1)) 31 ci_5 x1) 29 (((sI (uA (uA (uA (uA (uA σ 31 s1 s2) 31 ci_2 (sA (uA σ 31 s1 s2) 29 (((sI (uA σ 31 s1 s2) 0 40) + cb_26) + x1))) 31 ci_3 (sA (uA (uA σ 31 s1 s2) 31 ci_2 (sA (uA σ 31 s1 s2) 29 (((sI (uA σ 31 s1 s2) 0 40) + cb_26) + x1))) 29 (((sI (uA (uA σ 31 s1 s2) 31 ci_2 (sA (uA σ 31 s1 s2) 29 (((sI (uA σ 31 s1 s2) 0 40) + cb_26) + x1))) 0 40) + cb_19) + x1))) 31 ci_4 (sA (uA (uA (uA σ 31 s1 s2) 31 ci_2 (sA (uA σ 31 s1 s2) 29 (((sI (uA σ 31 s1 s2) 0 40) + cb_26) + x1))) 31 ci_3 (sA (uA (uA σ 31 s1 s2) 31 ci_2 (sA (uA σ 31 s1 s2) 29 (((sI (uA σ 31 s1 s2) 0 40) + cb_26) + x1))) 29 (((sI (uA (uA σ 31 s1 s2) 31 ci_2 (sA (uA σ 31 s1 s2) 29 (((sI (uA σ 31 s1 s2) 0 40) + cb_26) + x1))) 0 40) + cb_19) + x1))) 22 x1)) 31 ci_5 x1) 0 40) + ci_5) + x1))) 0 40) + cb_33) + x1)))))) (fun _ _ => rfl) h (fun h => ?_)
  rw [mkM_A31]
  cases h
  exact bfr_ret 1 (fun _ _ => rfl)
set_option maxRecDepth 100000 in
theorem k_m_asks (n d : Nat) (q : bS) (x1 : Int32) (x2 : Int32) (σ : bS) (h : m_asks n x1 x2 σ = some q) : bfr MT (d + 0) M_X12_asks 0 [some (.ref 0), some (.int x1), some (.int x2)] [] [] (mkM σ) (none, mkM q) := by
  unfold m_asks at h
  refine bfr_run 6 10 [some (.ref 0), some (.int x1), some (.int x2)] [] [(.ref 0), (.ref 29), (.int ci_0), (.ref 31)] (mkM σ) (fun _ _ => rfl) ?_
  refine bfr_in (i := (sI σ 0 40)) (m := 2208) 2 (pc1 := 14) (L1 := [some (.ref 0), some (.int x1), some (.int x2)]) (J1 := []) (st1 := [(.int (sA σ 29 (sI σ 0 40))), (.int ci_0), (.ref 31)]) (w1 := mkM σ) (fun _ _ => rfl) h (fun h => ?_)
  refine bfr_chk 2 (pc1 := 17) (L1 := [some (.ref 0), some (.int x1), some (.int x2)]) (J1 := []) (st1 := [(.int (brem (sA σ 29 (sI σ 0 40)) cb_24)), (.int ci_0), (.ref 31)]) (w1 := mkM σ) (fun _ _ => rfl) h (fun h => ?_)
  refine bfr_in (i := ci_0) (m := 8) 1 (pc1 := 18) (L1 := [some (.ref 0), some (.int x1), some (.int x2)]) (J1 := []) (st1 := []) (w1 := ((mkM σ).set 31 (.inl (0, 8, upd (σ.2.1 31) (ci_0).toNatClampNeg (brem (sA σ 29 (sI σ 0 40)) cb_24))))) (fun _ _ => rfl) h (fun h => ?_)
  rw [mkM_A31]
  refine bfr_br 5 (pc1 := 31) (L1 := [some (.ref 0), some (.int x1), some (.int x2)]) (J1 := []) (st1 := [(.int ci_1), (.ref 31)]) (w1 := mkM (uA σ 31 ci_0 (brem (sA σ 29 (sI σ 0 40)) cb_24))) (pc2 := 27) (L2 := [some (.ref 0), some (.int x1), some (.int x2)]) (J2 := []) (st2 := [(.int ci_1), (.ref 31)]) (w2 := mkM (uA σ 31 ci_0 (brem (sA σ 29 (sI σ 0 40)) cb_24))) (fun _ _ => rfl) h (fun h => ?_) (fun h => ?_)
  · refine bfr_run 1 32 [some (.ref 0), some (.int x1), some (.int x2)] [] [(.int x2), (.int ci_1), (.ref 31)] (mkM (uA σ 31 ci_0 (brem (sA σ 29 (sI σ 0 40)) cb_24))) (fun _ _ => rfl) ?_
    exact k_m_asks_b32 n d q _ _ _ _ _ h
  · refine bfr_run 2 32 [some (.ref 0), some (.int x1), some (.int x2)] [] [(.int ci_m1), (.int ci_1), (.ref 31)] (mkM (uA σ 31 ci_0 (brem (sA σ 29 (sI σ 0 40)) cb_24))) (fun _ _ => rfl) ?_
    exact k_m_asks_b32 n d q _ _ _ _ _ h
set_option maxRecDepth 100000 in
theorem k_m_wishOf_b47 (n d : Nat) (q : (Int32 × bS)) (s0 : Int32) (o0 : Option Value) (o1 : Option Value) (o2 : Option Value) (o3 : Option Value) (σ : bS) (h : m_wishOf_b47 n s0 σ = some q) : bfr MT (d + 3) M_X12_wishOf 47 [o0, o1, o2, o3] [] [(.int s0)] (mkM σ) (some (.int q.1), mkM q.2) := by
  unfold m_wishOf_b47 at h
  cases h
  exact bfr_ret 1 (fun _ _ => rfl)
set_option maxRecDepth 100000 in
theorem k_m_wishOf (n d : Nat) (q : (Int32 × bS)) (x1 : Int32) (x2 : Int32) (σ : bS) (h : m_wishOf n x1 x2 σ = some q) : bfr MT (d + 3) M_X12_wishOf 0 [some (.ref 0), some (.int x1), some (.int x2), none] [] [] (mkM σ) (some (.int q.1), mkM q.2) := by
  unfold m_wishOf at h
  refine bfr_run 6 10 [some (.ref 0), some (.int x1), some (.int x2), none] [] [(.int (sI σ 0 40)), (.ref 29), (.int x1), (.ref 0)] (mkM σ) (fun _ _ => rfl) ?_
  refine bfr_in (i := (((sI σ 0 40) + ci_1) + x2)) (m := 2208) 5 (pc1 := 15) (L1 := [some (.ref 0), some (.int x1), some (.int x2), none]) (J1 := []) (st1 := [(.int (sA σ 29 (((sI σ 0 40) + ci_1) + x2))), (.int x1), (.ref 0)]) (w1 := mkM σ) (fun _ _ => rfl) h (fun h => ?_)
  refine bfr_call 1 (d1 := d + 2) (M1 := M_X12_asks) (vs := [(.ref 0), (.int x1), (.int (sA σ 29 (((sI σ 0 40) + ci_1) + x2)))]) (w1 := mkM σ) (pc2 := 18) (L2 := [some (.ref 0), some (.int x1), some (.int x2), none]) (J2 := []) (rest := []) (fun _ => none) (fun a => mkM a) (fun _ _ => rfl) h (fun a ha => k_m_asks n (d + 2) _ _ _ _ ha) (fun q1 _ h => ?_)
  refine bfr_in (i := x1) (m := 14) 6 (pc1 := 26) (L1 := [some (.ref 0), some (.int x1), some (.int x2), none]) (J1 := []) (st1 := [(.int (sA q1 22 x1)), (.int x1), (.ref 0)]) (w1 := mkM q1) (fun _ _ => rfl) h (fun h => ?_)
  refine bfr_call 1 (d1 := d + 2) (M1 := M_X12_lawOf) (vs := [(.ref 0), (.int x1), (.int (sA q1 22 x1))]) (w1 := mkM q1) (pc2 := 29) (L2 := [some (.ref 0), some (.int x1), some (.int x2), none]) (J2 := []) (rest := []) (fun a => some (.int a.1)) (fun a => mkM a.2) (fun _ _ => rfl) h (fun a ha => k_m_lawOf n (d + 0) _ _ _ _ ha) (fun q2 _ h => ?_)
  refine bfr_br 3 (pc1 := 39) (L1 := [some (.ref 0), some (.int x1), some (.int x2), some (.int q2.1)]) (J1 := []) (st1 := []) (w1 := mkM q2.2) (pc2 := 34) (L2 := [some (.ref 0), some (.int x1), some (.int x2), some (.int q2.1)]) (J2 := []) (st2 := []) (w2 := mkM q2.2) (fun _ _ => rfl) h (fun h => ?_) (fun h => ?_)
  · refine bfr_in (i := ci_0) (m := 2) 5 (pc1 := 46) (L1 := [some (.ref 0), some (.int x1), some (.int x2), some (.int q2.1)]) (J1 := []) (st1 := [(.int (sA q2.2 12 ci_0)), (.int q2.1)]) (w1 := mkM q2.2) (fun _ _ => rfl) h (fun h => ?_)
    refine bfr_chk 1 (pc1 := 47) (L1 := [some (.ref 0), some (.int x1), some (.int x2), some (.int q2.1)]) (J1 := []) (st1 := [(.int (brem q2.1 (sA q2.2 12 ci_0)))]) (w1 := mkM q2.2) (fun _ _ => rfl) h (fun h => ?_)
    exact k_m_wishOf_b47 n d q _ _ _ _ _ _ h
  · refine bfr_run 2 47 [some (.ref 0), some (.int x1), some (.int x2), some (.int q2.1)] [] [(.int cb_m2)] (mkM q2.2) (fun _ _ => rfl) ?_
    exact k_m_wishOf_b47 n d q _ _ _ _ _ _ h
set_option maxRecDepth 100000 in
theorem k_m_tollOf (n d : Nat) (q : (Int32 × bS)) (x1 : Int32) (x2 : Int32) (σ : bS) (h : m_tollOf n x1 x2 σ = some q) : bfr MT (d + 3) M_X12_tollOf 0 [some (.ref 0), some (.int x1), some (.int x2)] [] [] (mkM σ) (some (.int q.1), mkM q.2) := by
  unfold m_tollOf at h
  refine bfr_run 6 10 [some (.ref 0), some (.int x1), some (.int x2)] [] [(.int (sI σ 0 40)), (.ref 29), (.int x1), (.ref 0)] (mkM σ) (fun _ _ => rfl) ?_
  refine bfr_in (i := (((sI σ 0 40) + ci_1) + x2)) (m := 2208) 5 (pc1 := 15) (L1 := [some (.ref 0), some (.int x1), some (.int x2)]) (J1 := []) (st1 := [(.int (sA σ 29 (((sI σ 0 40) + ci_1) + x2))), (.int x1), (.ref 0)]) (w1 := mkM σ) (fun _ _ => rfl) h (fun h => ?_)
  refine bfr_call 1 (d1 := d + 2) (M1 := M_X12_asks) (vs := [(.ref 0), (.int x1), (.int (sA σ 29 (((sI σ 0 40) + ci_1) + x2)))]) (w1 := mkM σ) (pc2 := 18) (L2 := [some (.ref 0), some (.int x1), some (.int x2)]) (J2 := []) (rest := []) (fun _ => none) (fun a => mkM a) (fun _ _ => rfl) h (fun a ha => k_m_asks n (d + 2) _ _ _ _ ha) (fun q1 _ h => ?_)
  refine bfr_call 6 (d1 := d + 2) (M1 := M_X12_lawOf) (vs := [(.ref 0), (.int (cb_7 + x2)), (.int ci_0)]) (w1 := mkM q1) (pc2 := 27) (L2 := [some (.ref 0), some (.int x1), some (.int x2)]) (J2 := []) (rest := []) (fun a => some (.int a.1)) (fun a => mkM a.2) (fun _ _ => rfl) h (fun a ha => k_m_lawOf n (d + 0) _ _ _ _ ha) (fun q2 _ h => ?_)
  refine bfr_call 3 (d1 := d + 2) (M1 := M_X12_within) (vs := [(.int q2.1), (.int ci_0), (.int cb_99)]) (w1 := mkM q2.2) (pc2 := 33) (L2 := [some (.ref 0), some (.int x1), some (.int x2)]) (J2 := []) (rest := []) (fun a => some (.int a.1)) (fun a => mkM a.2) (fun _ _ => rfl) h (fun a ha => k_m_within n (d + 2) _ _ _ _ _ ha) (fun q3 _ h => ?_)
  cases h
  exact bfr_ret 1 (fun _ _ => rfl)
set_option maxRecDepth 100000 in
theorem k_m_goesBy_b33 (n d : Nat) (q : (Int32 × bS)) (s0 : Int32) (o0 : Option Value) (o1 : Option Value) (o2 : Option Value) (σ : bS) (h : m_goesBy_b33 n s0 σ = some q) : bfr MT (d + 3) M_X12_goesBy 33 [o0, o1, o2] [] [(.int s0)] (mkM σ) (some (.int q.1), mkM q.2) := by
  unfold m_goesBy_b33 at h
  exact bfr_bz (mk := mkM) 1 (fun _ _ => rfl) h
set_option maxRecDepth 100000 in
theorem k_m_goesBy (n d : Nat) (q : (Int32 × bS)) (x1 : Int32) (x2 : Int32) (σ : bS) (h : m_goesBy n x1 x2 σ = some q) : bfr MT (d + 3) M_X12_goesBy 0 [some (.ref 0), some (.int x1), some (.int x2)] [] [] (mkM σ) (some (.int q.1), mkM q.2) := by
  unfold m_goesBy at h
  refine bfr_run 6 10 [some (.ref 0), some (.int x1), some (.int x2)] [] [(.int (sI σ 0 40)), (.ref 29), (.int x1), (.ref 0)] (mkM σ) (fun _ _ => rfl) ?_
  refine bfr_in (i := (((sI σ 0 40) + ci_1) + x2)) (m := 2208) 5 (pc1 := 15) (L1 := [some (.ref 0), some (.int x1), some (.int x2)]) (J1 := []) (st1 := [(.int (sA σ 29 (((sI σ 0 40) + ci_1) + x2))), (.int x1), (.ref 0)]) (w1 := mkM σ) (fun _ _ => rfl) h (fun h => ?_)
  refine bfr_call 1 (d1 := d + 2) (M1 := M_X12_asks) (vs := [(.ref 0), (.int x1), (.int (sA σ 29 (((sI σ 0 40) + ci_1) + x2)))]) (w1 := mkM σ) (pc2 := 18) (L2 := [some (.ref 0), some (.int x1), some (.int x2)]) (J2 := []) (rest := []) (fun _ => none) (fun a => mkM a) (fun _ _ => rfl) h (fun a ha => k_m_asks n (d + 2) _ _ _ _ ha) (fun q1 _ h => ?_)
  refine bfr_call 4 (d1 := d + 2) (M1 := M_X12_lawOf) (vs := [(.ref 0), (.int cb_11), (.int ci_0)]) (w1 := mkM q1) (pc2 := 25) (L2 := [some (.ref 0), some (.int x1), some (.int x2)]) (J2 := []) (rest := []) (fun a => some (.int a.1)) (fun a => mkM a.2) (fun _ _ => rfl) h (fun a ha => k_m_lawOf n (d + 0) _ _ _ _ ha) (fun q2 _ h => ?_)
  refine bfr_br 1 (pc1 := 32) (L1 := [some (.ref 0), some (.int x1), some (.int x2)]) (J1 := []) (st1 := []) (w1 := mkM q2.2) (pc2 := 28) (L2 := [some (.ref 0), some (.int x1), some (.int x2)]) (J2 := []) (st2 := []) (w2 := mkM q2.2) (fun _ _ => rfl) h (fun h => ?_) (fun h => ?_)
  · refine bfr_run 1 33 [some (.ref 0), some (.int x1), some (.int x2)] [] [(.int ci_0)] (mkM q2.2) (fun _ _ => rfl) ?_
    exact k_m_goesBy_b33 n d q _ _ _ _ _ h
  · refine bfr_run 2 33 [some (.ref 0), some (.int x1), some (.int x2)] [] [(.int ci_1)] (mkM q2.2) (fun _ _ => rfl) ?_
    exact k_m_goesBy_b33 n d q _ _ _ _ _ h
set_option maxRecDepth 100000 in
theorem k_m_isOn_b22 (n d : Nat) (q : (Int32 × bS)) (s0 : Int32) (o0 : Option Value) (o1 : Option Value) (σ : bS) (h : m_isOn_b22 n s0 σ = some q) : bfr MT (d + 0) M_X12_isOn 22 [o0, o1] [] [(.int s0)] (mkM σ) (some (.int q.1), mkM q.2) := by
  unfold m_isOn_b22 at h
  exact bfr_bz (mk := mkM) 1 (fun _ _ => rfl) h
set_option maxRecDepth 100000 in
theorem k_m_isOn (n d : Nat) (q : (Int32 × bS)) (x1 : Int32) (σ : bS) (h : m_isOn n x1 σ = some q) : bfr MT (d + 0) M_X12_isOn 0 [some (.ref 0), some (.int x1)] [] [] (mkM σ) (some (.int q.1), mkM q.2) := by
  unfold m_isOn at h
  refine bfr_run 6 11 [some (.ref 0), some (.int x1)] [] [(.int ((sI σ 0 40) + cb_12)), (.ref 29)] (mkM σ) (fun _ _ => rfl) ?_
  refine bfr_in (i := (((sI σ 0 40) + cb_12) + x1)) (m := 2208) 3 (pc1 := 14) (L1 := [some (.ref 0), some (.int x1)]) (J1 := []) (st1 := [(.int (sA σ 29 (((sI σ 0 40) + cb_12) + x1)))]) (w1 := mkM σ) (fun _ _ => rfl) h (fun h => ?_)
  refine bfr_br 1 (pc1 := 21) (L1 := [some (.ref 0), some (.int x1)]) (J1 := []) (st1 := []) (w1 := mkM σ) (pc2 := 17) (L2 := [some (.ref 0), some (.int x1)]) (J2 := []) (st2 := []) (w2 := mkM σ) (fun _ _ => rfl) h (fun h => ?_) (fun h => ?_)
  · refine bfr_run 1 22 [some (.ref 0), some (.int x1)] [] [(.int ci_0)] (mkM σ) (fun _ _ => rfl) ?_
    exact k_m_isOn_b22 n d q _ _ _ _ h
  · refine bfr_run 2 22 [some (.ref 0), some (.int x1)] [] [(.int ci_1)] (mkM σ) (fun _ _ => rfl) ?_
    exact k_m_isOn_b22 n d q _ _ _ _ h
