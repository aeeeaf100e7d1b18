set_option maxRecDepth 100000 in
theorem k_m_way_b92 (n d : Nat) (q : (Int32 × bS)) (s0 : Int32) (o0 : Option Value) (o1 : Option Value) (o2 : Option Value) (o3 : Option Value) (o4 : Option Value) (σ : bS) (h : m_way_b92 n s0 σ = some q) : bfr MT (d + 3) M_X12_way 92 [o0, o1, o2, o3, o4] [] [(.int s0)] (mkM σ) (some (.int q.1), mkM q.2) := by
  unfold m_way_b92 at h
  cases h
  exact bfr_ret 1 (fun _ _ => rfl)
set_option maxRecDepth 100000 in
theorem k_m_way_b25 (n d : Nat) (q : (Int32 × bS)) (o0 : Option Value) (o1 : Option Value) (o2 : Option Value) (o3 : Option Value) (o4 : Option Value) (σ : bS) (h : m_way_b25 n σ = some q) : bfr MT (d + 3) M_X12_way 25 [o0, o1, o2, o3, o4] [] [] (mkM σ) (some (.int q.1), mkM q.2) := by
  unfold m_way_b25 at h
  cases h
  exact bfr_ret 2 (fun _ _ => rfl)
set_option maxRecDepth 100000 in
theorem k_m_way (n d : Nat) (q : (Int32 × bS)) (x1 : Int32) (x2 : Int32) (x3 : Int32) (σ : bS) (h : m_way n x1 x2 x3 σ = some q) : bfr MT (d + 3) M_X12_way 0 [some (.ref 0), some (.int x1), some (.int x2), some (.int x3), none] [] [] (mkM σ) (some (.int q.1), mkM q.2) := by
  unfold m_way at h
  refine bfr_call 3 (d1 := d + 2) (M1 := M_X12_isMan) (vs := [(.ref 0), (.int x1)]) (w1 := mkM σ) (pc2 := 5) (L2 := [some (.ref 0), some (.int x1), some (.int x2), some (.int x3), none]) (J2 := []) (rest := []) (fun a => some (.int a.1)) (fun a => mkM a.2) (fun _ _ => rfl) h (fun a ha => k_m_isMan n (d + 2) _ _ _ ha) (fun q1 _ h => ?_)
  refine bfr_br 1 (pc1 := 25) (L1 := [some (.ref 0), some (.int x1), some (.int x2), some (.int x3), none]) (J1 := []) (st1 := []) (w1 := mkM q1.2) (pc2 := 8) (L2 := [some (.ref 0), some (.int x1), some (.int x2), some (.int x3), none]) (J2 := []) (st2 := []) (w2 := mkM q1.2) (fun _ _ => rfl) h (fun h => ?_) (fun h => ?_)
  · exact k_m_way_b25 n d q _ _ _ _ _ _ h
  · refine bfr_call 3 (d1 := d + 2) (M1 := M_X12_isBank) (vs := [(.ref 0), (.int x2)]) (w1 := mkM q1.2) (pc2 := 13) (L2 := [some (.ref 0), some (.int x1), some (.int x2), some (.int x3), none]) (J2 := []) (rest := []) (fun a => some (.int a.1)) (fun a => mkM a.2) (fun _ _ => rfl) h (fun a ha => k_m_isBank n (d + 2) _ _ _ ha) (fun q2 _ h => ?_)
    refine bfr_br 1 (pc1 := 25) (L1 := [some (.ref 0), some (.int x1), some (.int x2), some (.int x3), none]) (J1 := []) (st1 := []) (w1 := mkM q2.2) (pc2 := 16) (L2 := [some (.ref 0), some (.int x1), some (.int x2), some (.int x3), none]) (J2 := []) (st2 := []) (w2 := mkM q2.2) (fun _ _ => rfl) h (fun h => ?_) (fun h => ?_)
    · exact k_m_way_b25 n d q _ _ _ _ _ _ h
    · refine bfr_call 4 (d1 := d + 2) (M1 := M_X12_isIn) (vs := [(.int x3), (.int ci_0), (.int ci_1)]) (w1 := mkM q2.2) (pc2 := 22) (L2 := [some (.ref 0), some (.int x1), some (.int x2), some (.int x3), none]) (J2 := []) (rest := []) (fun a => some (.int a.1)) (fun a => mkM a.2) (fun _ _ => rfl) h (fun a ha => k_m_isIn n (d + 2) _ _ _ _ _ ha) (fun q3 _ h => ?_)
      refine bfr_br 1 (pc1 := 25) (L1 := [some (.ref 0), some (.int x1), some (.int x2), some (.int x3), none]) (J1 := []) (st1 := []) (w1 := mkM q3.2) (pc2 := 27) (L2 := [some (.ref 0), some (.int x1), some (.int x2), some (.int x3), none]) (J2 := []) (st2 := []) (w2 := mkM q3.2) (fun _ _ => rfl) h (fun h => ?_) (fun h => ?_)
      · exact k_m_way_b25 n d q _ _ _ _ _ _ h
      · refine bfr_run 3 32 [some (.ref 0), some (.int x1), some (.int x2), some (.int x3), none] [] [] ((mkM q3.2).set 0 (.inr (.inr (12, (mkM_0 q3.2).set 40 (.int ci_0))))) (fun _ _ => rfl) ?_
        rw [mkM_I0_40]
        refine bfr_call 3 (d1 := d + 2) (M1 := M_X12_isOn) (vs := [(.ref 0), (.int x1)]) (w1 := mkM (uI q3.2 0 40 ci_0)) (pc2 := 37) (L2 := [some (.ref 0), some (.int x1), some (.int x2), some (.int x3), none]) (J2 := []) (rest := []) (fun a => some (.int a.1)) (fun a => mkM a.2) (fun _ _ => rfl) h (fun a ha => k_m_isOn n (d + 2) _ _ _ ha) (fun q4 _ h => ?_)
        refine bfr_br 1 (pc1 := 43) (L1 := [some (.ref 0), some (.int x1), some (.int x2), some (.int x3), none]) (J1 := []) (st1 := []) (w1 := mkM q4.2) (pc2 := 40) (L2 := [some (.ref 0), some (.int x1), some (.int x2), some (.int x3), none]) (J2 := []) (st2 := []) (w2 := mkM q4.2) (fun _ _ => rfl) h (fun h => ?_) (fun h => ?_)
        · refine bfr_run 6 51 [some (.ref 0), some (.int x1), some (.int x2), some (.int x3), none] [] [(.int (ci_5 + x1)), (.ref 29), (.ref 0)] (mkM q4.2) (fun _ _ => rfl) ?_
          refine bfr_in (i := (ci_5 + x1)) (m := 2208) 1 (pc1 := 52) (L1 := [some (.ref 0), some (.int x1), some (.int x2), some (.int x3), none]) (J1 := []) (st1 := [(.int (sA q4.2 29 (ci_5 + x1))), (.ref 0)]) (w1 := mkM q4.2) (fun _ _ => rfl) h (fun h => ?_)
          refine bfr_call 1 (d1 := d + 2) (M1 := M_X12_laysFar) (vs := [(.ref 0), (.int (sA q4.2 29 (ci_5 + x1)))]) (w1 := mkM q4.2) (pc2 := 55) (L2 := [some (.ref 0), some (.int x1), some (.int x2), some (.int x3), none]) (J2 := []) (rest := []) (fun _ => none) (fun a => mkM a) (fun _ _ => rfl) h (fun a ha => k_m_laysFar n (d + 0) _ _ _ ha) (fun q5 _ h => ?_)
          refine bfr_call 3 (d1 := d + 2) (M1 := M_X12_nearest) (vs := [(.ref 0), (.int x2)]) (w1 := mkM q5) (pc2 := 60) (L2 := [some (.ref 0), some (.int x1), some (.int x2), some (.int x3), none]) (J2 := []) (rest := []) (fun a => some (.int a.1)) (fun a => mkM a.2) (fun _ _ => rfl) h (fun a ha => k_m_nearest n (d + 2) _ _ _ ha) (fun q6 _ h => ?_)
          refine bfr_br 4 (pc1 := 70) (L1 := [some (.ref 0), some (.int x1), some (.int x2), some (.int x3), some (.int q6.1)]) (J1 := []) (st1 := []) (w1 := mkM q6.2) (pc2 := 73) (L2 := [some (.ref 0), some (.int x1), some (.int x2), some (.int x3), some (.int q6.1)]) (J2 := []) (st2 := []) (w2 := mkM q6.2) (fun _ _ => rfl) h (fun h => ?_) (fun h => ?_)
          · cases h
            exact bfr_ret 2 (fun _ _ => rfl)
          · refine bfr_br 2 (pc1 := 77) (L1 := [some (.ref 0), some (.int x1), some (.int x2), some (.int x3), some (.int q6.1)]) (J1 := []) (st1 := []) (w1 := mkM q6.2) (pc2 := 86) (L2 := [some (.ref 0), some (.int x1), some (.int x2), some (.int x3), some (.int q6.1)]) (J2 := []) (st2 := []) (w2 := mkM q6.2) (fun _ _ => rfl) h (fun h => ?_) (fun h => ?_)
            · refine bfr_chk 3 (pc1 := 83) (L1 := [some (.ref 0), some (.int x1), some (.int x2), some (.int x3), some (.int q6.1)]) (J1 := []) (st1 := [(.int (q6.1 / cs_1000))]) (w1 := mkM q6.2) (fun _ _ => rfl) h (fun h => ?_)
              refine bfr_run 1 92 [some (.ref 0), some (.int x1), some (.int x2), some (.int x3), some (.int q6.1)] [] [(.int (q6.1 / cs_1000))] (mkM q6.2) (fun _ _ => rfl) ?_
              exact k_m_way_b92 n d q _ _ _ _ _ _ _ h
            · refine bfr_chk 3 (pc1 := 92) (L1 := [some (.ref 0), some (.int x1), some (.int x2), some (.int x3), some (.int q6.1)]) (J1 := []) (st1 := [(.int (brem q6.1 cs_1000))]) (w1 := mkM q6.2) (fun _ _ => rfl) h (fun h => ?_)
              exact k_m_way_b92 n d q _ _ _ _ _ _ _ h
        · cases h
          exact bfr_ret 2 (fun _ _ => rfl)
set_option maxRecDepth 100000 in
theorem k_m_reach_b85 (n d : Nat) (r53 : Int32 → Int32 → Int32 → bS → Option (Int32 × bS)) (q : (Int32 × bS)) (hr53 : ∀ (x2 : Int32) (x3 : Int32) (x4 : Int32) (o1 : Option Value) (σ : bS), r53 x2 x3 x4 σ = some q → bfr MT (d + 3) M_X12_reach 53 [some (.ref 0), o1, some (.int x2), some (.int x3), some (.int x4)] [] [] (mkM σ) (some (.int q.1), mkM q.2)) (x2 : Int32) (x3 : Int32) (x4 : Int32) (o1 : Option Value) (σ : bS) (h : m_reach_b85 n r53 x2 x3 x4 σ = some q) : bfr MT (d + 3) M_X12_reach 85 [some (.ref 0), o1, some (.int x2), some (.int x3), some (.int x4)] [] [] (mkM σ) (some (.int q.1), mkM q.2) := by
  unfold m_reach_b85 at h
  refine bfr_run 1 88 [some (.ref 0), o1, some (.int x2), some (.int x3), some (.int (x4 + ci_1))] [] [] (mkM σ) (fun _ _ => rfl) ?_
  refine bfr_run 1 53 [some (.ref 0), o1, some (.int x2), some (.int x3), some (.int (x4 + ci_1))] [] [] (mkM σ) (fun _ _ => rfl) ?_
  exact hr53 _ _ _ _ _ h
set_option maxRecDepth 100000 in
theorem k_m_reach_b53 (n d : Nat) (q : (Int32 × bS)) : ∀ (k : Nat) (x2 : Int32) (x3 : Int32) (x4 : Int32) (o1 : Option Value) (σ : bS), m_reach_b53 n k x2 x3 x4 σ = some q → bfr MT (d + 3) M_X12_reach 53 [some (.ref 0), o1, some (.int x2), some (.int x3), some (.int x4)] [] [] (mkM σ) (some (.int q.1), mkM q.2) := by
  intro k
  induction k with
  | zero => intro x2 x3 x4 o1 σ h; exact bno h
  | succ k ih =>
    intro x2 x3 x4 o1 σ h
    unfold m_reach_b53 at h
    refine bfr_in (i := ci_0) (m := 2) 5 (pc1 := 61) (L1 := [some (.ref 0), o1, some (.int x2), some (.int x3), some (.int x4)]) (J1 := []) (st1 := [(.int (sA σ 12 ci_0)), (.int x4)]) (w1 := mkM σ) (fun _ _ => rfl) h (fun h => ?_)
    refine bfr_br 1 (pc1 := 91) (L1 := [some (.ref 0), o1, some (.int x2), some (.int x3), some (.int x4)]) (J1 := []) (st1 := []) (w1 := mkM σ) (pc2 := 64) (L2 := [some (.ref 0), o1, some (.int x2), some (.int x3), some (.int x4)]) (J2 := []) (st2 := []) (w2 := mkM σ) (fun _ _ => rfl) h (fun h => ?_) (fun h => ?_)
    · cases h
      exact bfr_ret 2 (fun _ _ => rfl)
    · refine bfr_call 3 (d1 := d + 2) (M1 := M_X12_nearest) (vs := [(.ref 0), (.int x4)]) (w1 := mkM σ) (pc2 := 70) (L2 := [some (.ref 0), o1, some (.int x2), some (.int x3), some (.int x4)]) (J2 := []) (rest := []) (fun a => some (.int a.1)) (fun a => mkM a.2) (fun _ _ => rfl) h (fun a ha => k_m_nearest n (d + 2) _ _ _ ha) (fun q1 _ h => ?_)
      refine bfr_chk 2 (pc1 := 74) (L1 := [some (.ref 0), o1, some (.int x2), some (.int x3), some (.int x4)]) (J1 := []) (st1 := [(.int (q1.1 / cs_1000))]) (w1 := mkM q1.2) (fun _ _ => rfl) h (fun h => ?_)
      refine bfr_br 2 (pc1 := 85) (L1 := [some (.ref 0), o1, some (.int x2), some (.int x3), some (.int x4)]) (J1 := []) (st1 := []) (w1 := mkM q1.2) (pc2 := 78) (L2 := [some (.ref 0), o1, some (.int x2), some (.int x3), some (.int x4)]) (J2 := []) (st2 := []) (w2 := mkM q1.2) (fun _ _ => rfl) h (fun h => ?_) (fun h => ?_)
      · exact k_m_reach_b85 n d _ q (ih) _ _ _ _ _ h
      · refine bfr_run 6 85 [some (.ref 0), o1, some (.int x2), some (.int (x3 ||| (ci_1 <<< (x4 &&& 31)))), some (.int x4)] [] [] (mkM q1.2) (fun _ _ => rfl) ?_
        exact k_m_reach_b85 n d _ q (ih) _ _ _ _ _ h
set_option maxRecDepth 100000 in
theorem k_m_reach_b18 (n d : Nat) (q : (Int32 × bS)) (o0 : Option Value) (o1 : Option Value) (o2 : Option Value) (o3 : Option Value) (o4 : Option Value) (σ : bS) (h : m_reach_b18 n σ = some q) : bfr MT (d + 3) M_X12_reach 18 [o0, o1, o2, o3, o4] [] [] (mkM σ) (some (.int q.1), mkM q.2) := by
  unfold m_reach_b18 at h
  cases h
  exact bfr_ret 2 (fun _ _ => rfl)
set_option maxRecDepth 100000 in
theorem k_m_reach (n d : Nat) (q : (Int32 × bS)) (x1 : Int32) (x2 : Int32) (σ : bS) (h : m_reach n x1 x2 σ = some q) : bfr MT (d + 3) M_X12_reach 0 [some (.ref 0), some (.int x1), some (.int x2), none, none] [] [] (mkM σ) (some (.int q.1), mkM q.2) := by
  unfold m_reach at h
  refine bfr_call 3 (d1 := d + 2) (M1 := M_X12_isMan) (vs := [(.ref 0), (.int x1)]) (w1 := mkM σ) (pc2 := 5) (L2 := [some (.ref 0), some (.int x1), some (.int x2), none, none]) (J2 := []) (rest := []) (fun a => some (.int a.1)) (fun a => mkM a.2) (fun _ _ => rfl) h (fun a ha => k_m_isMan n (d + 2) _ _ _ ha) (fun q2 _ h => ?_)
  refine bfr_br 1 (pc1 := 18) (L1 := [some (.ref 0), some (.int x1), some (.int x2), none, none]) (J1 := []) (st1 := []) (w1 := mkM q2.2) (pc2 := 8) (L2 := [some (.ref 0), some (.int x1), some (.int x2), none, none]) (J2 := []) (st2 := []) (w2 := mkM q2.2) (fun _ _ => rfl) h (fun h => ?_) (fun h => ?_)
  · exact k_m_reach_b18 n d q _ _ _ _ _ _ h
  · refine bfr_call 4 (d1 := d + 2) (M1 := M_X12_isIn) (vs := [(.int x2), (.int ci_0), (.int cb_99)]) (w1 := mkM q2.2) (pc2 := 15) (L2 := [some (.ref 0), some (.int x1), some (.int x2), none, none]) (J2 := []) (rest := []) (fun a => some (.int a.1)) (fun a => mkM a.2) (fun _ _ => rfl) h (fun a ha => k_m_isIn n (d + 2) _ _ _ _ _ ha) (fun q3 _ h => ?_)
    refine bfr_br 1 (pc1 := 18) (L1 := [some (.ref 0), some (.int x1), some (.int x2), none, none]) (J1 := []) (st1 := []) (w1 := mkM q3.2) (pc2 := 20) (L2 := [some (.ref 0), some (.int x1), some (.int x2), none, none]) (J2 := []) (st2 := []) (w2 := mkM q3.2) (fun _ _ => rfl) h (fun h => ?_) (fun h => ?_)
    · exact k_m_reach_b18 n d q _ _ _ _ _ _ h
    · refine bfr_run 3 25 [some (.ref 0), some (.int x1), some (.int x2), none, none] [] [] ((mkM q3.2).set 0 (.inr (.inr (12, (mkM_0 q3.2).set 40 (.int ci_0))))) (fun _ _ => rfl) ?_
      rw [mkM_I0_40]
      refine bfr_call 3 (d1 := d + 2) (M1 := M_X12_isOn) (vs := [(.ref 0), (.int x1)]) (w1 := mkM (uI q3.2 0 40 ci_0)) (pc2 := 30) (L2 := [some (.ref 0), some (.int x1), some (.int x2), none, none]) (J2 := []) (rest := []) (fun a => some (.int a.1)) (fun a => mkM a.2) (fun _ _ => rfl) h (fun a ha => k_m_isOn n (d + 2) _ _ _ ha) (fun q4 _ h => ?_)
      refine bfr_br 1 (pc1 := 36) (L1 := [some (.ref 0), some (.int x1), some (.int x2), none, none]) (J1 := []) (st1 := []) (w1 := mkM q4.2) (pc2 := 33) (L2 := [some (.ref 0), some (.int x1), some (.int x2), none, none]) (J2 := []) (st2 := []) (w2 := mkM q4.2) (fun _ _ => rfl) h (fun h => ?_) (fun h => ?_)
      · refine bfr_run 6 44 [some (.ref 0), some (.int x1), some (.int x2), none, none] [] [(.int (ci_5 + x1)), (.ref 29), (.ref 0)] (mkM q4.2) (fun _ _ => rfl) ?_
        refine bfr_in (i := (ci_5 + x1)) (m := 2208) 1 (pc1 := 45) (L1 := [some (.ref 0), some (.int x1), some (.int x2), none, none]) (J1 := []) (st1 := [(.int (sA q4.2 29 (ci_5 + x1))), (.ref 0)]) (w1 := mkM q4.2) (fun _ _ => rfl) h (fun h => ?_)
        refine bfr_call 1 (d1 := d + 2) (M1 := M_X12_laysFar) (vs := [(.ref 0), (.int (sA q4.2 29 (ci_5 + x1)))]) (w1 := mkM q4.2) (pc2 := 48) (L2 := [some (.ref 0), some (.int x1), some (.int x2), none, none]) (J2 := []) (rest := []) (fun _ => none) (fun a => mkM a) (fun _ _ => rfl) h (fun a ha => k_m_laysFar n (d + 0) _ _ _ ha) (fun q5 _ h => ?_)
        refine bfr_run 4 53 [some (.ref 0), some (.int x1), some (.int x2), some (.int ci_0), some (.int ci_0)] [] [] (mkM q5) (fun _ _ => rfl) ?_
        exact k_m_reach_b53 n d q _ _ _ _ _ _ h
      · cases h
        exact bfr_ret 2 (fun _ _ => rfl)
set_option maxRecDepth 100000 in
theorem k_m_isSet_b29 (n d : Nat) (q : (Int32 × bS)) (s0 : Int32) (o0 : Option Value) (o1 : Option Value) (o2 : Option Value) (σ : bS) (h : m_isSet_b29 n s0 σ = some q) : bfr MT (d + 1) M_X12_isSet 29 [o0, o1, o2] [] [(.int s0)] (mkM σ) (some (.int q.1), mkM q.2) := by
  unfold m_isSet_b29 at h
  exact bfr_bz (mk := mkM) 1 (fun _ _ => rfl) h
set_option maxRecDepth 100000 in
theorem k_m_isSet_b28 (n d : Nat) (q : (Int32 × bS)) (o0 : Option Value) (o1 : Option Value) (o2 : Option Value) (σ : bS) (h : m_isSet_b28 n σ = some q) : bfr MT (d + 1) M_X12_isSet 28 [o0, o1, o2] [] [] (mkM σ) (some (.int q.1), mkM q.2) := by
  unfold m_isSet_b28 at h
  refine bfr_run 1 29 [o0, o1, o2] [] [(.int ci_0)] (mkM σ) (fun _ _ => rfl) ?_
  exact k_m_isSet_b29 n d q _ _ _ _ _ h
set_option maxRecDepth 100000 in
theorem k_m_isSet (n d : Nat) (q : (Int32 × bS)) (x1 : Int32) (x2 : Int32) (σ : bS) (h : m_isSet n x1 x2 σ = some q) : bfr MT (d + 1) M_X12_isSet 0 [some (.ref 0), some (.int x1), some (.int x2)] [] [] (mkM σ) (some (.int q.1), mkM q.2) := by
  unfold m_isSet at h
  refine bfr_call 3 (d1 := d + 0) (M1 := M_X12_isBridge) (vs := [(.ref 0), (.int x1)]) (w1 := mkM σ) (pc2 := 5) (L2 := [some (.ref 0), some (.int x1), some (.int x2)]) (J2 := []) (rest := []) (fun a => some (.int a.1)) (fun a => mkM a.2) (fun _ _ => rfl) h (fun a ha => k_m_isBridge n (d + 0) _ _ _ ha) (fun q1 _ h => ?_)
  refine bfr_br 1 (pc1 := 28) (L1 := [some (.ref 0), some (.int x1), some (.int x2)]) (J1 := []) (st1 := []) (w1 := mkM q1.2) (pc2 := 8) (L2 := [some (.ref 0), some (.int x1), some (.int x2)]) (J2 := []) (st2 := []) (w2 := mkM q1.2) (fun _ _ => rfl) h (fun h => ?_) (fun h => ?_)
  · exact k_m_isSet_b28 n d q _ _ _ _ h
  · refine bfr_br 2 (pc1 := 28) (L1 := [some (.ref 0), some (.int x1), some (.int x2)]) (J1 := []) (st1 := []) (w1 := mkM q1.2) (pc2 := 12) (L2 := [some (.ref 0), some (.int x1), some (.int x2)]) (J2 := []) (st2 := []) (w2 := mkM q1.2) (fun _ _ => rfl) h (fun h => ?_) (fun h => ?_)
    · exact k_m_isSet_b28 n d q _ _ _ _ h
    · refine bfr_in (i := ci_0) (m := 2) 6 (pc1 := 20) (L1 := [some (.ref 0), some (.int x1), some (.int x2)]) (J1 := []) (st1 := [(.int (sA q1.2 20 ci_0)), (.int ci_1), (.int x2)]) (w1 := mkM q1.2) (fun _ _ => rfl) h (fun h => ?_)
      refine bfr_br 2 (pc1 := 28) (L1 := [some (.ref 0), some (.int x1), some (.int x2)]) (J1 := []) (st1 := []) (w1 := mkM q1.2) (pc2 := 24) (L2 := [some (.ref 0), some (.int x1), some (.int x2)]) (J2 := []) (st2 := []) (w2 := mkM q1.2) (fun _ _ => rfl) h (fun h => ?_) (fun h => ?_)
      · exact k_m_isSet_b28 n d q _ _ _ _ h
      · refine bfr_run 2 29 [some (.ref 0), some (.int x1), some (.int x2)] [] [(.int ci_1)] (mkM q1.2) (fun _ _ => rfl) ?_
        exact k_m_isSet_b29 n d q _ _ _ _ _ h
set_option maxRecDepth 100000 in
theorem k_m_areAtFoot_b37 (n d : Nat) (r7 : Int32 → Int32 → Int32 → bS → Option (Int32 × bS)) (q : (Int32 × bS)) (hr7 : ∀ (x1 : Int32) (x2 : Int32) (x3 : Int32) (σ : bS), r7 x1 x2 x3 σ = some q → bfr MT (d + 2) M_X12_areAtFoot 7 [some (.ref 0), some (.int x1), some (.int x2), some (.int x3)] [] [] (mkM σ) (some (.int q.1), mkM q.2)) (x1 : Int32) (x2 : Int32) (x3 : Int32) (σ : bS) (h : m_areAtFoot_b37 n r7 x1 x2 x3 σ = some q) : bfr MT (d + 2) M_X12_areAtFoot 37 [some (.ref 0), some (.int x1), some (.int x2), some (.int x3)] [] [] (mkM σ) (some (.int q.1), mkM q.2) := by
  unfold m_areAtFoot_b37 at h
  refine bfr_run 1 40 [some (.ref 0), some (.int x1), some (.int x2), some (.int (x3 + ci_1))] [] [] (mkM σ) (fun _ _ => rfl) ?_
  refine bfr_run 1 7 [some (.ref 0), some (.int x1), some (.int x2), some (.int (x3 + ci_1))] [] [] (mkM σ) (fun _ _ => rfl) ?_
  exact hr7 _ _ _ _ h
set_option maxRecDepth 100000 in
theorem k_m_areAtFoot_b7 (n d : Nat) (q : (Int32 × bS)) : ∀ (k : Nat) (x1 : Int32) (x2 : Int32) (x3 : Int32) (σ : bS), m_areAtFoot_b7 n k x1 x2 x3 σ = some q → bfr MT (d + 2) M_X12_areAtFoot 7 [some (.ref 0), some (.int x1), some (.int x2), some (.int x3)] [] [] (mkM σ) (some (.int q.1), mkM q.2) := by
  intro k
  induction k with
  | zero => intro x1 x2 x3 σ h; exact bno h
  | succ k ih =>
    intro x1 x2 x3 σ h
    unfold m_areAtFoot_b7 at h
    refine bfr_in (i := ci_0) (m := 2) 5 (pc1 := 14) (L1 := [some (.ref 0), some (.int x1), some (.int x2), some (.int x3)]) (J1 := []) (st1 := [(.int (sA σ 20 ci_0)), (.int x3)]) (w1 := mkM σ) (fun _ _ => rfl) h (fun h => ?_)
    refine bfr_br 1 (pc1 := 43) (L1 := [some (.ref 0), some (.int x1), some (.int x2), some (.int x3)]) (J1 := []) (st1 := []) (w1 := mkM σ) (pc2 := 17) (L2 := [some (.ref 0), some (.int x1), some (.int x2), some (.int x3)]) (J2 := []) (st2 := []) (w2 := mkM σ) (fun _ _ => rfl) h (fun h => ?_) (fun h => ?_)
    · exact bfr_bz (mk := mkM) 2 (fun _ _ => rfl) h
    · refine bfr_run 6 23 [some (.ref 0), some (.int x1), some (.int x2), some (.int x3)] [] [(.int ci_1), (.int ((x2 >>> (x3 &&& 31)) &&& ci_1))] (mkM σ) (fun _ _ => rfl) ?_
      refine bfr_br 1 (pc1 := 26) (L1 := [some (.ref 0), some (.int x1), some (.int x2), some (.int x3)]) (J1 := []) (st1 := []) (w1 := mkM σ) (pc2 := 37) (L2 := [some (.ref 0), some (.int x1), some (.int x2), some (.int x3)]) (J2 := []) (st2 := []) (w2 := mkM σ) (fun _ _ => rfl) h (fun h => ?_) (fun h => ?_)
      · refine bfr_call 4 (d1 := d + 1) (M1 := M_X12_isAtFoot) (vs := [(.ref 0), (.int x3), (.int x1)]) (w1 := mkM σ) (pc2 := 32) (L2 := [some (.ref 0), some (.int x1), some (.int x2), some (.int x3)]) (J2 := []) (rest := []) (fun a => some (.int a.1)) (fun a => mkM a.2) (fun _ _ => rfl) h (fun a ha => k_m_isAtFoot n (d + 0) _ _ _ _ ha) (fun q1 _ h => ?_)
        refine bfr_br 1 (pc1 := 35) (L1 := [some (.ref 0), some (.int x1), some (.int x2), some (.int x3)]) (J1 := []) (st1 := []) (w1 := mkM q1.2) (pc2 := 37) (L2 := [some (.ref 0), some (.int x1), some (.int x2), some (.int x3)]) (J2 := []) (st2 := []) (w2 := mkM q1.2) (fun _ _ => rfl) h (fun h => ?_) (fun h => ?_)
        · exact bfr_bz (mk := mkM) 2 (fun _ _ => rfl) h
        · exact k_m_areAtFoot_b37 n d _ q (ih) _ _ _ _ h
      · exact k_m_areAtFoot_b37 n d _ q (ih) _ _ _ _ h
set_option maxRecDepth 100000 in
theorem k_m_areAtFoot (n d : Nat) (q : (Int32 × bS)) (x1 : Int32) (x2 : Int32) (σ : bS) (h : m_areAtFoot n x1 x2 σ = some q) : bfr MT (d + 2) M_X12_areAtFoot 0 [some (.ref 0), some (.int x1), some (.int x2), none] [] [] (mkM σ) (some (.int q.1), mkM q.2) := by
  unfold m_areAtFoot at h
  refine bfr_run 3 5 [some (.ref 0), some (.int x1), some (.int x2), none] [] [] ((mkM σ).set 0 (.inr (.inr (12, (mkM_0 σ).set 40 (.int ci_0))))) (fun _ _ => rfl) ?_
  rw [mkM_I0_40]
  refine bfr_run 2 7 [some (.ref 0), some (.int x1), some (.int x2), some (.int ci_0)] [] [] (mkM (uI σ 0 40 ci_0)) (fun _ _ => rfl) ?_
  exact k_m_areAtFoot_b7 n d q _ _ _ _ _ h
set_option maxRecDepth 100000 in
theorem k_m_laysRow_b84 (n d : Nat) (r12 : Int32 → Int32 → Int32 → bS → Option bS) (r20 : Int32 → Int32 → Int32 → Int32 → bS → Option bS) (q : bS) (hr12 : ∀ (x1 : Int32) (x2 : Int32) (x3 : Int32) (o4 : Option Value) (σ : bS), r12 x1 x2 x3 σ = some q → bfr MT (d + 0) M_X12_laysRow 12 [some (.ref 0), some (.int x1), some (.int x2), some (.int x3), o4] [] [] (mkM σ) (none, mkM q)) (hr20 : ∀ (x1 : Int32) (x2 : Int32) (x3 : Int32) (x4 : Int32) (σ : bS), r20 x1 x2 x3 x4 σ = some q → bfr MT (d + 0) M_X12_laysRow 20 [some (.ref 0), some (.int x1), some (.int x2), some (.int x3), some (.int x4)] [] [] (mkM σ) (none, mkM q)) (x1 : Int32) (x2 : Int32) (x3 : Int32) (x4 : Int32) (σ : bS) (h : m_laysRow_b84 n r12 r20 x1 x2 x3 x4 σ = some q) : bfr MT (d + 0) M_X12_laysRow 84 [some (.ref 0), some (.int x1), some (.int x2), some (.int x3), some (.int x4)] [] [] (mkM σ) (none, mkM q) := by
  unfold m_laysRow_b84 at h
  refine bfr_run 1 87 [some (.ref 0), some (.int x1), some (.int x2), some (.int x3), some (.int (x4 + ci_1))] [] [] (mkM σ) (fun _ _ => rfl) ?_
  refine bfr_run 1 20 [some (.ref 0), some (.int x1), some (.int x2), some (.int x3), some (.int (x4 + ci_1))] [] [] (mkM σ) (fun _ _ => rfl) ?_
  exact hr20 _ _ _ _ _ h
set_option maxRecDepth 100000 in
theorem k_m_laysRow_b20 (n d : Nat) (r12 : Int32 → Int32 → Int32 → bS → Option bS) (q : bS) (hr12 : ∀ (x1 : Int32) (x2 : Int32) (x3 : Int32) (o4 : Option Value) (σ : bS), r12 x1 x2 x3 σ = some q → bfr MT (d + 0) M_X12_laysRow 12 [some (.ref 0), some (.int x1), some (.int x2), some (.int x3), o4] [] [] (mkM σ) (none, mkM q)) : ∀ (k : Nat) (x1 : Int32) (x2 : Int32) (x3 : Int32) (x4 : Int32) (σ : bS), m_laysRow_b20 n r12 k x1 x2 x3 x4 σ = some q → bfr MT (d + 0) M_X12_laysRow 20 [some (.ref 0), some (.int x1), some (.int x2), some (.int x3), some (.int x4)] [] [] (mkM σ) (none, mkM q) := by
  intro k
  induction k with
  | zero => intro x1 x2 x3 x4 σ h; exact bno h
  | succ k ih =>
    intro x1 x2 x3 x4 σ h
    unfold m_laysRow_b20 at h
    refine bfr_in (i := ci_0) (m := 2) 5 (pc1 := 28) (L1 := [some (.ref 0), some (.int x1), some (.int x2), some (.int x3), some (.int x4)]) (J1 := []) (st1 := [(.int (sA σ 20 ci_0)), (.int x4)]) (w1 := mkM σ) (fun _ _ => rfl) h (fun h => ?_)
    refine bfr_br 1 (pc1 := 90) (L1 := [some (.ref 0), some (.int x1), some (.int x2), some (.int x3), some (.int x4)]) (J1 := []) (st1 := []) (w1 := mkM σ) (pc2 := 31) (L2 := [some (.ref 0), some (.int x1), some (.int x2), some (.int x3), some (.int x4)]) (J2 := []) (st2 := []) (w2 := mkM σ) (fun _ _ => rfl) h (fun h => ?_) (fun h => ?_)
    · refine bfr_run 1 93 [some (.ref 0), some (.int x1), some (.int x2), some (.int (x3 + ci_1)), some (.int x4)] [] [] (mkM σ) (fun _ _ => rfl) ?_
      refine bfr_run 1 12 [some (.ref 0), some (.int x1), some (.int x2), some (.int (x3 + ci_1)), some (.int x4)] [] [] (mkM σ) (fun _ _ => rfl) ?_
      exact hr12 _ _ _ _ _ h
    · refine bfr_br 6 (pc1 := 84) (L1 := [some (.ref 0), some (.int x1), some (.int x2), some (.int x3), some (.int x4)]) (J1 := []) (st1 := []) (w1 := mkM σ) (pc2 := 40) (L2 := [some (.ref 0), some (.int x1), some (.int x2), some (.int x3), some (.int x4)]) (J2 := []) (st2 := []) (w2 := mkM σ) (fun _ _ => rfl) h (fun h => ?_) (fun h => ?_)
      · exact k_m_laysRow_b84 n d _ _ q hr12 (ih) _ _ _ _ _ h
      · refine bfr_run 6 47 [some (.ref 0), some (.int x1), some (.int x2), some (.int x3), some (.int x4)] [] [(.int x3), (.int ((x2 >>> (x4 &&& 31)) &&& ci_1))] (mkM σ) (fun _ _ => rfl) ?_
        refine bfr_br 1 (pc1 := 53) (L1 := [some (.ref 0), some (.int x1), some (.int x2), some (.int x3), some (.int x4)]) (J1 := []) (st1 := []) (w1 := mkM σ) (pc2 := 50) (L2 := [some (.ref 0), some (.int x1), some (.int x2), some (.int x3), some (.int x4)]) (J2 := []) (st2 := []) (w2 := mkM σ) (fun _ _ => rfl) h (fun h => ?_) (fun h => ?_)
        · refine bfr_in (i := (sI σ 0 49)) (m := 7) 6 (pc1 := 64) (L1 := [some (.ref 0), some (.int x1), some (.int x2), some (.int x3), some (.int x4)]) (J1 := []) (st1 := []) (w1 := ((mkM σ).set 34 (.inl (0, 7, upd (σ.2.1 34) ((sI σ 0 49)).toNatClampNeg x4)))) (fun _ _ => rfl) h (fun h => ?_)
          rw [mkM_A34]
          refine bfr_in (i := (sI (uA σ 34 (sI σ 0 49) x4) 0 49)) (m := 7) 6 (pc1 := 74) (L1 := [some (.ref 0), some (.int x1), some (.int x2), some (.int x3), some (.int x4)]) (J1 := []) (st1 := []) (w1 := ((mkM (uA σ 34 (sI σ 0 49) x4)).set 35 (.inl (2, 7, upd ((uA σ 34 (sI σ 0 49) x4).2.1 35) ((sI (uA σ 34 (sI σ 0 49) x4) 0 49)).toNatClampNeg (vp_nar .boolean ci_0))))) (fun _ _ => rfl) h (fun h => ?_)
          rw [mkM_A35]
          refine bfr_run 6 84 [some (.ref 0), some (.int x1), some (.int x2), some (.int x3), some (.int x4)] [] [] ((mkM (uA (uA σ 34 (sI σ 0 49) x4) 35 (sI (uA σ 34 (sI σ 0 49) x4) 0 49) (vp_nar .boolean ci_0))).set 0 (.inr (.inr (12, (mkM_0 (uA (uA σ 34 (sI σ 0 49) x4) 35 (sI (uA σ 34 (sI σ 0 49) x4) 0 49) (vp_nar .boolean ci_0))).set 49 (.int ((sI (uA (uA σ 34 (sI σ 0 49) x4) 35 (sI (uA σ 34 (sI σ 0 49) x4) 0 49) (vp_nar .boolean ci_0)) 0 49) + ci_1)))))) (fun _ _ => rfl) ?_
          rw [mkM_I0_49]
          exact k_m_laysRow_b84 n d _ _ q hr12 (ih) _ _ _ _ _ h
        · refine bfr_run 1 84 [some (.ref 0), some (.int x1), some (.int x2), some (.int x3), some (.int x4)] [] [] (mkM σ) (fun _ _ => rfl) ?_
          exact k_m_laysRow_b84 n d _ _ q hr12 (ih) _ _ _ _ _ h
set_option maxRecDepth 100000 in
theorem k_m_laysRow_b12 (n d : Nat) (q : bS) : ∀ (k : Nat) (x1 : Int32) (x2 : Int32) (x3 : Int32) (o4 : Option Value) (σ : bS), m_laysRow_b12 n k x1 x2 x3 σ = some q → bfr MT (d + 0) M_X12_laysRow 12 [some (.ref 0), some (.int x1), some (.int x2), some (.int x3), o4] [] [] (mkM σ) (none, mkM q) := by
  intro k
  induction k with
  | zero => intro x1 x2 x3 o4 σ h; exact bno h
  | succ k ih =>
    intro x1 x2 x3 o4 σ h
    unfold m_laysRow_b12 at h
    refine bfr_br 3 (pc1 := 96) (L1 := [some (.ref 0), some (.int x1), some (.int x2), some (.int x3), o4]) (J1 := []) (st1 := []) (w1 := mkM σ) (pc2 := 17) (L2 := [some (.ref 0), some (.int x1), some (.int x2), some (.int x3), o4]) (J2 := []) (st2 := []) (w2 := mkM σ) (fun _ _ => rfl) h (fun h => ?_) (fun h => ?_)
    · cases h
      exact bfr_ret 1 (fun _ _ => rfl)
    · refine bfr_run 2 20 [some (.ref 0), some (.int x1), some (.int x2), some (.int x3), some (.int ci_0)] [] [] (mkM σ) (fun _ _ => rfl) ?_
      exact k_m_laysRow_b20 n d _ q (ih) _ _ _ _ _ _ h
set_option maxRecDepth 100000 in
theorem k_m_laysRow (n d : Nat) (q : bS) (x1 : Int32) (x2 : Int32) (σ : bS) (h : m_laysRow n x1 x2 σ = some q) : bfr MT (d + 0) M_X12_laysRow 0 [some (.ref 0), some (.int x1), some (.int x2), none, none] [] [] (mkM σ) (none, mkM q) := by
  unfold m_laysRow at h
  refine bfr_run 3 5 [some (.ref 0), some (.int x1), some (.int x2), none, none] [] [] ((mkM σ).set 0 (.inr (.inr (12, (mkM_0 σ).set 49 (.int ci_0))))) (fun _ _ => rfl) ?_
  rw [mkM_I0_49]
  refine bfr_run 3 10 [some (.ref 0), some (.int x1), some (.int x2), none, none] [] [] ((mkM (uI σ 0 49 ci_0)).set 0 (.inr (.inr (12, (mkM_0 (uI σ 0 49 ci_0)).set 53 (.int ci_0))))) (fun _ _ => rfl) ?_
  rw [mkM_I0_53]
  refine bfr_run 2 12 [some (.ref 0), some (.int x1), some (.int x2), some (.int ci_0), none] [] [] (mkM (uI (uI σ 0 49 ci_0) 0 53 ci_0)) (fun _ _ => rfl) ?_
  exact k_m_laysRow_b12 n d q _ _ _ _ _ _ h
set_option maxRecDepth 100000 in
theorem k_m_changes (n d : Nat) (q : bS) (x1 : Int32) (x2 : Int32) (σ : bS) (h : m_changes n x1 x2 σ = some q) : bfr MT (d + 0) M_X12_changes 0 [some (.ref 0), some (.int x1), some (.int x2), none] [] [] (mkM σ) (none, mkM q) := by
  unfold m_changes at h
  refine bfr_in (i := x1) (m := 7) 4 (pc1 := 6) (L1 := [some (.ref 0), some (.int x1), some (.int x2), none]) (J1 := []) (st1 := [(.int (sA σ 34 x1))]) (w1 := mkM σ) (fun _ _ => rfl) h (fun h => ?_)
  refine bfr_run 6 16 [some (.ref 0), some (.int x1), some (.int x2), some (.int (sA σ 34 x1))] [] [(.ref 34), (.int x1), (.ref 34)] (mkM σ) (fun _ _ => rfl) ?_
  refine bfr_in (i := x2) (m := 7) 2 (pc1 := 18) (L1 := [some (.ref 0), some (.int x1), some (.int x2), some (.int (sA σ 34 x1))]) (J1 := []) (st1 := [(.int (sA σ 34 x2)), (.int x1), (.ref 34)]) (w1 := mkM σ) (fun _ _ => rfl) h (fun h => ?_)
  refine bfr_in (i := x1) (m := 7) 1 (pc1 := 19) (L1 := [some (.ref 0), some (.int x1), some (.int x2), some (.int (sA σ 34 x1))]) (J1 := []) (st1 := []) (w1 := ((mkM σ).set 34 (.inl (0, 7, upd (σ.2.1 34) (x1).toNatClampNeg (sA σ 34 x2))))) (fun _ _ => rfl) h (fun h => ?_)
  rw [mkM_A34]
  refine bfr_in (i := x2) (m := 7) 5 (pc1 := 26) (L1 := [some (.ref 0), some (.int x1), some (.int x2), some (.int (sA σ 34 x1))]) (J1 := []) (st1 := []) (w1 := ((mkM (uA σ 34 x1 (sA σ 34 x2))).set 34 (.inl (0, 7, upd ((uA σ 34 x1 (sA σ 34 x2)).2.1 34) (x2).toNatClampNeg (sA σ 34 x1))))) (fun _ _ => rfl) h (fun h => ?_)
  rw [mkM_A34]
  cases h
  exact bfr_ret 1 (fun _ _ => rfl)
set_option maxRecDepth 100000 in
theorem k_m_turns_b105 (n d : Nat) (r86 : Int32 → Int32 → bS → Option (Int32 × bS)) (q : (Int32 × bS)) (hr86 : ∀ (x3 : Int32) (x4 : Int32) (o1 : Option Value) (o2 : Option Value) (σ : bS), r86 x3 x4 σ = some q → bfr MT (d + 1) M_X12_turns 86 [some (.ref 0), o1, o2, some (.int x3), some (.int x4)] [] [] (mkM σ) (some (.int q.1), mkM q.2)) (x3 : Int32) (x4 : Int32) (o1 : Option Value) (o2 : Option Value) (σ : bS) (h : m_turns_b105 n r86 x3 x4 σ = some q) : bfr MT (d + 1) M_X12_turns 105 [some (.ref 0), o1, o2, some (.int x3), some (.int x4)] [] [] (mkM σ) (some (.int q.1), mkM q.2) := by
  unfold m_turns_b105 at h
  refine bfr_run 1 86 [some (.ref 0), o1, o2, some (.int x3), some (.int x4)] [] [] (mkM σ) (fun _ _ => rfl) ?_
  exact hr86 _ _ _ _ _ h
set_option maxRecDepth 100000 in
theorem k_m_turns_b86 (n d : Nat) (q : (Int32 × bS)) : ∀ (k : Nat) (x3 : Int32) (x4 : Int32) (o1 : Option Value) (o2 : Option Value) (σ : bS), m_turns_b86 n k x3 x4 σ = some q → bfr MT (d + 1) M_X12_turns 86 [some (.ref 0), o1, o2, some (.int x3), some (.int x4)] [] [] (mkM σ) (some (.int q.1), mkM q.2) := by
  intro k
  induction k with
  | zero => intro x3 x4 o1 o2 σ h; exact bno h
  | succ k ih =>
    intro x3 x4 o1 o2 σ h
    unfold m_turns_b86 at h
    refine bfr_br 3 (pc1 := 108) (L1 := [some (.ref 0), o1, o2, some (.int x3), some (.int x4)]) (J1 := []) (st1 := []) (w1 := mkM σ) (pc2 := 92) (L2 := [some (.ref 0), o1, o2, some (.int x3), some (.int x4)]) (J2 := []) (st2 := []) (w2 := mkM σ) (fun _ _ => rfl) h (fun h => ?_) (fun h => ?_)
    · exact bfr_bz (mk := mkM) 2 (fun _ _ => rfl) h
    · refine bfr_call 4 (d1 := d + 0) (M1 := M_X12_changes) (vs := [(.ref 0), (.int x3), (.int x4)]) (w1 := mkM σ) (pc2 := 99) (L2 := [some (.ref 0), o1, o2, some (.int x3), some (.int x4)]) (J2 := []) (rest := []) (fun _ => none) (fun a => mkM a) (fun _ _ => rfl) h (fun a ha => k_m_changes n (d + 0) _ _ _ _ ha) (fun q1 _ h => ?_)
      refine bfr_run 1 102 [some (.ref 0), o1, o2, some (.int (x3 + ci_1)), some (.int x4)] [] [] (mkM q1) (fun _ _ => rfl) ?_
      refine bfr_run 1 105 [some (.ref 0), o1, o2, some (.int (x3 + ci_1)), some (.int (x4 + ci_m1))] [] [] (mkM q1) (fun _ _ => rfl) ?_
      exact k_m_turns_b105 n d _ q (ih) _ _ _ _ _ h
set_option maxRecDepth 100000 in
theorem k_m_turns_b84 (n d : Nat) (q : (Int32 × bS)) (x3 : Int32) (s0 : Int32) (o1 : Option Value) (o2 : Option Value) (o4 : Option Value) (σ : bS) (h : m_turns_b84 n x3 s0 σ = some q) : bfr MT (d + 1) M_X12_turns 84 [some (.ref 0), o1, o2, some (.int x3), o4] [] [(.int s0)] (mkM σ) (some (.int q.1), mkM q.2) := by
  unfold m_turns_b84 at h
  refine bfr_run 1 86 [some (.ref 0), o1, o2, some (.int x3), some (.int s0)] [] [] (mkM σ) (fun _ _ => rfl) ?_
  exact k_m_turns_b86 n d q _ _ _ _ _ _ h
set_option maxRecDepth 100000 in
theorem k_m_turns_b65 (n d : Nat) (r47 : Int32 → Int32 → bS → Option (Int32 × bS)) (q : (Int32 × bS)) (hr47 : ∀ (x1 : Int32) (x2 : Int32) (o3 : Option Value) (o4 : Option Value) (σ : bS), r47 x1 x2 σ = some q → bfr MT (d + 1) M_X12_turns 47 [some (.ref 0), some (.int x1), some (.int x2), o3, o4] [] [] (mkM σ) (some (.int q.1), mkM q.2)) (x1 : Int32) (x2 : Int32) (o3 : Option Value) (o4 : Option Value) (σ : bS) (h : m_turns_b65 n r47 x1 x2 σ = some q) : bfr MT (d + 1) M_X12_turns 65 [some (.ref 0), some (.int x1), some (.int x2), o3, o4] [] [] (mkM σ) (some (.int q.1), mkM q.2) := by
  unfold m_turns_b65 at h
  refine bfr_run 1 47 [some (.ref 0), some (.int x1), some (.int x2), o3, o4] [] [] (mkM σ) (fun _ _ => rfl) ?_
  exact hr47 _ _ _ _ _ h
set_option maxRecDepth 100000 in
theorem k_m_turns_b47 (n d : Nat) (q : (Int32 × bS)) : ∀ (k : Nat) (x1 : Int32) (x2 : Int32) (o3 : Option Value) (o4 : Option Value) (σ : bS), m_turns_b47 n k x1 x2 σ = some q → bfr MT (d + 1) M_X12_turns 47 [some (.ref 0), some (.int x1), some (.int x2), o3, o4] [] [] (mkM σ) (some (.int q.1), mkM q.2) := by
  intro k
  induction k with
  | zero => intro x1 x2 o3 o4 σ h; exact bno h
  | succ k ih =>
    intro x1 x2 o3 o4 σ h
    unfold m_turns_b47 at h
    refine bfr_in (i := x2) (m := 7) 4 (pc1 := 53) (L1 := [some (.ref 0), some (.int x1), some (.int x2), o3, o4]) (J1 := []) (st1 := [(.int (sA σ 34 x2))]) (w1 := mkM σ) (fun _ _ => rfl) h (fun h => ?_)
    refine bfr_in (i := x1) (m := 7) 4 (pc1 := 59) (L1 := [some (.ref 0), some (.int x1), some (.int x2), o3, o4]) (J1 := []) (st1 := [(.int (sA σ 34 x1)), (.int (sA σ 34 x2))]) (w1 := mkM σ) (fun _ _ => rfl) h (fun h => ?_)
    refine bfr_br 1 (pc1 := 68) (L1 := [some (.ref 0), some (.int x1), some (.int x2), o3, o4]) (J1 := []) (st1 := []) (w1 := mkM σ) (pc2 := 62) (L2 := [some (.ref 0), some (.int x1), some (.int x2), o3, o4]) (J2 := []) (st2 := []) (w2 := mkM σ) (fun _ _ => rfl) h (fun h => ?_) (fun h => ?_)
    · refine bfr_call 4 (d1 := d + 0) (M1 := M_X12_changes) (vs := [(.ref 0), (.int x1), (.int x2)]) (w1 := mkM σ) (pc2 := 74) (L2 := [some (.ref 0), some (.int x1), some (.int x2), o3, o4]) (J2 := []) (rest := []) (fun _ => none) (fun a => mkM a) (fun _ _ => rfl) h (fun a ha => k_m_changes n (d + 0) _ _ _ _ ha) (fun q2 _ h => ?_)
      refine bfr_run 6 82 [some (.ref 0), some (.int x1), some (.int x2), some (.int (x1 + ci_1)), o4] [] [(.int (sI q2 0 49))] (mkM q2) (fun _ _ => rfl) ?_
      refine bfr_run 2 84 [some (.ref 0), some (.int x1), some (.int x2), some (.int (x1 + ci_1)), o4] [] [(.int ((sI q2 0 49) - ci_1))] (mkM q2) (fun _ _ => rfl) ?_
      exact k_m_turns_b84 n d q _ _ _ _ _ _ h
    · refine bfr_run 1 65 [some (.ref 0), some (.int x1), some (.int (x2 + ci_m1)), o3, o4] [] [] (mkM σ) (fun _ _ => rfl) ?_
      exact k_m_turns_b65 n d _ q (ih) _ _ _ _ _ h
set_option maxRecDepth 100000 in
theorem k_m_turns_b46 (n d : Nat) (q : (Int32 × bS)) (x1 : Int32) (s0 : Int32) (o2 : Option Value) (o3 : Option Value) (o4 : Option Value) (σ : bS) (h : m_turns_b46 n x1 s0 σ = some q) : bfr MT (d + 1) M_X12_turns 46 [some (.ref 0), some (.int x1), o2, o3, o4] [] [(.int s0)] (mkM σ) (some (.int q.1), mkM q.2) := by
  unfold m_turns_b46 at h
  refine bfr_run 1 47 [some (.ref 0), some (.int x1), some (.int s0), o3, o4] [] [] (mkM σ) (fun _ _ => rfl) ?_
  exact k_m_turns_b47 n d q _ _ _ _ _ _ h
set_option maxRecDepth 100000 in
theorem k_m_turns_b34 (n d : Nat) (q : (Int32 × bS)) (x1 : Int32) (o2 : Option Value) (o3 : Option Value) (o4 : Option Value) (σ : bS) (h : m_turns_b34 n x1 σ = some q) : bfr MT (d + 1) M_X12_turns 34 [some (.ref 0), some (.int x1), o2, o3, o4] [] [] (mkM σ) (some (.int q.1), mkM q.2) := by
  unfold m_turns_b34 at h
  refine bfr_br 2 (pc1 := 40) (L1 := [some (.ref 0), some (.int x1), o2, o3, o4]) (J1 := []) (st1 := []) (w1 := mkM σ) (pc2 := 38) (L2 := [some (.ref 0), some (.int x1), o2, o3, o4]) (J2 := []) (st2 := []) (w2 := mkM σ) (fun _ _ => rfl) h (fun h => ?_) (fun h => ?_)
  · refine bfr_run 4 46 [some (.ref 0), some (.int x1), o2, o3, o4] [] [(.int ((sI σ 0 49) - ci_1))] (mkM σ) (fun _ _ => rfl) ?_
    exact k_m_turns_b46 n d q _ _ _ _ _ _ h
  · exact bfr_bz (mk := mkM) 2 (fun _ _ => rfl) h
set_option maxRecDepth 100000 in
theorem k_m_turns_b31 (n d : Nat) (r7 : Int32 → bS → Option (Int32 × bS)) (q : (Int32 × bS)) (hr7 : ∀ (x1 : Int32) (o2 : Option Value) (o3 : Option Value) (o4 : Option Value) (σ : bS), r7 x1 σ = some q → bfr MT (d + 1) M_X12_turns 7 [some (.ref 0), some (.int x1), o2, o3, o4] [] [] (mkM σ) (some (.int q.1), mkM q.2)) (x1 : Int32) (o2 : Option Value) (o3 : Option Value) (o4 : Option Value) (σ : bS) (h : m_turns_b31 n r7 x1 σ = some q) : bfr MT (d + 1) M_X12_turns 31 [some (.ref 0), some (.int x1), o2, o3, o4] [] [] (mkM σ) (some (.int q.1), mkM q.2) := by
  unfold m_turns_b31 at h
  refine bfr_run 1 7 [some (.ref 0), some (.int x1), o2, o3, o4] [] [] (mkM σ) (fun _ _ => rfl) ?_
  exact hr7 _ _ _ _ _ h
set_option maxRecDepth 100000 in
theorem k_m_turns_b7 (n d : Nat) (q : (Int32 × bS)) : ∀ (k : Nat) (x1 : Int32) (o2 : Option Value) (o3 : Option Value) (o4 : Option Value) (σ : bS), m_turns_b7 n k x1 σ = some q → bfr MT (d + 1) M_X12_turns 7 [some (.ref 0), some (.int x1), o2, o3, o4] [] [] (mkM σ) (some (.int q.1), mkM q.2) := by
  intro k
  induction k with
  | zero => intro x1 o2 o3 o4 σ h; exact bno h
  | succ k ih =>
    intro x1 o2 o3 o4 σ h
    unfold m_turns_b7 at h
    refine bfr_br 2 (pc1 := 34) (L1 := [some (.ref 0), some (.int x1), o2, o3, o4]) (J1 := []) (st1 := []) (w1 := mkM σ) (pc2 := 11) (L2 := [some (.ref 0), some (.int x1), o2, o3, o4]) (J2 := []) (st2 := []) (w2 := mkM σ) (fun _ _ => rfl) h (fun h => ?_) (fun h => ?_)
    · exact k_m_turns_b34 n d q _ _ _ _ _ h
    · refine bfr_in (i := x1) (m := 7) 4 (pc1 := 17) (L1 := [some (.ref 0), some (.int x1), o2, o3, o4]) (J1 := []) (st1 := [(.int (sA σ 34 x1))]) (w1 := mkM σ) (fun _ _ => rfl) h (fun h => ?_)
      refine bfr_in (i := (x1 + ci_1)) (m := 7) 6 (pc1 := 25) (L1 := [some (.ref 0), some (.int x1), o2, o3, o4]) (J1 := []) (st1 := [(.int (sA σ 34 (x1 + ci_1))), (.int (sA σ 34 x1))]) (w1 := mkM σ) (fun _ _ => rfl) h (fun h => ?_)
      refine bfr_br 1 (pc1 := 34) (L1 := [some (.ref 0), some (.int x1), o2, o3, o4]) (J1 := []) (st1 := []) (w1 := mkM σ) (pc2 := 28) (L2 := [some (.ref 0), some (.int x1), o2, o3, o4]) (J2 := []) (st2 := []) (w2 := mkM σ) (fun _ _ => rfl) h (fun h => ?_) (fun h => ?_)
      · exact k_m_turns_b34 n d q _ _ _ _ _ h
      · refine bfr_run 1 31 [some (.ref 0), some (.int (x1 + ci_m1)), o2, o3, o4] [] [] (mkM σ) (fun _ _ => rfl) ?_
        exact k_m_turns_b31 n d _ q (ih) _ _ _ _ _ h
set_option maxRecDepth 100000 in
theorem k_m_turns_b6 (n d : Nat) (q : (Int32 × bS)) (s0 : Int32) (o1 : Option Value) (o2 : Option Value) (o3 : Option Value) (o4 : Option Value) (σ : bS) (h : m_turns_b6 n s0 σ = some q) : bfr MT (d + 1) M_X12_turns 6 [some (.ref 0), o1, o2, o3, o4] [] [(.int s0)] (mkM σ) (some (.int q.1), mkM q.2) := by
  unfold m_turns_b6 at h
  refine bfr_run 1 7 [some (.ref 0), some (.int s0), o2, o3, o4] [] [] (mkM σ) (fun _ _ => rfl) ?_
  exact k_m_turns_b7 n d q _ _ _ _ _ _ h
set_option maxRecDepth 100000 in
theorem k_m_turns (n d : Nat) (q : (Int32 × bS)) (σ : bS) (h : m_turns n σ = some q) : bfr MT (d + 1) M_X12_turns 0 [some (.ref 0), none, none, none, none] [] [] (mkM σ) (some (.int q.1), mkM q.2) := by
  unfold m_turns at h
  refine bfr_run 4 6 [some (.ref 0), none, none, none, none] [] [(.int ((sI σ 0 49) - ci_2))] (mkM σ) (fun _ _ => rfl) ?_
  exact k_m_turns_b6 n d q _ _ _ _ _ _ h
set_option maxRecDepth 100000 in
theorem k_m_leaves_b66 (n d : Nat) (r7 : Int32 → Int32 → Int32 → Int32 → bS → Option (Int32 × bS)) (q : (Int32 × bS)) (hr7 : ∀ (x1 : Int32) (x2 : Int32) (x3 : Int32) (x4 : Int32) (o5 : Option Value) (σ : bS), r7 x1 x2 x3 x4 σ = some q → bfr MT (d + 3) M_X12_leaves 7 [some (.ref 0), some (.int x1), some (.int x2), some (.int x3), some (.int x4), o5] [] [] (mkM σ) (some (.int q.1), mkM q.2)) (x1 : Int32) (x2 : Int32) (x3 : Int32) (x4 : Int32) (o5 : Option Value) (σ : bS) (h : m_leaves_b66 n r7 x1 x2 x3 x4 σ = some q) : bfr MT (d + 3) M_X12_leaves 66 [some (.ref 0), some (.int x1), some (.int x2), some (.int x3), some (.int x4), o5] [] [] (mkM σ) (some (.int q.1), mkM q.2) := by
  unfold m_leaves_b66 at h
  refine bfr_run 1 69 [some (.ref 0), some (.int x1), some (.int x2), some (.int x3), some (.int (x4 + ci_1)), o5] [] [] (mkM σ) (fun _ _ => rfl) ?_
  refine bfr_run 1 7 [some (.ref 0), some (.int x1), some (.int x2), some (.int x3), some (.int (x4 + ci_1)), o5] [] [] (mkM σ) (fun _ _ => rfl) ?_
  exact hr7 _ _ _ _ _ _ h
set_option maxRecDepth 100000 in
theorem k_m_leaves_b60 (n d : Nat) (r7 : Int32 → Int32 → Int32 → Int32 → bS → Option (Int32 × bS)) (q : (Int32 × bS)) (hr7 : ∀ (x1 : Int32) (x2 : Int32) (x3 : Int32) (x4 : Int32) (o5 : Option Value) (σ : bS), r7 x1 x2 x3 x4 σ = some q → bfr MT (d + 3) M_X12_leaves 7 [some (.ref 0), some (.int x1), some (.int x2), some (.int x3), some (.int x4), o5] [] [] (mkM σ) (some (.int q.1), mkM q.2)) (x1 : Int32) (x4 : Int32) (x5 : Int32) (o2 : Option Value) (o3 : Option Value) (σ : bS) (h : m_leaves_b60 n r7 x1 x4 x5 σ = some q) : bfr MT (d + 3) M_X12_leaves 60 [some (.ref 0), some (.int x1), o2, o3, some (.int x4), some (.int x5)] [] [] (mkM σ) (some (.int q.1), mkM q.2) := by
  unfold m_leaves_b60 at h
  refine bfr_run 4 66 [some (.ref 0), some (.int x1), some (.int x4), some (.int x5), some (.int x4), some (.int x5)] [] [] (mkM σ) (fun _ _ => rfl) ?_
  exact k_m_leaves_b66 n d _ q hr7 _ _ _ _ _ _ h
set_option maxRecDepth 100000 in
theorem k_m_leaves_b47 (n d : Nat) (r7 : Int32 → Int32 → Int32 → Int32 → bS → Option (Int32 × bS)) (q : (Int32 × bS)) (hr7 : ∀ (x1 : Int32) (x2 : Int32) (x3 : Int32) (x4 : Int32) (o5 : Option Value) (σ : bS), r7 x1 x2 x3 x4 σ = some q → bfr MT (d + 3) M_X12_leaves 7 [some (.ref 0), some (.int x1), some (.int x2), some (.int x3), some (.int x4), o5] [] [] (mkM σ) (some (.int q.1), mkM q.2)) (x1 : Int32) (x2 : Int32) (x3 : Int32) (x4 : Int32) (s0 : Int32) (o5 : Option Value) (σ : bS) (h : m_leaves_b47 n r7 x1 x2 x3 x4 s0 σ = some q) : bfr MT (d + 3) M_X12_leaves 47 [some (.ref 0), some (.int x1), some (.int x2), some (.int x3), some (.int x4), o5] [] [(.int s0)] (mkM σ) (some (.int q.1), mkM q.2) := by
  unfold m_leaves_b47 at h
  refine bfr_br 3 (pc1 := 60) (L1 := [some (.ref 0), some (.int x1), some (.int x2), some (.int x3), some (.int x4), some (.int s0)]) (J1 := []) (st1 := []) (w1 := mkM σ) (pc2 := 54) (L2 := [some (.ref 0), some (.int x1), some (.int x2), some (.int x3), some (.int x4), some (.int s0)]) (J2 := []) (st2 := []) (w2 := mkM σ) (fun _ _ => rfl) h (fun h => ?_) (fun h => ?_)
  · exact k_m_leaves_b60 n d _ q hr7 _ _ _ _ _ _ h
  · refine bfr_br 3 (pc1 := 66) (L1 := [some (.ref 0), some (.int x1), some (.int x2), some (.int x3), some (.int x4), some (.int s0)]) (J1 := []) (st1 := []) (w1 := mkM σ) (pc2 := 60) (L2 := [some (.ref 0), some (.int x1), some (.int x2), some (.int x3), some (.int x4), some (.int s0)]) (J2 := []) (st2 := []) (w2 := mkM σ) (fun _ _ => rfl) h (fun h => ?_) (fun h => ?_)
    · exact k_m_leaves_b66 n d _ q hr7 _ _ _ _ _ _ h
    · exact k_m_leaves_b60 n d _ q hr7 _ _ _ _ _ _ h
set_option maxRecDepth 100000 in
theorem k_m_leaves_b7 (n d : Nat) (q : (Int32 × bS)) : ∀ (k : Nat) (x1 : Int32) (x2 : Int32) (x3 : Int32) (x4 : Int32) (o5 : Option Value) (σ : bS), m_leaves_b7 n k x1 x2 x3 x4 σ = some q → bfr MT (d + 3) M_X12_leaves 7 [some (.ref 0), some (.int x1), some (.int x2), some (.int x3), some (.int x4), o5] [] [] (mkM σ) (some (.int q.1), mkM q.2) := by
  intro k
  induction k with
  | zero => intro x1 x2 x3 x4 o5 σ h; exact bno h
  | succ k ih =>
    intro x1 x2 x3 x4 o5 σ h
    unfold m_leaves_b7 at h
    refine bfr_in (i := ci_0) (m := 2) 5 (pc1 := 15) (L1 := [some (.ref 0), some (.int x1), some (.int x2), some (.int x3), some (.int x4), o5]) (J1 := []) (st1 := [(.int (sA σ 12 ci_0)), (.int x4)]) (w1 := mkM σ) (fun _ _ => rfl) h (fun h => ?_)
    refine bfr_br 1 (pc1 := 72) (L1 := [some (.ref 0), some (.int x1), some (.int x2), some (.int x3), some (.int x4), o5]) (J1 := []) (st1 := []) (w1 := mkM σ) (pc2 := 18) (L2 := [some (.ref 0), some (.int x1), some (.int x2), some (.int x3), some (.int x4), o5]) (J2 := []) (st2 := []) (w2 := mkM σ) (fun _ _ => rfl) h (fun h => ?_) (fun h => ?_)
    · cases h
      exact bfr_ret 2 (fun _ _ => rfl)
    · refine bfr_call 4 (d1 := d + 2) (M1 := M_X12_asks) (vs := [(.ref 0), (.int x1), (.int x4)]) (w1 := mkM σ) (pc2 := 25) (L2 := [some (.ref 0), some (.int x1), some (.int x2), some (.int x3), some (.int x4), o5]) (J2 := []) (rest := []) (fun _ => none) (fun a => mkM a) (fun _ _ => rfl) h (fun a ha => k_m_asks n (d + 2) _ _ _ _ ha) (fun q1 _ h => ?_)
      refine bfr_call 4 (d1 := d + 2) (M1 := M_X12_lawOf) (vs := [(.ref 0), (.int cb_13), (.int ci_0)]) (w1 := mkM q1) (pc2 := 32) (L2 := [some (.ref 0), some (.int x1), some (.int x2), some (.int x3), some (.int x4), o5]) (J2 := []) (rest := []) (fun a => some (.int a.1)) (fun a => mkM a.2) (fun _ _ => rfl) h (fun a ha => k_m_lawOf n (d + 0) _ _ _ _ ha) (fun q2 _ h => ?_)
      refine bfr_call 3 (d1 := d + 2) (M1 := M_X12_within) (vs := [(.int q2.1), (.int cb_m99), (.int cb_99)]) (w1 := mkM q2.2) (pc2 := 39) (L2 := [some (.ref 0), some (.int x1), some (.int x2), some (.int x3), some (.int x4), o5]) (J2 := []) (rest := []) (fun a => some (.int a.1)) (fun a => mkM a.2) (fun _ _ => rfl) h (fun a ha => k_m_within n (d + 2) _ _ _ _ _ ha) (fun q3 _ h => ?_)
      refine bfr_in (i := x4) (m := 6) 4 (pc1 := 46) (L1 := [some (.ref 0), some (.int x1), some (.int x2), some (.int x3), some (.int x4), o5]) (J1 := []) (st1 := [(.int (sA q3.2 36 x4)), (.int q3.1)]) (w1 := mkM q3.2) (fun _ _ => rfl) h (fun h => ?_)
      refine bfr_run 1 47 [some (.ref 0), some (.int x1), some (.int x2), some (.int x3), some (.int x4), o5] [] [(.int (q3.1 - (sA q3.2 36 x4)))] (mkM q3.2) (fun _ _ => rfl) ?_
      exact k_m_leaves_b47 n d _ q (ih) _ _ _ _ _ _ _ h
set_option maxRecDepth 100000 in
theorem k_m_leaves (n d : Nat) (q : (Int32 × bS)) (x1 : Int32) (σ : bS) (h : m_leaves n x1 σ = some q) : bfr MT (d + 3) M_X12_leaves 0 [some (.ref 0), some (.int x1), none, none, none, none] [] [] (mkM σ) (some (.int q.1), mkM q.2) := by
  unfold m_leaves at h
  refine bfr_run 6 7 [some (.ref 0), some (.int x1), some (.int ci_0), some (.int ci_0), some (.int ci_0), none] [] [] (mkM σ) (fun _ _ => rfl) ?_
  exact k_m_leaves_b7 n d q _ _ _ _ _ _ _ h
set_option maxRecDepth 100000 in
theorem k_m_rowGoes_b113 (n d : Nat) (r6 : Int32 → Int32 → bS → Option bS) (q : bS) (hr6 : ∀ (x1 : Int32) (x2 : Int32) (o3 : Option Value) (o4 : Option Value) (o5 : Option Value) (σ : bS), r6 x1 x2 σ = some q → bfr MT (d + 4) M_X12_rowGoes 6 [some (.ref 0), some (.int x1), some (.int x2), o3, o4, o5] [] [] (mkM σ) (none, mkM q)) (x1 : Int32) (x2 : Int32) (x3 : Int32) (o4 : Option Value) (o5 : Option Value) (σ : bS) (h : m_rowGoes_b113 n r6 x1 x2 x3 σ = some q) : bfr MT (d + 4) M_X12_rowGoes 113 [some (.ref 0), some (.int x1), some (.int x2), some (.int x3), o4, o5] [] [] (mkM σ) (none, mkM q) := by
  unfold m_rowGoes_b113 at h
  refine bfr_run 6 124 [some (.ref 0), some (.int x1), some (.int x2), some (.int x3), o4, o5] [] [(.int ((sI σ 0 40) + cb_26)), (.ref 29)] (mkM σ) (fun _ _ => rfl) ?_
  refine bfr_in (i := (((sI σ 0 40) + cb_26) + x3)) (m := 2208) 4 (pc1 := 128) (L1 := [some (.ref 0), some (.int x1), some (.int x2), some (.int x3), o4, o5]) (J1 := []) (st1 := [(.int (sA σ 29 (((sI σ 0 40) + cb_26) + x3))), (.int (((sI σ 0 40) + cb_26) + x3)), (.ref 29)]) (w1 := mkM σ) (fun _ _ => rfl) h (fun h => ?_)
  refine bfr_in (i := (((sI σ 0 40) + cb_26) + x3)) (m := 2208) 3 (pc1 := 131) (L1 := [some (.ref 0), some (.int x1), some (.int x2), some (.int x3), o4, o5]) (J1 := []) (st1 := []) (w1 := ((mkM σ).set 29 (.inl (0, 2208, upd (σ.2.1 29) ((((sI σ 0 40) + cb_26) + x3)).toNatClampNeg ((sA σ 29 (((sI σ 0 40) + cb_26) + x3)) + ci_1))))) (fun _ _ => rfl) h (fun h => ?_)
  rw [mkM_A29]
  refine bfr_run 6 142 [some (.ref 0), some (.int x1), some (.int x2), some (.int x3), o4, o5] [] [(.int ((sI (uA σ 29 (((sI σ 0 40) + cb_26) + x3) ((sA σ 29 (((sI σ 0 40) + cb_26) + x3)) + ci_1)) 0 40) + cb_33)), (.ref 29)] (mkM (uA σ 29 (((sI σ 0 40) + cb_26) + x3) ((sA σ 29 (((sI σ 0 40) + cb_26) + x3)) + ci_1))) (fun _ _ => rfl) ?_
  refine bfr_in (i := (((sI (uA σ 29 (((sI σ 0 40) + cb_26) + x3) ((sA σ 29 (((sI σ 0 40) + cb_26) + x3)) + ci_1)) 0 40) + cb_33) + x3)) (m := 2208) 4 (pc1 := 146) (L1 := [some (.ref 0), some (.int x1), some (.int x2), some (.int x3), o4, o5]) (J1 := []) (st1 := []) (w1 := ((mkM (uA σ 29 (((sI σ 0 40) + cb_26) + x3) ((sA σ 29 (((sI σ 0 40) + cb_26) + x3)) + ci_1))).set 29 (.inl (0, 2208, upd ((uA σ 29 (((sI σ 0 40) + cb_26) + x3) ((sA σ 29 (((sI σ 0 40) + cb_26) + x3)) + ci_1)).2.1 29) ((((sI (uA σ 29 (((sI σ 0 40) + cb_26) + x3) ((sA σ 29 (((sI σ 0 40) + cb_26) + x3)) + ci_1)) 0 40) + cb_33) + x3)).toNatClampNeg ci_0)))) (fun _ _ => rfl) h (fun h => ?_)
  rw [mkM_A29]
  refine bfr_in (i := (sI (uA (uA σ 29 (((sI σ 0 40) + cb_26) + x3) ((sA σ 29 (((sI σ 0 40) + cb_26) + x3)) + ci_1)) 29 (((sI (uA σ 29 (((sI σ 0 40) + cb_26) + x3) ((sA σ 29 (((sI σ 0 40) + cb_26) + x3)) + ci_1)) 0 40) + cb_33) + x3) ci_0) 0 40)) (m := 2208) 6 (pc1 := 156) (L1 := [some (.ref 0), some (.int x1), some (.int x2), some (.int x3), o4, o5]) (J1 := []) (st1 := [(.int (sA (uA (uA σ 29 (((sI σ 0 40) + cb_26) + x3) ((sA σ 29 (((sI σ 0 40) + cb_26) + x3)) + ci_1)) 29 (((sI (uA σ 29 (((sI σ 0 40) + cb_26) + x3) ((sA σ 29 (((sI σ 0 40) + cb_26) + x3)) + ci_1)) 0 40) + cb_33) + x3) ci_0) 29 (sI (uA (uA σ 29 (((sI σ 0 40) + cb_26) + x3) ((sA σ 29 (((sI σ 0 40) + cb_26) + x3)) + ci_1)) 29 (((sI (uA σ 29 (((sI σ 0 40) + cb_26) + x3) ((sA σ 29 (((sI σ 0 40) + cb_26) + x3)) + ci_1)) 0 40) + cb_33) + x3) ci_0) 0 40))), (.int (sI (uA (uA σ 29 (((sI σ 0 40) + cb_26) + x3) ((sA σ 29 (((sI σ 0 40) + cb_26) + x3)) + ci_1)) 29 (((sI (uA σ 29 (((sI σ 0 40) + cb_26) + x3) ((sA σ 29 (((sI σ 0 40) + cb_26) + x3)) + ci_1)) 0 40) + cb_33) + x3) ci_0) 0 40)), (.ref 29)]) (w1 := mkM (uA (uA σ 29 (((sI σ 0 40) + cb_26) + x3) ((sA σ 29 (((sI σ 0 40) + cb_26) + x3)) + ci_1)) 29 (((sI (uA σ 29 (((sI σ 0 40) + cb_26) + x3) ((sA σ 29 (((sI σ 0 40) + cb_26) + x3)) + ci_1)) 0 40) + cb_33) + x3) ci_0)) (fun _ _ => rfl) h (fun h => ?_)
  refine bfr_in (i := (sI (uA (uA σ 29 (((sI σ 0 40) + cb_26) + x3) ((sA σ 29 (((sI σ 0 40) + cb_26) + x3)) + ci_1)) 29 (((sI (uA σ 29 (((sI σ 0 40) + cb_26) + x3) ((sA σ 29 (((sI σ 0 40) + cb_26) + x3)) + ci_1)) 0 40) + cb_33) + x3) ci_0) 0 40)) (m := 2208) 3 (pc1 := 159) (L1 := [some (.ref 0), some (.int x1), some (.int x2), some (.int x3), o4, o5]) (J1 := []) (st1 := []) (w1 := ((mkM (uA (uA σ 29 (((sI σ 0 40) + cb_26) + x3) ((sA σ 29 (((sI σ 0 40) + cb_26) + x3)) + ci_1)) 29 (((sI (uA σ 29 (((sI σ 0 40) + cb_26) + x3) ((sA σ 29 (((sI σ 0 40) + cb_26) + x3)) + ci_1)) 0 40) + cb_33) + x3) ci_0)).set 29 (.inl (0, 2208, upd ((uA (uA σ 29 (((sI σ 0 40) + cb_26) + x3) ((sA σ 29 (((sI σ 0 40) + cb_26) + x3)) + ci_1)) 29 (((sI (uA σ 29 (((sI σ 0 40) + cb_26) + x3) ((sA σ 29 (((sI σ 0 40) + cb_26) + x3)) + ci_1)) 0 40) + cb_33) + x3) ci_0).2.1 29) ((sI (uA (uA σ 29 (((sI σ 0 40) + cb_26) + x3) ((sA σ 29 (((sI σ 0 40) + cb_26) + x3)) + ci_1)) 29 (((sI (uA σ 29 (((sI σ 0 40) + cb_26) + x3) ((sA σ 29 (((sI σ 0 40) + cb_26) + x3)) + ci_1)) 0 40) + cb_33) + x3) ci_0) 0 40)).toNatClampNeg ((sA (uA (uA σ 29 (((sI σ 0 40) + cb_26) + x3) ((sA σ 29 (((sI σ 0 40) + cb_26) + x3)) + ci_1)) 29 (((sI (uA σ 29 (((sI σ 0 40) + cb_26) + x3) ((sA σ 29 (((sI σ 0 40) + cb_26) + x3)) + ci_1)) 0 40) + cb_33) + x3) ci_0) 29 (sI (uA (uA σ 29 (((sI σ 0 40) + cb_26) + x3) ((sA σ 29 (((sI σ 0 40) + cb_26) + x3)) + ci_1)) 29 (((sI (uA σ 29 (((sI σ 0 40) + cb_26) + x3) ((sA σ 29 (((sI σ 0 40) + cb_26) + x3)) + ci_1)) 0 40) + cb_33) + x3) ci_0) 0 40)) + ci_1))))) (fun _ _ => rfl) h (fun h => ?_)
  rw [mkM_A29]
  refine bfr_run 1 162 [some (.ref 0), some (.int x1), some (.int (x2 + ci_1)), some (.int x3), o4, o5] [] [] (mkM (uA (uA (uA σ 29 (((sI σ 0 40) + cb_26) + x3) ((sA σ 29 (((sI σ 0 40) + cb_26) + x3)) + ci_1)) 29 (((sI (uA σ 29 (((sI σ 0 40) + cb_26) + x3) ((sA σ 29 (((sI σ 0 40) + cb_26) + x3)) + ci_1)) 0 40) + cb_33) + x3) ci_0) 29 (sI (uA (uA σ 29 (((sI σ 0 40) + cb_26) + x3) ((sA σ 29 (((sI σ 0 40) + cb_26) + x3)) + ci_1)) 29 (((sI (uA σ 29 (((sI σ 0 40) + cb_26) + x3) ((sA σ 29 (((sI σ 0 40) + cb_26) + x3)) + ci_1)) 0 40) + cb_33) + x3) ci_0) 0 40) ((sA (uA (uA σ 29 (((sI σ 0 40) + cb_26) + x3) ((sA σ 29 (((sI σ 0 40) + cb_26) + x3)) + ci_1)) 29 (((sI (uA σ 29 (((sI σ 0 40) + cb_26) + x3) ((sA σ 29 (((sI σ 0 40) + cb_26) + x3)) + ci_1)) 0 40) + cb_33) + x3) ci_0) 29 (sI (uA (uA σ 29 (((sI σ 0 40) + cb_26) + x3) ((sA σ 29 (((sI σ 0 40) + cb_26) + x3)) + ci_1)) 29 (((sI (uA σ 29 (((sI σ 0 40) + cb_26) + x3) ((sA σ 29 (((sI σ 0 40) + cb_26) + x3)) + ci_1)) 0 40) + cb_33) + x3) ci_0) 0 40)) + ci_1))) (fun _ _ => rfl) ?_
  refine bfr_run 1 6 [some (.ref 0), some (.int x1), some (.int (x2 + ci_1)), some (.int x3), o4, o5] [] [] (mkM (uA (uA (uA σ 29 (((sI σ 0 40) + cb_26) + x3) ((sA σ 29 (((sI σ 0 40) + cb_26) + x3)) + ci_1)) 29 (((sI (uA σ 29 (((sI σ 0 40) + cb_26) + x3) ((sA σ 29 (((sI σ 0 40) + cb_26) + x3)) + ci_1)) 0 40) + cb_33) + x3) ci_0) 29 (sI (uA (uA σ 29 (((sI σ 0 40) + cb_26) + x3) ((sA σ 29 (((sI σ 0 40) + cb_26) + x3)) + ci_1)) 29 (((sI (uA σ 29 (((sI σ 0 40) + cb_26) + x3) ((sA σ 29 (((sI σ 0 40) + cb_26) + x3)) + ci_1)) 0 40) + cb_33) + x3) ci_0) 0 40) ((sA (uA (uA σ 29 (((sI σ 0 40) + cb_26) + x3) ((sA σ 29 (((sI σ 0 40) + cb_26) + x3)) + ci_1)) 29 (((sI (uA σ 29 (((sI σ 0 40) + cb_26) + x3) ((sA σ 29 (((sI σ 0 40) + cb_26) + x3)) + ci_1)) 0 40) + cb_33) + x3) ci_0) 29 (sI (uA (uA σ 29 (((sI σ 0 40) + cb_26) + x3) ((sA σ 29 (((sI σ 0 40) + cb_26) + x3)) + ci_1)) 29 (((sI (uA σ 29 (((sI σ 0 40) + cb_26) + x3) ((sA σ 29 (((sI σ 0 40) + cb_26) + x3)) + ci_1)) 0 40) + cb_33) + x3) ci_0) 0 40)) + ci_1))) (fun _ _ => rfl) ?_
  exact hr6 _ _ _ _ _ _ h
set_option maxRecDepth 100000 in
theorem k_m_rowGoes_b83 (n d : Nat) (r6 : Int32 → Int32 → bS → Option bS) (q : bS) (hr6 : ∀ (x1 : Int32) (x2 : Int32) (o3 : Option Value) (o4 : Option Value) (o5 : Option Value) (σ : bS), r6 x1 x2 σ = some q → bfr MT (d + 4) M_X12_rowGoes 6 [some (.ref 0), some (.int x1), some (.int x2), o3, o4, o5] [] [] (mkM σ) (none, mkM q)) (x1 : Int32) (x2 : Int32) (x3 : Int32) (s0 : Int32) (o4 : Option Value) (o5 : Option Value) (σ : bS) (h : m_rowGoes_b83 n r6 x1 x2 x3 s0 σ = some q) : bfr MT (d + 4) M_X12_rowGoes 83 [some (.ref 0), some (.int x1), some (.int x2), some (.int x3), o4, o5] [] [(.int s0)] (mkM σ) (none, mkM q) := by
  unfold m_rowGoes_b83 at h
  refine bfr_call 5 (d1 := d + 3) (M1 := M_X12_comes) (vs := [(.ref 0), (.int x3), (.int x1)]) (w1 := mkM σ) (pc2 := 91) (L2 := [some (.ref 0), some (.int x1), some (.int x2), some (.int x3), some (.int s0), o5]) (J2 := []) (rest := []) (fun a => some (.int a.1)) (fun a => mkM a.2) (fun _ _ => rfl) h (fun a ha => k_m_comes n (d + 3) _ _ _ _ ha) (fun q1 _ h => ?_)
  refine bfr_br 3 (pc1 := 113) (L1 := [some (.ref 0), some (.int x1), some (.int x2), some (.int x3), some (.int s0), some (.int q1.1)]) (J1 := []) (st1 := []) (w1 := mkM q1.2) (pc2 := 98) (L2 := [some (.ref 0), some (.int x1), some (.int x2), some (.int x3), some (.int s0), some (.int q1.1)]) (J2 := []) (st2 := []) (w2 := mkM q1.2) (fun _ _ => rfl) h (fun h => ?_) (fun h => ?_)
  · exact k_m_rowGoes_b113 n d _ q hr6 _ _ _ _ _ _ h
  · refine bfr_run 6 108 [some (.ref 0), some (.int x1), some (.int x2), some (.int x3), some (.int s0), some (.int q1.1)] [] [(.int ((sI q1.2 0 40) + ci_1)), (.ref 29)] (mkM q1.2) (fun _ _ => rfl) ?_
    refine bfr_in (i := (((sI q1.2 0 40) + ci_1) + x1)) (m := 2208) 4 (pc1 := 113) (L1 := [some (.ref 0), some (.int x1), some (.int x2), some (.int x3), some (.int s0), some (.int q1.1)]) (J1 := []) (st1 := []) (w1 := ((mkM q1.2).set 29 (.inl (0, 2208, upd (q1.2.2.1 29) ((((sI q1.2 0 40) + ci_1) + x1)).toNatClampNeg s0)))) (fun _ _ => rfl) h (fun h => ?_)
    rw [mkM_A29]
    exact k_m_rowGoes_b113 n d _ q hr6 _ _ _ _ _ _ h
set_option maxRecDepth 100000 in
theorem k_m_rowGoes_b62 (n d : Nat) (r6 : Int32 → Int32 → bS → Option bS) (q : bS) (hr6 : ∀ (x1 : Int32) (x2 : Int32) (o3 : Option Value) (o4 : Option Value) (o5 : Option Value) (σ : bS), r6 x1 x2 σ = some q → bfr MT (d + 4) M_X12_rowGoes 6 [some (.ref 0), some (.int x1), some (.int x2), o3, o4, o5] [] [] (mkM σ) (none, mkM q)) (x1 : Int32) (x2 : Int32) (x3 : Int32) (o4 : Option Value) (o5 : Option Value) (σ : bS) (h : m_rowGoes_b62 n r6 x1 x2 x3 σ = some q) : bfr MT (d + 4) M_X12_rowGoes 62 [some (.ref 0), some (.int x1), some (.int x2), some (.int x3), o4, o5] [] [] (mkM σ) (none, mkM q) := by
  unfold m_rowGoes_b62 at h
  refine bfr_br 3 (pc1 := 77) (L1 := [some (.ref 0), some (.int x1), some (.int x2), some (.int x3), o4, o5]) (J1 := []) (st1 := []) (w1 := mkM σ) (pc2 := 69) (L2 := [some (.ref 0), some (.int x1), some (.int x2), some (.int x3), o4, o5]) (J2 := []) (st2 := []) (w2 := mkM σ) (fun _ _ => rfl) h (fun h => ?_) (fun h => ?_)
  · refine bfr_call 4 (d1 := d + 3) (M1 := M_X12_wishOf) (vs := [(.ref 0), (.int x3), (.int x1)]) (w1 := mkM σ) (pc2 := 83) (L2 := [some (.ref 0), some (.int x1), some (.int x2), some (.int x3), o4, o5]) (J2 := []) (rest := []) (fun a => some (.int a.1)) (fun a => mkM a.2) (fun _ _ => rfl) h (fun a ha => k_m_wishOf n (d + 0) _ _ _ _ ha) (fun q2 _ h => ?_)
    exact k_m_rowGoes_b83 n d _ q hr6 _ _ _ _ _ _ _ h
  · refine bfr_call 3 (d1 := d + 3) (M1 := M_X12_leaves) (vs := [(.ref 0), (.int x3)]) (w1 := mkM σ) (pc2 := 74) (L2 := [some (.ref 0), some (.int x1), some (.int x2), some (.int x3), o4, o5]) (J2 := []) (rest := []) (fun a => some (.int a.1)) (fun a => mkM a.2) (fun _ _ => rfl) h (fun a ha => k_m_leaves n (d + 0) _ _ _ ha) (fun q3 _ h => ?_)
    refine bfr_run 1 83 [some (.ref 0), some (.int x1), some (.int x2), some (.int x3), o4, o5] [] [(.int q3.1)] (mkM q3.2) (fun _ _ => rfl) ?_
    exact k_m_rowGoes_b83 n d _ q hr6 _ _ _ _ _ _ _ h
set_option maxRecDepth 100000 in
theorem k_m_rowGoes_b6 (n d : Nat) (q : bS) : ∀ (k : Nat) (x1 : Int32) (x2 : Int32) (o3 : Option Value) (o4 : Option Value) (o5 : Option Value) (σ : bS), m_rowGoes_b6 n k x1 x2 σ = some q → bfr MT (d + 4) M_X12_rowGoes 6 [some (.ref 0), some (.int x1), some (.int x2), o3, o4, o5] [] [] (mkM σ) (none, mkM q) := by
  intro k
  induction k with
  | zero => intro x1 x2 o3 o4 o5 σ h; exact bno h
  | succ k ih =>
    intro x1 x2 o3 o4 o5 σ h
    unfold m_rowGoes_b6 at h
    refine bfr_br 4 (pc1 := 165) (L1 := [some (.ref 0), some (.int x1), some (.int x2), o3, o4, o5]) (J1 := []) (st1 := []) (w1 := mkM σ) (pc2 := 14) (L2 := [some (.ref 0), some (.int x1), some (.int x2), o3, o4, o5]) (J2 := []) (st2 := []) (w2 := mkM σ) (fun _ _ => rfl) h (fun h => ?_) (fun h => ?_)
    · cases h
      exact bfr_ret 1 (fun _ _ => rfl)
    · refine bfr_in (i := x2) (m := 7) 4 (pc1 := 20) (L1 := [some (.ref 0), some (.int x1), some (.int x2), o3, o4, o5]) (J1 := []) (st1 := [(.int (sA σ 34 x2))]) (w1 := mkM σ) (fun _ _ => rfl) h (fun h => ?_)
      refine bfr_in (i := x2) (m := 7) 5 (pc1 := 27) (L1 := [some (.ref 0), some (.int x1), some (.int x2), some (.int (sA σ 34 x2)), o4, o5]) (J1 := []) (st1 := [(.int (sA σ 35 x2))]) (w1 := mkM σ) (fun _ _ => rfl) h (fun h => ?_)
      refine bfr_br 1 (pc1 := 62) (L1 := [some (.ref 0), some (.int x1), some (.int x2), some (.int (sA σ 34 x2)), o4, o5]) (J1 := []) (st1 := []) (w1 := mkM σ) (pc2 := 30) (L2 := [some (.ref 0), some (.int x1), some (.int x2), some (.int (sA σ 34 x2)), o4, o5]) (J2 := []) (st2 := []) (w2 := mkM σ) (fun _ _ => rfl) h (fun h => ?_) (fun h => ?_)
      · exact k_m_rowGoes_b62 n d _ q (ih) _ _ _ _ _ _ h
      · refine bfr_run 6 40 [some (.ref 0), some (.int x1), some (.int x2), some (.int (sA σ 34 x2)), o4, o5] [] [(.int ((sI σ 0 40) + ci_1)), (.ref 29)] (mkM σ) (fun _ _ => rfl) ?_
        refine bfr_in (i := (sA σ 34 x2)) (m := 14) 6 (pc1 := 48) (L1 := [some (.ref 0), some (.int x1), some (.int x2), some (.int (sA σ 34 x2)), o4, o5]) (J1 := []) (st1 := [(.int (sA σ 22 (sA σ 34 x2))), (.int (((sI σ 0 40) + ci_1) + x1)), (.ref 29)]) (w1 := mkM σ) (fun _ _ => rfl) h (fun h => ?_)
        refine bfr_in (i := (((sI σ 0 40) + ci_1) + x1)) (m := 2208) 1 (pc1 := 49) (L1 := [some (.ref 0), some (.int x1), some (.int x2), some (.int (sA σ 34 x2)), o4, o5]) (J1 := []) (st1 := []) (w1 := ((mkM σ).set 29 (.inl (0, 2208, upd (σ.2.1 29) ((((sI σ 0 40) + ci_1) + x1)).toNatClampNeg (sA σ 22 (sA σ 34 x2)))))) (fun _ _ => rfl) h (fun h => ?_)
        rw [mkM_A29]
        refine bfr_in (i := (sI (uA σ 29 (((sI σ 0 40) + ci_1) + x1) (sA σ 22 (sA σ 34 x2))) 0 40)) (m := 2208) 6 (pc1 := 59) (L1 := [some (.ref 0), some (.int x1), some (.int x2), some (.int (sA σ 34 x2)), o4, o5]) (J1 := []) (st1 := [(.int (sA (uA σ 29 (((sI σ 0 40) + ci_1) + x1) (sA σ 22 (sA σ 34 x2))) 29 (sI (uA σ 29 (((sI σ 0 40) + ci_1) + x1) (sA σ 22 (sA σ 34 x2))) 0 40))), (.int (sI (uA σ 29 (((sI σ 0 40) + ci_1) + x1) (sA σ 22 (sA σ 34 x2))) 0 40)), (.ref 29)]) (w1 := mkM (uA σ 29 (((sI σ 0 40) + ci_1) + x1) (sA σ 22 (sA σ 34 x2)))) (fun _ _ => rfl) h (fun h => ?_)
        refine bfr_in (i := (sI (uA σ 29 (((sI σ 0 40) + ci_1) + x1) (sA σ 22 (sA σ 34 x2))) 0 40)) (m := 2208) 3 (pc1 := 62) (L1 := [some (.ref 0), some (.int x1), some (.int x2), some (.int (sA σ 34 x2)), o4, o5]) (J1 := []) (st1 := []) (w1 := ((mkM (uA σ 29 (((sI σ 0 40) + ci_1) + x1) (sA σ 22 (sA σ 34 x2)))).set 29 (.inl (0, 2208, upd ((uA σ 29 (((sI σ 0 40) + ci_1) + x1) (sA σ 22 (sA σ 34 x2))).2.1 29) ((sI (uA σ 29 (((sI σ 0 40) + ci_1) + x1) (sA σ 22 (sA σ 34 x2))) 0 40)).toNatClampNeg ((sA (uA σ 29 (((sI σ 0 40) + ci_1) + x1) (sA σ 22 (sA σ 34 x2))) 29 (sI (uA σ 29 (((sI σ 0 40) + ci_1) + x1) (sA σ 22 (sA σ 34 x2))) 0 40)) + ci_1))))) (fun _ _ => rfl) h (fun h => ?_)
        rw [mkM_A29]
        exact k_m_rowGoes_b62 n d _ q (ih) _ _ _ _ _ _ h
set_option maxRecDepth 100000 in
theorem k_m_rowGoes (n d : Nat) (q : bS) (x1 : Int32) (σ : bS) (h : m_rowGoes n x1 σ = some q) : bfr MT (d + 4) M_X12_rowGoes 0 [some (.ref 0), some (.int x1), none, none, none, none] [] [] (mkM σ) (none, mkM q) := by
  unfold m_rowGoes at h
  refine bfr_call 2 (d1 := d + 3) (M1 := M_X12_tries) (vs := [(.ref 0)]) (w1 := mkM σ) (pc2 := 4) (L2 := [some (.ref 0), some (.int x1), none, none, none, none]) (J2 := []) (rest := []) (fun _ => none) (fun a => mkM a) (fun _ _ => rfl) h (fun a ha => k_m_tries n (d + 2) _ _ ha) (fun q4 _ h => ?_)
  refine bfr_run 2 6 [some (.ref 0), some (.int x1), some (.int ci_0), none, none, none] [] [] (mkM q4) (fun _ _ => rfl) ?_
  exact k_m_rowGoes_b6 n d q _ _ _ _ _ _ _ h
set_option maxRecDepth 100000 in
theorem k_m_areHome_b2 (n d : Nat) (q : (Int32 × bS)) : ∀ (k : Nat) (x1 : Int32) (σ : bS), m_areHome_b2 n k x1 σ = some q → bfr MT (d + 2) M_X12_areHome 2 [some (.ref 0), some (.int x1)] [] [] (mkM σ) (some (.int q.1), mkM q.2) := by
  intro k
  induction k with
  | zero => intro x1 σ h; exact bno h
  | succ k ih =>
    intro x1 σ h
    unfold m_areHome_b2 at h
    refine bfr_br 4 (pc1 := 31) (L1 := [some (.ref 0), some (.int x1)]) (J1 := []) (st1 := []) (w1 := mkM σ) (pc2 := 10) (L2 := [some (.ref 0), some (.int x1)]) (J2 := []) (st2 := []) (w2 := mkM σ) (fun _ _ => rfl) h (fun h => ?_) (fun h => ?_)
    · exact bfr_bz (mk := mkM) 2 (fun _ _ => rfl) h
    · refine bfr_in (i := x1) (m := 7) 5 (pc1 := 17) (L1 := [some (.ref 0), some (.int x1)]) (J1 := []) (st1 := [(.int (sA σ 34 x1)), (.ref 0)]) (w1 := mkM σ) (fun _ _ => rfl) h (fun h => ?_)
      refine bfr_call 1 (d1 := d + 1) (M1 := M_X12_isHome) (vs := [(.ref 0), (.int (sA σ 34 x1))]) (w1 := mkM σ) (pc2 := 20) (L2 := [some (.ref 0), some (.int x1)]) (J2 := []) (rest := []) (fun a => some (.int a.1)) (fun a => mkM a.2) (fun _ _ => rfl) h (fun a ha => k_m_isHome n (d + 0) _ _ _ ha) (fun q1 _ h => ?_)
      refine bfr_br 1 (pc1 := 23) (L1 := [some (.ref 0), some (.int x1)]) (J1 := []) (st1 := []) (w1 := mkM q1.2) (pc2 := 25) (L2 := [some (.ref 0), some (.int x1)]) (J2 := []) (st2 := []) (w2 := mkM q1.2) (fun _ _ => rfl) h (fun h => ?_) (fun h => ?_)
      · exact bfr_bz (mk := mkM) 2 (fun _ _ => rfl) h
      · refine bfr_run 1 28 [some (.ref 0), some (.int (x1 + ci_1))] [] [] (mkM q1.2) (fun _ _ => rfl) ?_
        refine bfr_run 1 2 [some (.ref 0), some (.int (x1 + ci_1))] [] [] (mkM q1.2) (fun _ _ => rfl) ?_
        exact ih _ _ h
set_option maxRecDepth 100000 in
theorem k_m_areHome (n d : Nat) (q : (Int32 × bS)) (σ : bS) (h : m_areHome n σ = some q) : bfr MT (d + 2) M_X12_areHome 0 [some (.ref 0), none] [] [] (mkM σ) (some (.int q.1), mkM q.2) := by
  unfold m_areHome at h
  refine bfr_run 2 2 [some (.ref 0), some (.int ci_0)] [] [] (mkM σ) (fun _ _ => rfl) ?_
  exact k_m_areHome_b2 n d q _ _ _ h
set_option maxRecDepth 100000 in
theorem k_m_goodRows_b67 (n d : Nat) (r11 : Int32 → Int32 → Int32 → bS → Option (Int32 × bS)) (q : (Int32 × bS)) (hr11 : ∀ (x1 : Int32) (x3 : Int32) (x4 : Int32) (o2 : Option Value) (o5 : Option Value) (σ : bS), r11 x1 x3 x4 σ = some q → bfr MT (d + 5) M_X12_goodRows 11 [some (.ref 0), some (.int x1), o2, some (.int x3), some (.int x4), o5] [] [] (mkM σ) (some (.int q.1), mkM q.2)) (x1 : Int32) (x3 : Int32) (o2 : Option Value) (o4 : Option Value) (o5 : Option Value) (σ : bS) (h : m_goodRows_b67 n r11 x1 x3 σ = some q) : bfr MT (d + 5) M_X12_goodRows 67 [some (.ref 0), some (.int x1), o2, some (.int x3), o4, o5] [] [] (mkM σ) (some (.int q.1), mkM q.2) := by
  unfold m_goodRows_b67 at h
  refine bfr_call 2 (d1 := d + 4) (M1 := M_X12_turns) (vs := [(.ref 0)]) (w1 := mkM σ) (pc2 := 71) (L2 := [some (.ref 0), some (.int x1), o2, some (.int x3), o4, o5]) (J2 := []) (rest := []) (fun a => some (.int a.1)) (fun a => mkM a.2) (fun _ _ => rfl) h (fun a ha => k_m_turns n (d + 3) _ _ ha) (fun q1 _ h => ?_)
  refine bfr_run 2 11 [some (.ref 0), some (.int x1), o2, some (.int x3), some (.int q1.1), o5] [] [] (mkM q1.2) (fun _ _ => rfl) ?_
  exact hr11 _ _ _ _ _ _ h
set_option maxRecDepth 100000 in
theorem k_m_goodRows_b64 (n d : Nat) (r11 : Int32 → Int32 → Int32 → bS → Option (Int32 × bS)) (q : (Int32 × bS)) (hr11 : ∀ (x1 : Int32) (x3 : Int32) (x4 : Int32) (o2 : Option Value) (o5 : Option Value) (σ : bS), r11 x1 x3 x4 σ = some q → bfr MT (d + 5) M_X12_goodRows 11 [some (.ref 0), some (.int x1), o2, some (.int x3), some (.int x4), o5] [] [] (mkM σ) (some (.int q.1), mkM q.2)) (x1 : Int32) (x3 : Int32) (o2 : Option Value) (o4 : Option Value) (o5 : Option Value) (σ : bS) (h : m_goodRows_b64 n r11 x1 x3 σ = some q) : bfr MT (d + 5) M_X12_goodRows 64 [some (.ref 0), some (.int x1), o2, some (.int x3), o4, o5] [] [] (mkM σ) (some (.int q.1), mkM q.2) := by
  unfold m_goodRows_b64 at h
  refine bfr_run 1 67 [some (.ref 0), some (.int x1), o2, some (.int (x3 + ci_1)), o4, o5] [] [] (mkM σ) (fun _ _ => rfl) ?_
  exact k_m_goodRows_b67 n d _ q hr11 _ _ _ _ _ _ h
set_option maxRecDepth 100000 in
theorem k_m_goodRows_b35 (n d : Nat) (r11 : Int32 → Int32 → Int32 → bS → Option (Int32 × bS)) (q : (Int32 × bS)) (hr11 : ∀ (x1 : Int32) (x3 : Int32) (x4 : Int32) (o2 : Option Value) (o5 : Option Value) (σ : bS), r11 x1 x3 x4 σ = some q → bfr MT (d + 5) M_X12_goodRows 11 [some (.ref 0), some (.int x1), o2, some (.int x3), some (.int x4), o5] [] [] (mkM σ) (some (.int q.1), mkM q.2)) : ∀ (k : Nat) (x1 : Int32) (x3 : Int32) (x5 : Int32) (o2 : Option Value) (o4 : Option Value) (σ : bS), m_goodRows_b35 n r11 k x1 x3 x5 σ = some q → bfr MT (d + 5) M_X12_goodRows 35 [some (.ref 0), some (.int x1), o2, some (.int x3), o4, some (.int x5)] [] [] (mkM σ) (some (.int q.1), mkM q.2) := by
  intro k
  induction k with
  | zero => intro x1 x3 x5 o2 o4 σ h; exact bno h
  | succ k ih =>
    intro x1 x3 x5 o2 o4 σ h
    unfold m_goodRows_b35 at h
    refine bfr_br 4 (pc1 := 64) (L1 := [some (.ref 0), some (.int x1), o2, some (.int x3), o4, some (.int x5)]) (J1 := []) (st1 := []) (w1 := mkM σ) (pc2 := 44) (L2 := [some (.ref 0), some (.int x1), o2, some (.int x3), o4, some (.int x5)]) (J2 := []) (st2 := []) (w2 := mkM σ) (fun _ _ => rfl) h (fun h => ?_) (fun h => ?_)
    · exact k_m_goodRows_b64 n d _ q hr11 _ _ _ _ _ _ h
    · refine bfr_run 6 56 [some (.ref 0), some (.int x1), o2, some (.int x3), o4, some (.int x5)] [] [(.int x5), (.ref 34), (.int x5), (.ref 37)] (mkM σ) (fun _ _ => rfl) ?_
      refine bfr_in (i := x5) (m := 7) 1 (pc1 := 57) (L1 := [some (.ref 0), some (.int x1), o2, some (.int x3), o4, some (.int x5)]) (J1 := []) (st1 := [(.int (sA σ 34 x5)), (.int x5), (.ref 37)]) (w1 := mkM σ) (fun _ _ => rfl) h (fun h => ?_)
      refine bfr_in (i := x5) (m := 7) 1 (pc1 := 58) (L1 := [some (.ref 0), some (.int x1), o2, some (.int x3), o4, some (.int x5)]) (J1 := []) (st1 := []) (w1 := ((mkM σ).set 37 (.inl (0, 7, upd (σ.2.1 37) (x5).toNatClampNeg (sA σ 34 x5))))) (fun _ _ => rfl) h (fun h => ?_)
      rw [mkM_A37]
      refine bfr_run 1 61 [some (.ref 0), some (.int x1), o2, some (.int x3), o4, some (.int (x5 + ci_1))] [] [] (mkM (uA σ 37 x5 (sA σ 34 x5))) (fun _ _ => rfl) ?_
      refine bfr_run 1 35 [some (.ref 0), some (.int x1), o2, some (.int x3), o4, some (.int (x5 + ci_1))] [] [] (mkM (uA σ 37 x5 (sA σ 34 x5))) (fun _ _ => rfl) ?_
      exact ih _ _ _ _ _ _ h
set_option maxRecDepth 100000 in
theorem k_m_goodRows_b11 (n d : Nat) (q : (Int32 × bS)) : ∀ (k : Nat) (x1 : Int32) (x3 : Int32) (x4 : Int32) (o2 : Option Value) (o5 : Option Value) (σ : bS), m_goodRows_b11 n k x1 x3 x4 σ = some q → bfr MT (d + 5) M_X12_goodRows 11 [some (.ref 0), some (.int x1), o2, some (.int x3), some (.int x4), o5] [] [] (mkM σ) (some (.int q.1), mkM q.2) := by
  intro k
  induction k with
  | zero => intro x1 x3 x4 o2 o5 σ h; exact bno h
  | succ k ih =>
    intro x1 x3 x4 o2 o5 σ h
    unfold m_goodRows_b11 at h
    refine bfr_br 2 (pc1 := 76) (L1 := [some (.ref 0), some (.int x1), o2, some (.int x3), some (.int x4), o5]) (J1 := []) (st1 := []) (w1 := mkM σ) (pc2 := 16) (L2 := [some (.ref 0), some (.int x1), o2, some (.int x3), some (.int x4), o5]) (J2 := []) (st2 := []) (w2 := mkM σ) (fun _ _ => rfl) h (fun h => ?_) (fun h => ?_)
    · cases h
      exact bfr_ret 2 (fun _ _ => rfl)
    · refine bfr_call 3 (d1 := d + 4) (M1 := M_X12_rowGoes) (vs := [(.ref 0), (.int x1)]) (w1 := mkM σ) (pc2 := 21) (L2 := [some (.ref 0), some (.int x1), o2, some (.int x3), some (.int x4), o5]) (J2 := []) (rest := []) (fun _ => none) (fun a => mkM a) (fun _ _ => rfl) h (fun a ha => k_m_rowGoes n (d + 0) _ _ _ ha) (fun q2 _ h => ?_)
      refine bfr_call 2 (d1 := d + 4) (M1 := M_X12_areHome) (vs := [(.ref 0)]) (w1 := mkM q2) (pc2 := 25) (L2 := [some (.ref 0), some (.int x1), o2, some (.int x3), some (.int x4), o5]) (J2 := []) (rest := []) (fun a => some (.int a.1)) (fun a => mkM a.2) (fun _ _ => rfl) h (fun a ha => k_m_areHome n (d + 2) _ _ ha) (fun q3 _ h => ?_)
      refine bfr_br 1 (pc1 := 67) (L1 := [some (.ref 0), some (.int x1), o2, some (.int x3), some (.int x4), o5]) (J1 := []) (st1 := []) (w1 := mkM q3.2) (pc2 := 28) (L2 := [some (.ref 0), some (.int x1), o2, some (.int x3), some (.int x4), o5]) (J2 := []) (st2 := []) (w2 := mkM q3.2) (fun _ _ => rfl) h (fun h => ?_) (fun h => ?_)
      · exact k_m_goodRows_b67 n d _ q (ih) _ _ _ _ _ _ h
      · refine bfr_br 2 (pc1 := 32) (L1 := [some (.ref 0), some (.int x1), o2, some (.int x3), some (.int x4), o5]) (J1 := []) (st1 := []) (w1 := mkM q3.2) (pc2 := 64) (L2 := [some (.ref 0), some (.int x1), o2, some (.int x3), some (.int x4), o5]) (J2 := []) (st2 := []) (w2 := mkM q3.2) (fun _ _ => rfl) h (fun h => ?_) (fun h => ?_)
        · refine bfr_run 2 35 [some (.ref 0), some (.int x1), o2, some (.int x3), some (.int x4), some (.int ci_0)] [] [] (mkM q3.2) (fun _ _ => rfl) ?_
          exact k_m_goodRows_b35 n d _ q (ih) _ _ _ _ _ _ _ h
        · exact k_m_goodRows_b64 n d _ q (ih) _ _ _ _ _ _ h
set_option maxRecDepth 100000 in
theorem k_m_goodRows (n d : Nat) (q : (Int32 × bS)) (x1 : Int32) (x2 : Int32) (σ : bS) (h : m_goodRows n x1 x2 σ = some q) : bfr MT (d + 5) M_X12_goodRows 0 [some (.ref 0), some (.int x1), some (.int x2), none, none, none] [] [] (mkM σ) (some (.int q.1), mkM q.2) := by
  unfold m_goodRows at h
  refine bfr_call 6 (d1 := d + 4) (M1 := M_X12_laysRow) (vs := [(.ref 0), (.int x2), (.int ci_0)]) (w1 := mkM σ) (pc2 := 8) (L2 := [some (.ref 0), some (.int x1), some (.int x2), some (.int ci_0), none, none]) (J2 := []) (rest := []) (fun _ => none) (fun a => mkM a) (fun _ _ => rfl) h (fun a ha => k_m_laysRow n (d + 4) _ _ _ _ ha) (fun q4 _ h => ?_)
  refine bfr_run 2 11 [some (.ref 0), some (.int x1), some (.int x2), some (.int ci_0), some (.int ci_1), none] [] [] (mkM q4) (fun _ _ => rfl) ?_
  exact k_m_goodRows_b11 n d q _ _ _ _ _ _ _ h
set_option maxRecDepth 100000 in
theorem k_m_orders_b31 (n d : Nat) (q : (Int32 × bS)) (s0 : Int32) (o0 : Option Value) (o1 : Option Value) (o2 : Option Value) (σ : bS) (h : m_orders_b31 n s0 σ = some q) : bfr MT (d + 6) M_X12_orders 31 [o0, o1, o2] [] [(.int s0)] (mkM σ) (some (.int q.1), mkM q.2) := by
  unfold m_orders_b31 at h
  cases h
  exact bfr_ret 1 (fun _ _ => rfl)
set_option maxRecDepth 100000 in
theorem k_m_orders (n d : Nat) (q : (Int32 × bS)) (x1 : Int32) (x2 : Int32) (σ : bS) (h : m_orders n x1 x2 σ = some q) : bfr MT (d + 6) M_X12_orders 0 [some (.ref 0), some (.int x1), some (.int x2)] [] [] (mkM σ) (some (.int q.1), mkM q.2) := by
  unfold m_orders at h
  refine bfr_call 4 (d1 := d + 5) (M1 := M_X12_isSet) (vs := [(.ref 0), (.int x1), (.int x2)]) (w1 := mkM σ) (pc2 := 6) (L2 := [some (.ref 0), some (.int x1), some (.int x2)]) (J2 := []) (rest := []) (fun a => some (.int a.1)) (fun a => mkM a.2) (fun _ _ => rfl) h (fun a ha => k_m_isSet n (d + 4) _ _ _ _ ha) (fun q1 _ h => ?_)
  refine bfr_br 1 (pc1 := 9) (L1 := [some (.ref 0), some (.int x1), some (.int x2)]) (J1 := []) (st1 := []) (w1 := mkM q1.2) (pc2 := 11) (L2 := [some (.ref 0), some (.int x1), some (.int x2)]) (J2 := []) (st2 := []) (w2 := mkM q1.2) (fun _ _ => rfl) h (fun h => ?_) (fun h => ?_)
  · cases h
    exact bfr_ret 2 (fun _ _ => rfl)
  · refine bfr_call 4 (d1 := d + 5) (M1 := M_X12_areAtFoot) (vs := [(.ref 0), (.int x1), (.int x2)]) (w1 := mkM q1.2) (pc2 := 17) (L2 := [some (.ref 0), some (.int x1), some (.int x2)]) (J2 := []) (rest := []) (fun a => some (.int a.1)) (fun a => mkM a.2) (fun _ _ => rfl) h (fun a ha => k_m_areAtFoot n (d + 3) _ _ _ _ ha) (fun q2 _ h => ?_)
    refine bfr_br 1 (pc1 := 29) (L1 := [some (.ref 0), some (.int x1), some (.int x2)]) (J1 := []) (st1 := []) (w1 := mkM q2.2) (pc2 := 20) (L2 := [some (.ref 0), some (.int x1), some (.int x2)]) (J2 := []) (st2 := []) (w2 := mkM q2.2) (fun _ _ => rfl) h (fun h => ?_) (fun h => ?_)
    · refine bfr_run 1 31 [some (.ref 0), some (.int x1), some (.int x2)] [] [(.int cb_m2)] (mkM q2.2) (fun _ _ => rfl) ?_
      exact k_m_orders_b31 n d q _ _ _ _ _ h
    · refine bfr_call 4 (d1 := d + 5) (M1 := M_X12_goodRows) (vs := [(.ref 0), (.int x1), (.int x2)]) (w1 := mkM q2.2) (pc2 := 26) (L2 := [some (.ref 0), some (.int x1), some (.int x2)]) (J2 := []) (rest := []) (fun a => some (.int a.1)) (fun a => mkM a.2) (fun _ _ => rfl) h (fun a ha => k_m_goodRows n (d + 0) _ _ _ _ ha) (fun q3 _ h => ?_)
      refine bfr_run 1 31 [some (.ref 0), some (.int x1), some (.int x2)] [] [(.int q3.1)] (mkM q3.2) (fun _ _ => rfl) ?_
      exact k_m_orders_b31 n d q _ _ _ _ _ h
set_option maxRecDepth 100000 in
theorem k_m_orderAt_b54 (n d : Nat) (q : (Int32 × bS)) (s0 : Int32) (o0 : Option Value) (o1 : Option Value) (o2 : Option Value) (o3 : Option Value) (σ : bS) (h : m_orderAt_b54 n s0 σ = some q) : bfr MT (d + 6) M_X12_orderAt 54 [o0, o1, o2, o3] [] [(.int s0)] (mkM σ) (some (.int q.1), mkM q.2) := by
  unfold m_orderAt_b54 at h
  cases h
  exact bfr_ret 1 (fun _ _ => rfl)
set_option maxRecDepth 100000 in
theorem k_m_orderAt_b33 (n d : Nat) (q : (Int32 × bS)) (o0 : Option Value) (o1 : Option Value) (o2 : Option Value) (o3 : Option Value) (σ : bS) (h : m_orderAt_b33 n σ = some q) : bfr MT (d + 6) M_X12_orderAt 33 [o0, o1, o2, o3] [] [] (mkM σ) (some (.int q.1), mkM q.2) := by
  unfold m_orderAt_b33 at h
  cases h
  exact bfr_ret 2 (fun _ _ => rfl)
set_option maxRecDepth 100000 in
theorem k_m_orderAt_b13 (n d : Nat) (q : (Int32 × bS)) (o0 : Option Value) (o1 : Option Value) (o2 : Option Value) (o3 : Option Value) (σ : bS) (h : m_orderAt_b13 n σ = some q) : bfr MT (d + 6) M_X12_orderAt 13 [o0, o1, o2, o3] [] [] (mkM σ) (some (.int q.1), mkM q.2) := by
  unfold m_orderAt_b13 at h
  cases h
  exact bfr_ret 2 (fun _ _ => rfl)
set_option maxRecDepth 100000 in
theorem k_m_orderAt (n d : Nat) (q : (Int32 × bS)) (x1 : Int32) (x2 : Int32) (x3 : Int32) (σ : bS) (h : m_orderAt n x1 x2 x3 σ = some q) : bfr MT (d + 6) M_X12_orderAt 0 [some (.ref 0), some (.int x1), some (.int x2), some (.int x3)] [] [] (mkM σ) (some (.int q.1), mkM q.2) := by
  unfold m_orderAt at h
  refine bfr_call 4 (d1 := d + 5) (M1 := M_X12_isSet) (vs := [(.ref 0), (.int x1), (.int x2)]) (w1 := mkM σ) (pc2 := 6) (L2 := [some (.ref 0), some (.int x1), some (.int x2), some (.int x3)]) (J2 := []) (rest := []) (fun a => some (.int a.1)) (fun a => mkM a.2) (fun _ _ => rfl) h (fun a ha => k_m_isSet n (d + 4) _ _ _ _ ha) (fun q1 _ h => ?_)
  refine bfr_br 1 (pc1 := 13) (L1 := [some (.ref 0), some (.int x1), some (.int x2), some (.int x3)]) (J1 := []) (st1 := []) (w1 := mkM q1.2) (pc2 := 9) (L2 := [some (.ref 0), some (.int x1), some (.int x2), some (.int x3)]) (J2 := []) (st2 := []) (w2 := mkM q1.2) (fun _ _ => rfl) h (fun h => ?_) (fun h => ?_)
  · exact k_m_orderAt_b13 n d q _ _ _ _ _ h
  · refine bfr_br 2 (pc1 := 15) (L1 := [some (.ref 0), some (.int x1), some (.int x2), some (.int x3)]) (J1 := []) (st1 := []) (w1 := mkM q1.2) (pc2 := 13) (L2 := [some (.ref 0), some (.int x1), some (.int x2), some (.int x3)]) (J2 := []) (st2 := []) (w2 := mkM q1.2) (fun _ _ => rfl) h (fun h => ?_) (fun h => ?_)
    · refine bfr_call 4 (d1 := d + 5) (M1 := M_X12_areAtFoot) (vs := [(.ref 0), (.int x1), (.int x2)]) (w1 := mkM q1.2) (pc2 := 21) (L2 := [some (.ref 0), some (.int x1), some (.int x2), some (.int x3)]) (J2 := []) (rest := []) (fun a => some (.int a.1)) (fun a => mkM a.2) (fun _ _ => rfl) h (fun a ha => k_m_areAtFoot n (d + 3) _ _ _ _ ha) (fun q2 _ h => ?_)
      refine bfr_br 1 (pc1 := 33) (L1 := [some (.ref 0), some (.int x1), some (.int x2), some (.int x3)]) (J1 := []) (st1 := []) (w1 := mkM q2.2) (pc2 := 24) (L2 := [some (.ref 0), some (.int x1), some (.int x2), some (.int x3)]) (J2 := []) (st2 := []) (w2 := mkM q2.2) (fun _ _ => rfl) h (fun h => ?_) (fun h => ?_)
      · exact k_m_orderAt_b33 n d q _ _ _ _ _ h
      · refine bfr_call 4 (d1 := d + 5) (M1 := M_X12_goodRows) (vs := [(.ref 0), (.int x1), (.int x2)]) (w1 := mkM q2.2) (pc2 := 30) (L2 := [some (.ref 0), some (.int x1), some (.int x2), some (.int x3)]) (J2 := []) (rest := []) (fun a => some (.int a.1)) (fun a => mkM a.2) (fun _ _ => rfl) h (fun a ha => k_m_goodRows n (d + 0) _ _ _ _ ha) (fun q3 _ h => ?_)
        refine bfr_br 1 (pc1 := 33) (L1 := [some (.ref 0), some (.int x1), some (.int x2), some (.int x3)]) (J1 := []) (st1 := []) (w1 := mkM q3.2) (pc2 := 36) (L2 := [some (.ref 0), some (.int x1), some (.int x2), some (.int x3)]) (J2 := []) (st2 := []) (w2 := mkM q3.2) (fun _ _ => rfl) h (fun h => ?_) (fun h => ?_)
        · exact k_m_orderAt_b33 n d q _ _ _ _ _ h
        · refine bfr_br 4 (pc1 := 53) (L1 := [some (.ref 0), some (.int x1), some (.int x2), some (.int x3)]) (J1 := []) (st1 := []) (w1 := mkM q3.2) (pc2 := 44) (L2 := [some (.ref 0), some (.int x1), some (.int x2), some (.int x3)]) (J2 := []) (st2 := []) (w2 := mkM q3.2) (fun _ _ => rfl) h (fun h => ?_) (fun h => ?_)
          · refine bfr_run 1 54 [some (.ref 0), some (.int x1), some (.int x2), some (.int x3)] [] [(.int ci_m1)] (mkM q3.2) (fun _ _ => rfl) ?_
            exact k_m_orderAt_b54 n d q _ _ _ _ _ _ h
          · refine bfr_in (i := x3) (m := 7) 4 (pc1 := 50) (L1 := [some (.ref 0), some (.int x1), some (.int x2), some (.int x3)]) (J1 := []) (st1 := [(.int (sA q3.2 37 x3))]) (w1 := mkM q3.2) (fun _ _ => rfl) h (fun h => ?_)
            refine bfr_run 1 54 [some (.ref 0), some (.int x1), some (.int x2), some (.int x3)] [] [(.int (sA q3.2 37 x3))] (mkM q3.2) (fun _ _ => rfl) ?_
            exact k_m_orderAt_b54 n d q _ _ _ _ _ _ h
    · exact k_m_orderAt_b13 n d q _ _ _ _ _ h
set_option maxRecDepth 100000 in
theorem k_m_ones_b4 (n d : Nat) (q : (Int32 × bS)) : ∀ (k : Nat) (x0 : Int32) (x1 : Int32) (x2 : Int32) (σ : bS), m_ones_b4 n k x0 x1 x2 σ = some q → bfr MT (d + 0) M_X12_ones 4 [some (.int x0), some (.int x1), some (.int x2)] [] [] (mkM σ) (some (.int q.1), mkM q.2) := by
  intro k
  induction k with
  | zero => intro x0 x1 x2 σ h; exact bno h
  | succ k ih =>
    intro x0 x1 x2 σ h
    unfold m_ones_b4 at h
    refine bfr_br 3 (pc1 := 24) (L1 := [some (.int x0), some (.int x1), some (.int x2)]) (J1 := []) (st1 := []) (w1 := mkM σ) (pc2 := 10) (L2 := [some (.int x0), some (.int x1), some (.int x2)]) (J2 := []) (st2 := []) (w2 := mkM σ) (fun _ _ => rfl) h (fun h => ?_) (fun h => ?_)
    · cases h
      exact bfr_ret 2 (fun _ _ => rfl)
    · refine bfr_run 6 16 [some (.int x0), some (.int x1), some (.int x2)] [] [(.int ((x0 >>> (x2 &&& 31)) &&& ci_1)), (.int x1)] (mkM σ) (fun _ _ => rfl) ?_
      refine bfr_run 3 21 [some (.int x0), some (.int (x1 + ((x0 >>> (x2 &&& 31)) &&& ci_1))), some (.int (x2 + ci_1))] [] [] (mkM σ) (fun _ _ => rfl) ?_
      refine bfr_run 1 4 [some (.int x0), some (.int (x1 + ((x0 >>> (x2 &&& 31)) &&& ci_1))), some (.int (x2 + ci_1))] [] [] (mkM σ) (fun _ _ => rfl) ?_
      exact ih _ _ _ _ h
set_option maxRecDepth 100000 in
theorem k_m_ones (n d : Nat) (q : (Int32 × bS)) (x0 : Int32) (σ : bS) (h : m_ones n x0 σ = some q) : bfr MT (d + 0) M_X12_ones 0 [some (.int x0), none, none] [] [] (mkM σ) (some (.int q.1), mkM q.2) := by
  unfold m_ones at h
  refine bfr_run 4 4 [some (.int x0), some (.int ci_0), some (.int ci_0)] [] [] (mkM σ) (fun _ _ => rfl) ?_
  exact k_m_ones_b4 n d q _ _ _ _ _ h
set_option maxRecDepth 100000 in
theorem k_m_goodBy_b36 (n d : Nat) (r2 : Int32 → Int32 → Int32 → bS → Option (Int32 × bS)) (q : (Int32 × bS)) (hr2 : ∀ (x1 : Int32) (x2 : Int32) (x3 : Int32) (σ : bS), r2 x1 x2 x3 σ = some q → bfr MT (d + 5) M_X12_goodBy 2 [some (.ref 0), some (.int x1), some (.int x2), some (.int x3)] [] [] (mkM σ) (some (.int q.1), mkM q.2)) (x1 : Int32) (x2 : Int32) (x3 : Int32) (s1 : Int32) (s2 : Int32) (σ : bS) (h : m_goodBy_b36 n r2 x1 x2 x3 s1 s2 σ = some q) : bfr MT (d + 5) M_X12_goodBy 36 [some (.ref 0), some (.int x1), some (.int x2), some (.int x3)] [] [(.int s2), (.int s1), (.ref 35)] (mkM σ) (some (.int q.1), mkM q.2) := by
  unfold m_goodBy_b36 at h
  refine bfr_in (i := s1) (m := 7) 1 (pc1 := 37) (L1 := [some (.ref 0), some (.int x1), some (.int x2), some (.int x3)]) (J1 := []) (st1 := []) (w1 := ((mkM σ).set 35 (.inl (2, 7, upd (σ.2.1 35) (s1).toNatClampNeg (vp_nar .boolean s2))))) (fun _ _ => rfl) h (fun h => ?_)
  rw [mkM_A35]
  refine bfr_run 1 40 [some (.ref 0), some (.int x1), some (.int x2), some (.int (x3 + ci_1))] [] [] (mkM (uA σ 35 s1 (vp_nar .boolean s2))) (fun _ _ => rfl) ?_
  refine bfr_run 1 2 [some (.ref 0), some (.int x1), some (.int x2), some (.int (x3 + ci_1))] [] [] (mkM (uA σ 35 s1 (vp_nar .boolean s2))) (fun _ _ => rfl) ?_
  exact hr2 _ _ _ _ h
set_option maxRecDepth 100000 in
theorem k_m_goodBy_b24 (n d : Nat) (r2 : Int32 → Int32 → Int32 → bS → Option (Int32 × bS)) (q : (Int32 × bS)) (hr2 : ∀ (x1 : Int32) (x2 : Int32) (x3 : Int32) (σ : bS), r2 x1 x2 x3 σ = some q → bfr MT (d + 5) M_X12_goodBy 2 [some (.ref 0), some (.int x1), some (.int x2), some (.int x3)] [] [] (mkM σ) (some (.int q.1), mkM q.2)) (x1 : Int32) (x2 : Int32) (x3 : Int32) (s1 : Int32) (s2 : Int32) (s3 : Int32) (σ : bS) (h : m_goodBy_b24 n r2 x1 x2 x3 s1 s2 s3 σ = some q) : bfr MT (d + 5) M_X12_goodBy 24 [some (.ref 0), some (.int x1), some (.int x2), some (.int x3)] [] [(.int s3), (.int s2), (.int s1), (.ref 35)] (mkM σ) (some (.int q.1), mkM q.2) := by
  unfold m_goodBy_b24 at h
  refine bfr_br 5 (pc1 := 31) (L1 := [some (.ref 0), some (.int x1), some (.int x2), some (.int x3)]) (J1 := []) (st1 := [(.int s1), (.ref 35)]) (w1 := mkM σ) (pc2 := 35) (L2 := [some (.ref 0), some (.int x1), some (.int x2), some (.int x3)]) (J2 := []) (st2 := [(.int s1), (.ref 35)]) (w2 := mkM σ) (fun _ _ => rfl) h (fun h => ?_) (fun h => ?_)
  · refine bfr_run 2 36 [some (.ref 0), some (.int x1), some (.int x2), some (.int x3)] [] [(.int ci_1), (.int s1), (.ref 35)] (mkM σ) (fun _ _ => rfl) ?_
    exact k_m_goodBy_b36 n d _ q hr2 _ _ _ _ _ _ h
  · refine bfr_run 1 36 [some (.ref 0), some (.int x1), some (.int x2), some (.int x3)] [] [(.int ci_0), (.int s1), (.ref 35)] (mkM σ) (fun _ _ => rfl) ?_
    exact k_m_goodBy_b36 n d _ q hr2 _ _ _ _ _ _ h
set_option maxRecDepth 100000 in
theorem k_m_goodBy_b22 (n d : Nat) (r2 : Int32 → Int32 → Int32 → bS → Option (Int32 × bS)) (q : (Int32 × bS)) (hr2 : ∀ (x1 : Int32) (x2 : Int32) (x3 : Int32) (σ : bS), r2 x1 x2 x3 σ = some q → bfr MT (d + 5) M_X12_goodBy 2 [some (.ref 0), some (.int x1), some (.int x2), some (.int x3)] [] [] (mkM σ) (some (.int q.1), mkM q.2)) (x1 : Int32) (x2 : Int32) (x3 : Int32) (s1 : Int32) (s2 : Int32) (s3 : Int32) (σ : bS) (h : m_goodBy_b22 n r2 x1 x2 x3 s1 s2 s3 σ = some q) : bfr MT (d + 5) M_X12_goodBy 22 [some (.ref 0), some (.int x1), some (.int x2), some (.int x3)] [] [(.int s3), (.int s2), (.int s1), (.ref 35)] (mkM σ) (some (.int q.1), mkM q.2) := by
  unfold m_goodBy_b22 at h
  refine bfr_run 2 24 [some (.ref 0), some (.int x1), some (.int x2), some (.int x3)] [] [(.int (s3 - x3)), (.int s2), (.int s1), (.ref 35)] (mkM σ) (fun _ _ => rfl) ?_
  exact k_m_goodBy_b24 n d _ q hr2 _ _ _ _ _ _ _ h
set_option maxRecDepth 100000 in
theorem k_m_goodBy_b2 (n d : Nat) (q : (Int32 × bS)) : ∀ (k : Nat) (x1 : Int32) (x2 : Int32) (x3 : Int32) (σ : bS), m_goodBy_b2 n k x1 x2 x3 σ = some q → bfr MT (d + 5) M_X12_goodBy 2 [some (.ref 0), some (.int x1), some (.int x2), some (.int x3)] [] [] (mkM σ) (some (.int q.1), mkM q.2) := by
  intro k
  induction k with
  | zero => intro x1 x2 x3 σ h; exact bno h
  | succ k ih =>
    intro x1 x2 x3 σ h
    unfold m_goodBy_b2 at h
    refine bfr_br 4 (pc1 := 43) (L1 := [some (.ref 0), some (.int x1), some (.int x2), some (.int x3)]) (J1 := []) (st1 := []) (w1 := mkM σ) (pc2 := 10) (L2 := [some (.ref 0), some (.int x1), some (.int x2), some (.int x3)]) (J2 := []) (st2 := []) (w2 := mkM σ) (fun _ _ => rfl) h (fun h => ?_) (fun h => ?_)
    · refine bfr_call 3 (d1 := d + 4) (M1 := M_X12_rowGoes) (vs := [(.ref 0), (.int x1)]) (w1 := mkM σ) (pc2 := 48) (L2 := [some (.ref 0), some (.int x1), some (.int x2), some (.int x3)]) (J2 := []) (rest := []) (fun _ => none) (fun a => mkM a) (fun _ _ => rfl) h (fun a ha => k_m_rowGoes n (d + 0) _ _ _ ha) (fun q1 _ h => ?_)
      refine bfr_call 2 (d1 := d + 4) (M1 := M_X12_areHome) (vs := [(.ref 0)]) (w1 := mkM q1) (pc2 := 52) (L2 := [some (.ref 0), some (.int x1), some (.int x2), some (.int x3)]) (J2 := []) (rest := []) (fun a => some (.int a.1)) (fun a => mkM a.2) (fun _ _ => rfl) h (fun a ha => k_m_areHome n (d + 2) _ _ ha) (fun q2 _ h => ?_)
      exact bfr_bz (mk := mkM) 1 (fun _ _ => rfl) h
    · refine bfr_run 6 20 [some (.ref 0), some (.int x1), some (.int x2), some (.int x3)] [] [(.int (sI σ 0 49)), (.int x2), (.int x3), (.ref 35)] (mkM σ) (fun _ _ => rfl) ?_
      refine bfr_run 2 22 [some (.ref 0), some (.int x1), some (.int x2), some (.int x3)] [] [(.int ((sI σ 0 49) - ci_1)), (.int x2), (.int x3), (.ref 35)] (mkM σ) (fun _ _ => rfl) ?_
      exact k_m_goodBy_b22 n d _ q (ih) _ _ _ _ _ _ _ h
set_option maxRecDepth 100000 in
theorem k_m_goodBy (n d : Nat) (q : (Int32 × bS)) (x1 : Int32) (x2 : Int32) (σ : bS) (h : m_goodBy n x1 x2 σ = some q) : bfr MT (d + 5) M_X12_goodBy 0 [some (.ref 0), some (.int x1), some (.int x2), none] [] [] (mkM σ) (some (.int q.1), mkM q.2) := by
  unfold m_goodBy at h
  refine bfr_run 2 2 [some (.ref 0), some (.int x1), some (.int x2), some (.int ci_0)] [] [] (mkM σ) (fun _ _ => rfl) ?_
  exact k_m_goodBy_b2 n d q _ _ _ _ _ h
set_option maxRecDepth 100000 in
theorem k_m_rowWith_b55 (n d : Nat) (r9 : Int32 → Int32 → Int32 → bS → Option (Int32 × bS)) (r17 : Int32 → Int32 → Int32 → bS → Option (Int32 × bS)) (q : (Int32 × bS)) (hr9 : ∀ (x1 : Int32) (x3 : Int32) (x4 : Int32) (o2 : Option Value) (o5 : Option Value) (σ : bS), r9 x1 x3 x4 σ = some q → bfr MT (d + 6) M_X12_rowWith 9 [some (.ref 0), some (.int x1), o2, some (.int x3), some (.int x4), o5] [] [] (mkM σ) (some (.int q.1), mkM q.2)) (hr17 : ∀ (x1 : Int32) (x3 : Int32) (x5 : Int32) (o2 : Option Value) (o4 : Option Value) (σ : bS), r17 x1 x3 x5 σ = some q → bfr MT (d + 6) M_X12_rowWith 17 [some (.ref 0), some (.int x1), o2, some (.int x3), o4, some (.int x5)] [] [] (mkM σ) (some (.int q.1), mkM q.2)) (x1 : Int32) (x3 : Int32) (x5 : Int32) (o2 : Option Value) (o4 : Option Value) (σ : bS) (h : m_rowWith_b55 n r9 r17 x1 x3 x5 σ = some q) : bfr MT (d + 6) M_X12_rowWith 55 [some (.ref 0), some (.int x1), o2, some (.int x3), o4, some (.int x5)] [] [] (mkM σ) (some (.int q.1), mkM q.2) := by
  unfold m_rowWith_b55 at h
  refine bfr_run 1 58 [some (.ref 0), some (.int x1), o2, some (.int x3), o4, some (.int (x5 + ci_1))] [] [] (mkM σ) (fun _ _ => rfl) ?_
  refine bfr_run 1 17 [some (.ref 0), some (.int x1), o2, some (.int x3), o4, some (.int (x5 + ci_1))] [] [] (mkM σ) (fun _ _ => rfl) ?_
  exact hr17 _ _ _ _ _ _ h
set_option maxRecDepth 100000 in
theorem k_m_rowWith_b17 (n d : Nat) (r9 : Int32 → Int32 → Int32 → bS → Option (Int32 × bS)) (q : (Int32 × bS)) (hr9 : ∀ (x1 : Int32) (x3 : Int32) (x4 : Int32) (o2 : Option Value) (o5 : Option Value) (σ : bS), r9 x1 x3 x4 σ = some q → bfr MT (d + 6) M_X12_rowWith 9 [some (.ref 0), some (.int x1), o2, some (.int x3), some (.int x4), o5] [] [] (mkM σ) (some (.int q.1), mkM q.2)) : ∀ (k : Nat) (x1 : Int32) (x3 : Int32) (x5 : Int32) (o2 : Option Value) (o4 : Option Value) (σ : bS), m_rowWith_b17 n r9 k x1 x3 x5 σ = some q → bfr MT (d + 6) M_X12_rowWith 17 [some (.ref 0), some (.int x1), o2, some (.int x3), o4, some (.int x5)] [] [] (mkM σ) (some (.int q.1), mkM q.2) := by
  intro k
  induction k with
  | zero => intro x1 x3 x5 o2 o4 σ h; exact bno h
  | succ k ih =>
    intro x1 x3 x5 o2 o4 σ h
    unfold m_rowWith_b17 at h
    refine bfr_br 6 (pc1 := 61) (L1 := [some (.ref 0), some (.int x1), o2, some (.int x3), o4, some (.int x5)]) (J1 := []) (st1 := []) (w1 := mkM σ) (pc2 := 28) (L2 := [some (.ref 0), some (.int x1), o2, some (.int x3), o4, some (.int x5)]) (J2 := []) (st2 := []) (w2 := mkM σ) (fun _ _ => rfl) h (fun h => ?_) (fun h => ?_)
    · refine bfr_call 2 (d1 := d + 5) (M1 := M_X12_turns) (vs := [(.ref 0)]) (w1 := mkM σ) (pc2 := 65) (L2 := [some (.ref 0), some (.int x1), o2, some (.int x3), o4, some (.int x5)]) (J2 := []) (rest := []) (fun a => some (.int a.1)) (fun a => mkM a.2) (fun _ _ => rfl) h (fun a ha => k_m_turns n (d + 4) _ _ ha) (fun q1 _ h => ?_)
      refine bfr_run 2 9 [some (.ref 0), some (.int x1), o2, some (.int x3), some (.int q1.1), some (.int x5)] [] [] (mkM q1.2) (fun _ _ => rfl) ?_
      exact hr9 _ _ _ _ _ _ h
    · refine bfr_call 2 (d1 := d + 5) (M1 := M_X12_ones) (vs := [(.int x5)]) (w1 := mkM σ) (pc2 := 33) (L2 := [some (.ref 0), some (.int x1), o2, some (.int x3), o4, some (.int x5)]) (J2 := []) (rest := []) (fun a => some (.int a.1)) (fun a => mkM a.2) (fun _ _ => rfl) h (fun a ha => k_m_ones n (d + 5) _ _ _ ha) (fun q2 _ h => ?_)
      refine bfr_br 2 (pc1 := 37) (L1 := [some (.ref 0), some (.int x1), o2, some (.int x3), o4, some (.int x5)]) (J1 := []) (st1 := []) (w1 := mkM q2.2) (pc2 := 55) (L2 := [some (.ref 0), some (.int x1), o2, some (.int x3), o4, some (.int x5)]) (J2 := []) (st2 := []) (w2 := mkM q2.2) (fun _ _ => rfl) h (fun h => ?_) (fun h => ?_)
      · refine bfr_call 4 (d1 := d + 5) (M1 := M_X12_goodBy) (vs := [(.ref 0), (.int x1), (.int x5)]) (w1 := mkM q2.2) (pc2 := 44) (L2 := [some (.ref 0), some (.int x1), o2, some (.int x3), o4, some (.int x5)]) (J2 := []) (rest := []) (fun a => some (.int a.1)) (fun a => mkM a.2) (fun _ _ => rfl) h (fun a ha => k_m_goodBy n (d + 0) _ _ _ _ ha) (fun q3 _ h => ?_)
        refine bfr_br 1 (pc1 := 55) (L1 := [some (.ref 0), some (.int x1), o2, some (.int x3), o4, some (.int x5)]) (J1 := []) (st1 := []) (w1 := mkM q3.2) (pc2 := 47) (L2 := [some (.ref 0), some (.int x1), o2, some (.int x3), o4, some (.int x5)]) (J2 := []) (st2 := []) (w2 := mkM q3.2) (fun _ _ => rfl) h (fun h => ?_) (fun h => ?_)
        · exact k_m_rowWith_b55 n d _ _ q hr9 (ih) _ _ _ _ _ _ h
        · refine bfr_run 3 53 [some (.ref 0), some (.int x1), o2, some (.int x3), o4, some (.int x5)] [] [] ((mkM q3.2).set 0 (.inr (.inr (12, (mkM_0 q3.2).set 55 (.int x5))))) (fun _ _ => rfl) ?_
          rw [mkM_I0_55]
          exact bfr_bz (mk := mkM) 2 (fun _ _ => rfl) h
      · exact k_m_rowWith_b55 n d _ _ q hr9 (ih) _ _ _ _ _ _ h
set_option maxRecDepth 100000 in
theorem k_m_rowWith_b9 (n d : Nat) (q : (Int32 × bS)) : ∀ (k : Nat) (x1 : Int32) (x3 : Int32) (x4 : Int32) (o2 : Option Value) (o5 : Option Value) (σ : bS), m_rowWith_b9 n k x1 x3 x4 σ = some q → bfr MT (d + 6) M_X12_rowWith 9 [some (.ref 0), some (.int x1), o2, some (.int x3), some (.int x4), o5] [] [] (mkM σ) (some (.int q.1), mkM q.2) := by
  intro k
  induction k with
  | zero => intro x1 x3 x4 o2 o5 σ h; exact bno h
  | succ k ih =>
    intro x1 x3 x4 o2 o5 σ h
    unfold m_rowWith_b9 at h
    refine bfr_br 2 (pc1 := 70) (L1 := [some (.ref 0), some (.int x1), o2, some (.int x3), some (.int x4), o5]) (J1 := []) (st1 := []) (w1 := mkM σ) (pc2 := 14) (L2 := [some (.ref 0), some (.int x1), o2, some (.int x3), some (.int x4), o5]) (J2 := []) (st2 := []) (w2 := mkM σ) (fun _ _ => rfl) h (fun h => ?_) (fun h => ?_)
    · exact bfr_bz (mk := mkM) 2 (fun _ _ => rfl) h
    · refine bfr_run 2 17 [some (.ref 0), some (.int x1), o2, some (.int x3), some (.int x4), some (.int ci_0)] [] [] (mkM σ) (fun _ _ => rfl) ?_
      exact k_m_rowWith_b17 n d _ q (ih) _ _ _ _ _ _ _ h
set_option maxRecDepth 100000 in
theorem k_m_rowWith (n d : Nat) (q : (Int32 × bS)) (x1 : Int32) (x2 : Int32) (x3 : Int32) (σ : bS) (h : m_rowWith n x1 x2 x3 σ = some q) : bfr MT (d + 6) M_X12_rowWith 0 [some (.ref 0), some (.int x1), some (.int x2), some (.int x3), none, none] [] [] (mkM σ) (some (.int q.1), mkM q.2) := by
  unfold m_rowWith at h
  refine bfr_call 4 (d1 := d + 5) (M1 := M_X12_laysRow) (vs := [(.ref 0), (.int x2), (.int ci_0)]) (w1 := mkM σ) (pc2 := 6) (L2 := [some (.ref 0), some (.int x1), some (.int x2), some (.int x3), none, none]) (J2 := []) (rest := []) (fun _ => none) (fun a => mkM a) (fun _ _ => rfl) h (fun a ha => k_m_laysRow n (d + 5) _ _ _ _ ha) (fun q4 _ h => ?_)
  refine bfr_run 2 9 [some (.ref 0), some (.int x1), some (.int x2), some (.int x3), some (.int ci_1), none] [] [] (mkM q4) (fun _ _ => rfl) ?_
  exact k_m_rowWith_b9 n d q _ _ _ _ _ _ _ h
set_option maxRecDepth 100000 in
theorem k_m_fewestHired_b2 (n d : Nat) (q : (Int32 × bS)) : ∀ (k : Nat) (x1 : Int32) (x2 : Int32) (x3 : Int32) (σ : bS), m_fewestHired_b2 n k x1 x2 x3 σ = some q → bfr MT (d + 7) M_X12_fewestHired 2 [some (.ref 0), some (.int x1), some (.int x2), some (.int x3)] [] [] (mkM σ) (some (.int q.1), mkM q.2) := by
  intro k
  induction k with
  | zero => intro x1 x2 x3 σ h; exact bno h
  | succ k ih =>
    intro x1 x2 x3 σ h
    unfold m_fewestHired_b2 at h
    refine bfr_call 5 (d1 := d + 6) (M1 := M_X12_rowWith) (vs := [(.ref 0), (.int x1), (.int x2), (.int x3)]) (w1 := mkM σ) (pc2 := 9) (L2 := [some (.ref 0), some (.int x1), some (.int x2), some (.int x3)]) (J2 := []) (rest := []) (fun a => some (.int a.1)) (fun a => mkM a.2) (fun _ _ => rfl) h (fun a ha => k_m_rowWith n (d + 0) _ _ _ _ _ ha) (fun q1 _ h => ?_)
    refine bfr_br 1 (pc1 := 12) (L1 := [some (.ref 0), some (.int x1), some (.int x2), some (.int x3)]) (J1 := []) (st1 := []) (w1 := mkM q1.2) (pc2 := 18) (L2 := [some (.ref 0), some (.int x1), some (.int x2), some (.int x3)]) (J2 := []) (st2 := []) (w2 := mkM q1.2) (fun _ _ => rfl) h (fun h => ?_) (fun h => ?_)
    · refine bfr_run 1 15 [some (.ref 0), some (.int x1), some (.int x2), some (.int (x3 + ci_1))] [] [] (mkM q1.2) (fun _ _ => rfl) ?_
      refine bfr_run 1 2 [some (.ref 0), some (.int x1), some (.int x2), some (.int (x3 + ci_1))] [] [] (mkM q1.2) (fun _ _ => rfl) ?_
      exact ih _ _ _ _ h
    · cases h
      exact bfr_ret 2 (fun _ _ => rfl)
set_option maxRecDepth 100000 in
theorem k_m_fewestHired (n d : Nat) (q : (Int32 × bS)) (x1 : Int32) (x2 : Int32) (σ : bS) (h : m_fewestHired n x1 x2 σ = some q) : bfr MT (d + 7) M_X12_fewestHired 0 [some (.ref 0), some (.int x1), some (.int x2), none] [] [] (mkM σ) (some (.int q.1), mkM q.2) := by
  unfold m_fewestHired at h
  refine bfr_run 2 2 [some (.ref 0), some (.int x1), some (.int x2), some (.int ci_0)] [] [] (mkM σ) (fun _ _ => rfl) ?_
  exact k_m_fewestHired_b2 n d q _ _ _ _ _ h
set_option maxRecDepth 100000 in
theorem k_m_wishers_b31 (n d : Nat) (q : (Int32 × bS)) (s0 : Int32) (o0 : Option Value) (o1 : Option Value) (o2 : Option Value) (σ : bS) (h : m_wishers_b31 n s0 σ = some q) : bfr MT (d + 8) M_X12_wishers 31 [o0, o1, o2] [] [(.int s0)] (mkM σ) (some (.int q.1), mkM q.2) := by
  unfold m_wishers_b31 at h
  cases h
  exact bfr_ret 1 (fun _ _ => rfl)
set_option maxRecDepth 100000 in
theorem k_m_wishers (n d : Nat) (q : (Int32 × bS)) (x1 : Int32) (x2 : Int32) (σ : bS) (h : m_wishers n x1 x2 σ = some q) : bfr MT (d + 8) M_X12_wishers 0 [some (.ref 0), some (.int x1), some (.int x2)] [] [] (mkM σ) (some (.int q.1), mkM q.2) := by
  unfold m_wishers at h
  refine bfr_call 4 (d1 := d + 7) (M1 := M_X12_isSet) (vs := [(.ref 0), (.int x1), (.int x2)]) (w1 := mkM σ) (pc2 := 6) (L2 := [some (.ref 0), some (.int x1), some (.int x2)]) (J2 := []) (rest := []) (fun a => some (.int a.1)) (fun a => mkM a.2) (fun _ _ => rfl) h (fun a ha => k_m_isSet n (d + 6) _ _ _ _ ha) (fun q1 _ h => ?_)
  refine bfr_br 1 (pc1 := 9) (L1 := [some (.ref 0), some (.int x1), some (.int x2)]) (J1 := []) (st1 := []) (w1 := mkM q1.2) (pc2 := 11) (L2 := [some (.ref 0), some (.int x1), some (.int x2)]) (J2 := []) (st2 := []) (w2 := mkM q1.2) (fun _ _ => rfl) h (fun h => ?_) (fun h => ?_)
  · cases h
    exact bfr_ret 2 (fun _ _ => rfl)
  · refine bfr_call 4 (d1 := d + 7) (M1 := M_X12_areAtFoot) (vs := [(.ref 0), (.int x1), (.int x2)]) (w1 := mkM q1.2) (pc2 := 17) (L2 := [some (.ref 0), some (.int x1), some (.int x2)]) (J2 := []) (rest := []) (fun a => some (.int a.1)) (fun a => mkM a.2) (fun _ _ => rfl) h (fun a ha => k_m_areAtFoot n (d + 5) _ _ _ _ ha) (fun q2 _ h => ?_)
    refine bfr_br 1 (pc1 := 29) (L1 := [some (.ref 0), some (.int x1), some (.int x2)]) (J1 := []) (st1 := []) (w1 := mkM q2.2) (pc2 := 20) (L2 := [some (.ref 0), some (.int x1), some (.int x2)]) (J2 := []) (st2 := []) (w2 := mkM q2.2) (fun _ _ => rfl) h (fun h => ?_) (fun h => ?_)
    · refine bfr_run 1 31 [some (.ref 0), some (.int x1), some (.int x2)] [] [(.int cb_m2)] (mkM q2.2) (fun _ _ => rfl) ?_
      exact k_m_wishers_b31 n d q _ _ _ _ _ h
    · refine bfr_call 4 (d1 := d + 7) (M1 := M_X12_fewestHired) (vs := [(.ref 0), (.int x1), (.int x2)]) (w1 := mkM q2.2) (pc2 := 26) (L2 := [some (.ref 0), some (.int x1), some (.int x2)]) (J2 := []) (rest := []) (fun a => some (.int a.1)) (fun a => mkM a.2) (fun _ _ => rfl) h (fun a ha => k_m_fewestHired n (d + 0) _ _ _ _ ha) (fun q3 _ h => ?_)
      refine bfr_run 1 31 [some (.ref 0), some (.int x1), some (.int x2)] [] [(.int q3.1)] (mkM q3.2) (fun _ _ => rfl) ?_
      exact k_m_wishers_b31 n d q _ _ _ _ _ h
set_option maxRecDepth 100000 in
theorem k_m_wisherAt_b72 (n d : Nat) (q : (Int32 × bS)) (s0 : Int32) (o0 : Option Value) (o1 : Option Value) (o2 : Option Value) (o3 : Option Value) (o4 : Option Value) (σ : bS) (h : m_wisherAt_b72 n s0 σ = some q) : bfr MT (d + 8) M_X12_wisherAt 72 [o0, o1, o2, o3, o4] [] [(.int s0)] (mkM σ) (some (.int q.1), mkM q.2) := by
  unfold m_wisherAt_b72 at h
  cases h
  exact bfr_ret 1 (fun _ _ => rfl)
set_option maxRecDepth 100000 in
theorem k_m_wisherAt_b65 (n d : Nat) (q : (Int32 × bS)) (s0 : Int32) (s1 : Int32) (s2 : Int32) (o0 : Option Value) (o1 : Option Value) (o2 : Option Value) (o3 : Option Value) (o4 : Option Value) (σ : bS) (h : m_wisherAt_b65 n s0 s1 s2 σ = some q) : bfr MT (d + 8) M_X12_wisherAt 65 [o0, o1, o2, o3, o4] [] [(.int s2), (.int s1), (.int s0)] (mkM σ) (some (.int q.1), mkM q.2) := by
  unfold m_wisherAt_b65 at h
  refine bfr_run 6 72 [o0, o1, o2, o3, o4] [] [(.int (s0 + (((s1 >>> (s2 &&& 31)) &&& ci_1) * cb_100)))] (mkM σ) (fun _ _ => rfl) ?_
  exact k_m_wisherAt_b72 n d q _ _ _ _ _ _ _ h
set_option maxRecDepth 100000 in
theorem k_m_wisherAt_b63 (n d : Nat) (q : (Int32 × bS)) (x3 : Int32) (s0 : Int32) (s1 : Int32) (s2 : Int32) (o0 : Option Value) (o1 : Option Value) (o2 : Option Value) (o4 : Option Value) (σ : bS) (h : m_wisherAt_b63 n x3 s0 s1 s2 σ = some q) : bfr MT (d + 8) M_X12_wisherAt 63 [o0, o1, o2, some (.int x3), o4] [] [(.int s2), (.int s1), (.int s0)] (mkM σ) (some (.int q.1), mkM q.2) := by
  unfold m_wisherAt_b63 at h
  refine bfr_run 2 65 [o0, o1, o2, some (.int x3), o4] [] [(.int (s2 - x3)), (.int s1), (.int s0)] (mkM σ) (fun _ _ => rfl) ?_
  exact k_m_wisherAt_b65 n d q _ _ _ _ _ _ _ _ _ h
set_option maxRecDepth 100000 in
theorem k_m_wisherAt_b13 (n d : Nat) (q : (Int32 × bS)) (o0 : Option Value) (o1 : Option Value) (o2 : Option Value) (o3 : Option Value) (o4 : Option Value) (σ : bS) (h : m_wisherAt_b13 n σ = some q) : bfr MT (d + 8) M_X12_wisherAt 13 [o0, o1, o2, o3, o4] [] [] (mkM σ) (some (.int q.1), mkM q.2) := by
  unfold m_wisherAt_b13 at h
  cases h
  exact bfr_ret 2 (fun _ _ => rfl)
set_option maxRecDepth 100000 in
theorem k_m_wisherAt (n d : Nat) (q : (Int32 × bS)) (x1 : Int32) (x2 : Int32) (x3 : Int32) (σ : bS) (h : m_wisherAt n x1 x2 x3 σ = some q) : bfr MT (d + 8) M_X12_wisherAt 0 [some (.ref 0), some (.int x1), some (.int x2), some (.int x3), none] [] [] (mkM σ) (some (.int q.1), mkM q.2) := by
  unfold m_wisherAt at h
  refine bfr_call 4 (d1 := d + 7) (M1 := M_X12_isSet) (vs := [(.ref 0), (.int x1), (.int x2)]) (w1 := mkM σ) (pc2 := 6) (L2 := [some (.ref 0), some (.int x1), some (.int x2), some (.int x3), none]) (J2 := []) (rest := []) (fun a => some (.int a.1)) (fun a => mkM a.2) (fun _ _ => rfl) h (fun a ha => k_m_isSet n (d + 6) _ _ _ _ ha) (fun q1 _ h => ?_)
  refine bfr_br 1 (pc1 := 13) (L1 := [some (.ref 0), some (.int x1), some (.int x2), some (.int x3), none]) (J1 := []) (st1 := []) (w1 := mkM q1.2) (pc2 := 9) (L2 := [some (.ref 0), some (.int x1), some (.int x2), some (.int x3), none]) (J2 := []) (st2 := []) (w2 := mkM q1.2) (fun _ _ => rfl) h (fun h => ?_) (fun h => ?_)
  · exact k_m_wisherAt_b13 n d q _ _ _ _ _ _ h
  · refine bfr_br 2 (pc1 := 15) (L1 := [some (.ref 0), some (.int x1), some (.int x2), some (.int x3), none]) (J1 := []) (st1 := []) (w1 := mkM q1.2) (pc2 := 13) (L2 := [some (.ref 0), some (.int x1), some (.int x2), some (.int x3), none]) (J2 := []) (st2 := []) (w2 := mkM q1.2) (fun _ _ => rfl) h (fun h => ?_) (fun h => ?_)
    · refine bfr_call 4 (d1 := d + 7) (M1 := M_X12_areAtFoot) (vs := [(.ref 0), (.int x1), (.int x2)]) (w1 := mkM q1.2) (pc2 := 21) (L2 := [some (.ref 0), some (.int x1), some (.int x2), some (.int x3), none]) (J2 := []) (rest := []) (fun a => some (.int a.1)) (fun a => mkM a.2) (fun _ _ => rfl) h (fun a ha => k_m_areAtFoot n (d + 5) _ _ _ _ ha) (fun q2 _ h => ?_)
      refine bfr_br 1 (pc1 := 24) (L1 := [some (.ref 0), some (.int x1), some (.int x2), some (.int x3), none]) (J1 := []) (st1 := []) (w1 := mkM q2.2) (pc2 := 27) (L2 := [some (.ref 0), some (.int x1), some (.int x2), some (.int x3), none]) (J2 := []) (st2 := []) (w2 := mkM q2.2) (fun _ _ => rfl) h (fun h => ?_) (fun h => ?_)
      · cases h
        exact bfr_ret 2 (fun _ _ => rfl)
      · refine bfr_call 4 (d1 := d + 7) (M1 := M_X12_fewestHired) (vs := [(.ref 0), (.int x1), (.int x2)]) (w1 := mkM q2.2) (pc2 := 33) (L2 := [some (.ref 0), some (.int x1), some (.int x2), some (.int x3), none]) (J2 := []) (rest := []) (fun a => some (.int a.1)) (fun a => mkM a.2) (fun _ _ => rfl) h (fun a ha => k_m_fewestHired n (d + 0) _ _ _ _ ha) (fun q3 _ h => ?_)
        refine bfr_br 5 (pc1 := 47) (L1 := [some (.ref 0), some (.int x1), some (.int x2), some (.int x3), some (.int q3.1)]) (J1 := []) (st1 := []) (w1 := mkM q3.2) (pc2 := 43) (L2 := [some (.ref 0), some (.int x1), some (.int x2), some (.int x3), some (.int q3.1)]) (J2 := []) (st2 := []) (w2 := mkM q3.2) (fun _ _ => rfl) h (fun h => ?_) (fun h => ?_)
        · refine bfr_in (i := x3) (m := 7) 4 (pc1 := 53) (L1 := [some (.ref 0), some (.int x1), some (.int x2), some (.int x3), some (.int q3.1)]) (J1 := []) (st1 := [(.int (sA q3.2 34 x3))]) (w1 := mkM q3.2) (fun _ _ => rfl) h (fun h => ?_)
          refine bfr_run 6 63 [some (.ref 0), some (.int x1), some (.int x2), some (.int x3), some (.int q3.1)] [] [(.int ((sI q3.2 0 49) - ci_1)), (.int (sI q3.2 0 55)), (.int (sA q3.2 34 x3))] (mkM q3.2) (fun _ _ => rfl) ?_
          exact k_m_wisherAt_b63 n d q _ _ _ _ _ _ _ _ _ h
        · refine bfr_run 2 72 [some (.ref 0), some (.int x1), some (.int x2), some (.int x3), some (.int q3.1)] [] [(.int ci_m1)] (mkM q3.2) (fun _ _ => rfl) ?_
          exact k_m_wisherAt_b72 n d q _ _ _ _ _ _ _ h
    · exact k_m_wisherAt_b13 n d q _ _ _ _ _ _ h
