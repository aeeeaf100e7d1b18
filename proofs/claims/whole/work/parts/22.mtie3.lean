set_option maxRecDepth 100000 in
theorem k_m_isAtFoot_b35 (n d : Nat) (q : (Int32 × bS)) (s0 : Int32) (o0 : Option Value) (o1 : Option Value) (o2 : Option Value) (σ : bS) (h : m_isAtFoot_b35 n s0 σ = some q) : bfr MT (d + 1) M_X12_isAtFoot 35 [o0, o1, o2] [] [(.int s0)] (mkM σ) (some (.int q.1), mkM q.2) := by
  unfold m_isAtFoot_b35 at h
  exact bfr_bz (mk := mkM) 1 (fun _ _ => rfl) h
set_option maxRecDepth 100000 in
theorem k_m_isAtFoot_b34 (n d : Nat) (q : (Int32 × bS)) (o0 : Option Value) (o1 : Option Value) (o2 : Option Value) (σ : bS) (h : m_isAtFoot_b34 n σ = some q) : bfr MT (d + 1) M_X12_isAtFoot 34 [o0, o1, o2] [] [] (mkM σ) (some (.int q.1), mkM q.2) := by
  unfold m_isAtFoot_b34 at h
  refine bfr_run 1 35 [o0, o1, o2] [] [(.int ci_0)] (mkM σ) (fun _ _ => rfl) ?_
  exact k_m_isAtFoot_b35 n d q _ _ _ _ _ h
set_option maxRecDepth 100000 in
theorem k_m_isAtFoot (n d : Nat) (q : (Int32 × bS)) (x1 : Int32) (x2 : Int32) (σ : bS) (h : m_isAtFoot n x1 x2 σ = some q) : bfr MT (d + 1) M_X12_isAtFoot 0 [some (.ref 0), some (.int x1), some (.int x2)] [] [] (mkM σ) (some (.int q.1), mkM q.2) := by
  unfold m_isAtFoot at h
  refine bfr_call 3 (d1 := d + 0) (M1 := M_X12_isOn) (vs := [(.ref 0), (.int x1)]) (w1 := mkM σ) (pc2 := 5) (L2 := [some (.ref 0), some (.int x1), some (.int x2)]) (J2 := []) (rest := []) (fun a => some (.int a.1)) (fun a => mkM a.2) (fun _ _ => rfl) h (fun a ha => k_m_isOn n (d + 0) _ _ _ ha) (fun q1 _ h => ?_)
  refine bfr_br 1 (pc1 := 8) (L1 := [some (.ref 0), some (.int x1), some (.int x2)]) (J1 := []) (st1 := []) (w1 := mkM q1.2) (pc2 := 34) (L2 := [some (.ref 0), some (.int x1), some (.int x2)]) (J2 := []) (st2 := []) (w2 := mkM q1.2) (fun _ _ => rfl) h (fun h => ?_) (fun h => ?_)
  · refine bfr_run 6 18 [some (.ref 0), some (.int x1), some (.int x2)] [] [(.int ((sI q1.2 0 40) + ci_5)), (.ref 29)] (mkM q1.2) (fun _ _ => rfl) ?_
    refine bfr_in (i := (((sI q1.2 0 40) + ci_5) + x1)) (m := 2208) 3 (pc1 := 21) (L1 := [some (.ref 0), some (.int x1), some (.int x2)]) (J1 := []) (st1 := [(.int (sA q1.2 29 (((sI q1.2 0 40) + ci_5) + x1)))]) (w1 := mkM q1.2) (fun _ _ => rfl) h (fun h => ?_)
    refine bfr_in (i := x2) (m := 8) 4 (pc1 := 27) (L1 := [some (.ref 0), some (.int x1), some (.int x2)]) (J1 := []) (st1 := [(.int (sA q1.2 18 x2)), (.int (sA q1.2 29 (((sI q1.2 0 40) + ci_5) + x1)))]) (w1 := mkM q1.2) (fun _ _ => rfl) h (fun h => ?_)
    refine bfr_br 1 (pc1 := 30) (L1 := [some (.ref 0), some (.int x1), some (.int x2)]) (J1 := []) (st1 := []) (w1 := mkM q1.2) (pc2 := 34) (L2 := [some (.ref 0), some (.int x1), some (.int x2)]) (J2 := []) (st2 := []) (w2 := mkM q1.2) (fun _ _ => rfl) h (fun h => ?_) (fun h => ?_)
    · refine bfr_run 2 35 [some (.ref 0), some (.int x1), some (.int x2)] [] [(.int ci_1)] (mkM q1.2) (fun _ _ => rfl) ?_
      exact k_m_isAtFoot_b35 n d q _ _ _ _ _ h
    · exact k_m_isAtFoot_b34 n d q _ _ _ _ h
  · exact k_m_isAtFoot_b34 n d q _ _ _ _ h
set_option maxRecDepth 100000 in
theorem k_m_could_b37 (n d : Nat) (q : (Int32 × bS)) (s0 : Int32) (o0 : Option Value) (o1 : Option Value) (o2 : Option Value) (σ : bS) (h : m_could_b37 n s0 σ = some q) : bfr MT (d + 4) M_X12_could 37 [o0, o1, o2] [] [(.int s0)] (mkM σ) (some (.int q.1), mkM q.2) := by
  unfold m_could_b37 at h
  exact bfr_bz (mk := mkM) 1 (fun _ _ => rfl) h
set_option maxRecDepth 100000 in
theorem k_m_could_b36 (n d : Nat) (q : (Int32 × bS)) (o0 : Option Value) (o1 : Option Value) (o2 : Option Value) (σ : bS) (h : m_could_b36 n σ = some q) : bfr MT (d + 4) M_X12_could 36 [o0, o1, o2] [] [] (mkM σ) (some (.int q.1), mkM q.2) := by
  unfold m_could_b36 at h
  refine bfr_run 1 37 [o0, o1, o2] [] [(.int ci_0)] (mkM σ) (fun _ _ => rfl) ?_
  exact k_m_could_b37 n d q _ _ _ _ _ h
set_option maxRecDepth 100000 in
theorem k_m_could (n d : Nat) (q : (Int32 × bS)) (x1 : Int32) (x2 : Int32) (σ : bS) (h : m_could n x1 x2 σ = some q) : bfr MT (d + 4) M_X12_could 0 [some (.ref 0), some (.int x1), some (.int x2)] [] [] (mkM σ) (some (.int q.1), mkM q.2) := by
  unfold m_could at h
  refine bfr_call 4 (d1 := d + 3) (M1 := M_X12_isAtFoot) (vs := [(.ref 0), (.int x1), (.int x2)]) (w1 := mkM σ) (pc2 := 6) (L2 := [some (.ref 0), some (.int x1), some (.int x2)]) (J2 := []) (rest := []) (fun a => some (.int a.1)) (fun a => mkM a.2) (fun _ _ => rfl) h (fun a ha => k_m_isAtFoot n (d + 2) _ _ _ _ ha) (fun q1 _ h => ?_)
  refine bfr_br 1 (pc1 := 36) (L1 := [some (.ref 0), some (.int x1), some (.int x2)]) (J1 := []) (st1 := []) (w1 := mkM q1.2) (pc2 := 9) (L2 := [some (.ref 0), some (.int x1), some (.int x2)]) (J2 := []) (st2 := []) (w2 := mkM q1.2) (fun _ _ => rfl) h (fun h => ?_) (fun h => ?_)
  · exact k_m_could_b36 n d q _ _ _ _ h
  · refine bfr_call 4 (d1 := d + 3) (M1 := M_X12_tollOf) (vs := [(.ref 0), (.int x1), (.int x2)]) (w1 := mkM q1.2) (pc2 := 15) (L2 := [some (.ref 0), some (.int x1), some (.int x2)]) (J2 := []) (rest := []) (fun a => some (.int a.1)) (fun a => mkM a.2) (fun _ _ => rfl) h (fun a ha => k_m_tollOf n (d + 0) _ _ _ _ ha) (fun q2 _ h => ?_)
    refine bfr_run 6 26 [some (.ref 0), some (.int x1), some (.int x2)] [] [(.int ((sI q2.2 0 40) + cb_19)), (.ref 29), (.int q2.1)] (mkM q2.2) (fun _ _ => rfl) ?_
    refine bfr_in (i := (((sI q2.2 0 40) + cb_19) + x1)) (m := 2208) 3 (pc1 := 29) (L1 := [some (.ref 0), some (.int x1), some (.int x2)]) (J1 := []) (st1 := [(.int (sA q2.2 29 (((sI q2.2 0 40) + cb_19) + x1))), (.int q2.1)]) (w1 := mkM q2.2) (fun _ _ => rfl) h (fun h => ?_)
    refine bfr_br 1 (pc1 := 36) (L1 := [some (.ref 0), some (.int x1), some (.int x2)]) (J1 := []) (st1 := []) (w1 := mkM q2.2) (pc2 := 32) (L2 := [some (.ref 0), some (.int x1), some (.int x2)]) (J2 := []) (st2 := []) (w2 := mkM q2.2) (fun _ _ => rfl) h (fun h => ?_) (fun h => ?_)
    · exact k_m_could_b36 n d q _ _ _ _ h
    · refine bfr_run 2 37 [some (.ref 0), some (.int x1), some (.int x2)] [] [(.int ci_1)] (mkM q2.2) (fun _ _ => rfl) ?_
      exact k_m_could_b37 n d q _ _ _ _ _ h
set_option maxRecDepth 100000 in
theorem k_m_isHome_b35 (n d : Nat) (q : (Int32 × bS)) (s0 : Int32) (o0 : Option Value) (o1 : Option Value) (σ : bS) (h : m_isHome_b35 n s0 σ = some q) : bfr MT (d + 1) M_X12_isHome 35 [o0, o1] [] [(.int s0)] (mkM σ) (some (.int q.1), mkM q.2) := by
  unfold m_isHome_b35 at h
  exact bfr_bz (mk := mkM) 1 (fun _ _ => rfl) h
set_option maxRecDepth 100000 in
theorem k_m_isHome_b34 (n d : Nat) (q : (Int32 × bS)) (o0 : Option Value) (o1 : Option Value) (σ : bS) (h : m_isHome_b34 n σ = some q) : bfr MT (d + 1) M_X12_isHome 34 [o0, o1] [] [] (mkM σ) (some (.int q.1), mkM q.2) := by
  unfold m_isHome_b34 at h
  refine bfr_run 1 35 [o0, o1] [] [(.int ci_0)] (mkM σ) (fun _ _ => rfl) ?_
  exact k_m_isHome_b35 n d q _ _ _ _ h
set_option maxRecDepth 100000 in
theorem k_m_isHome (n d : Nat) (q : (Int32 × bS)) (x1 : Int32) (σ : bS) (h : m_isHome n x1 σ = some q) : bfr MT (d + 1) M_X12_isHome 0 [some (.ref 0), some (.int x1)] [] [] (mkM σ) (some (.int q.1), mkM q.2) := by
  unfold m_isHome at h
  refine bfr_call 3 (d1 := d + 0) (M1 := M_X12_isOn) (vs := [(.ref 0), (.int x1)]) (w1 := mkM σ) (pc2 := 5) (L2 := [some (.ref 0), some (.int x1)]) (J2 := []) (rest := []) (fun a => some (.int a.1)) (fun a => mkM a.2) (fun _ _ => rfl) h (fun a ha => k_m_isOn n (d + 0) _ _ _ ha) (fun q1 _ h => ?_)
  refine bfr_br 1 (pc1 := 8) (L1 := [some (.ref 0), some (.int x1)]) (J1 := []) (st1 := []) (w1 := mkM q1.2) (pc2 := 34) (L2 := [some (.ref 0), some (.int x1)]) (J2 := []) (st2 := []) (w2 := mkM q1.2) (fun _ _ => rfl) h (fun h => ?_) (fun h => ?_)
  · refine bfr_run 6 18 [some (.ref 0), some (.int x1)] [] [(.int ((sI q1.2 0 40) + ci_5)), (.ref 29)] (mkM q1.2) (fun _ _ => rfl) ?_
    refine bfr_in (i := (((sI q1.2 0 40) + ci_5) + x1)) (m := 2208) 3 (pc1 := 21) (L1 := [some (.ref 0), some (.int x1)]) (J1 := []) (st1 := [(.int (sA q1.2 29 (((sI q1.2 0 40) + ci_5) + x1)))]) (w1 := mkM q1.2) (fun _ _ => rfl) h (fun h => ?_)
    refine bfr_in (i := x1) (m := 14) 4 (pc1 := 27) (L1 := [some (.ref 0), some (.int x1)]) (J1 := []) (st1 := [(.int (sA q1.2 22 x1)), (.int (sA q1.2 29 (((sI q1.2 0 40) + ci_5) + x1)))]) (w1 := mkM q1.2) (fun _ _ => rfl) h (fun h => ?_)
    refine bfr_br 1 (pc1 := 30) (L1 := [some (.ref 0), some (.int x1)]) (J1 := []) (st1 := []) (w1 := mkM q1.2) (pc2 := 34) (L2 := [some (.ref 0), some (.int x1)]) (J2 := []) (st2 := []) (w2 := mkM q1.2) (fun _ _ => rfl) h (fun h => ?_) (fun h => ?_)
    · refine bfr_run 2 35 [some (.ref 0), some (.int x1)] [] [(.int ci_1)] (mkM q1.2) (fun _ _ => rfl) ?_
      exact k_m_isHome_b35 n d q _ _ _ _ h
    · exact k_m_isHome_b34 n d q _ _ _ h
  · exact k_m_isHome_b34 n d q _ _ _ h
set_option maxRecDepth 100000 in
theorem k_m_comes_b130 (n d : Nat) (r68 : Int32 → Int32 → Int32 → bS → Option (Int32 × bS)) (q : (Int32 × bS)) (hr68 : ∀ (x2 : Int32) (x3 : Int32) (x4 : Int32) (o1 : Option Value) (σ : bS), r68 x2 x3 x4 σ = some q → bfr MT (d + 0) M_X12_comes 68 [some (.ref 0), o1, some (.int x2), some (.int x3), some (.int x4)] [] [] (mkM σ) (some (.int q.1), mkM q.2)) (x2 : Int32) (x3 : Int32) (x4 : Int32) (o1 : Option Value) (σ : bS) (h : m_comes_b130 n r68 x2 x3 x4 σ = some q) : bfr MT (d + 0) M_X12_comes 130 [some (.ref 0), o1, some (.int x2), some (.int x3), some (.int x4)] [] [] (mkM σ) (some (.int q.1), mkM q.2) := by
  unfold m_comes_b130 at h
  refine bfr_run 1 133 [some (.ref 0), o1, some (.int x2), some (.int x3), some (.int (x4 + ci_1))] [] [] (mkM σ) (fun _ _ => rfl) ?_
  refine bfr_run 1 68 [some (.ref 0), o1, some (.int x2), some (.int x3), some (.int (x4 + ci_1))] [] [] (mkM σ) (fun _ _ => rfl) ?_
  exact hr68 _ _ _ _ _ h
set_option maxRecDepth 100000 in
theorem k_m_comes_b68 (n d : Nat) (q : (Int32 × bS)) : ∀ (k : Nat) (x2 : Int32) (x3 : Int32) (x4 : Int32) (o1 : Option Value) (σ : bS), m_comes_b68 n k x2 x3 x4 σ = some q → bfr MT (d + 0) M_X12_comes 68 [some (.ref 0), o1, some (.int x2), some (.int x3), some (.int x4)] [] [] (mkM σ) (some (.int q.1), mkM q.2) := by
  intro k
  induction k with
  | zero => intro x2 x3 x4 o1 σ h; exact bno h
  | succ k ih =>
    intro x2 x3 x4 o1 σ h
    unfold m_comes_b68 at h
    refine bfr_in (i := ci_0) (m := 2) 5 (pc1 := 76) (L1 := [some (.ref 0), o1, some (.int x2), some (.int x3), some (.int x4)]) (J1 := []) (st1 := [(.int (sA σ 20 ci_0)), (.int x4)]) (w1 := mkM σ) (fun _ _ => rfl) h (fun h => ?_)
    refine bfr_br 1 (pc1 := 136) (L1 := [some (.ref 0), o1, some (.int x2), some (.int x3), some (.int x4)]) (J1 := []) (st1 := []) (w1 := mkM σ) (pc2 := 79) (L2 := [some (.ref 0), o1, some (.int x2), some (.int x3), some (.int x4)]) (J2 := []) (st2 := []) (w2 := mkM σ) (fun _ _ => rfl) h (fun h => ?_) (fun h => ?_)
    · cases h
      exact bfr_ret 2 (fun _ _ => rfl)
    · refine bfr_run 6 90 [some (.ref 0), o1, some (.int x2), some (.int x3), some (.int x4)] [] [(.int ((sI σ 0 40) + cb_12)), (.ref 29)] (mkM σ) (fun _ _ => rfl) ?_
      refine bfr_in (i := (((sI σ 0 40) + cb_12) + x4)) (m := 2208) 3 (pc1 := 94) (L1 := [some (.ref 0), o1, some (.int x2), some (.int x3), some (.int x4)]) (J1 := []) (st1 := [(.int (sA σ 29 (((sI σ 0 40) + cb_12) + x4)))]) (w1 := mkM σ) (fun _ _ => rfl) h (fun h => ?_)
      refine bfr_br 2 (pc1 := 98) (L1 := [some (.ref 0), o1, some (.int x2), some (.int x3), some (.int x4)]) (J1 := []) (st1 := []) (w1 := mkM σ) (pc2 := 130) (L2 := [some (.ref 0), o1, some (.int x2), some (.int x3), some (.int x4)]) (J2 := []) (st2 := []) (w2 := mkM σ) (fun _ _ => rfl) h (fun h => ?_) (fun h => ?_)
      · refine bfr_run 6 109 [some (.ref 0), o1, some (.int x2), some (.int x3), some (.int x4)] [] [(.int ((sI σ 0 40) + cb_12)), (.ref 29)] (mkM σ) (fun _ _ => rfl) ?_
        refine bfr_in (i := (((sI σ 0 40) + cb_12) + x4)) (m := 2208) 4 (pc1 := 115) (L1 := [some (.ref 0), o1, some (.int x2), some (.int x3), some (.int x4)]) (J1 := []) (st1 := []) (w1 := ((mkM σ).set 29 (.inl (0, 2208, upd (σ.2.1 29) ((((sI σ 0 40) + cb_12) + x4)).toNatClampNeg cb_m2)))) (fun _ _ => rfl) h (fun h => ?_)
        rw [mkM_A29]
        refine bfr_run 6 125 [some (.ref 0), o1, some (.int x2), some (.int x3), some (.int x4)] [] [(.int ((sI (uA σ 29 (((sI σ 0 40) + cb_12) + x4) cb_m2) 0 40) + ci_5)), (.ref 29)] (mkM (uA σ 29 (((sI σ 0 40) + cb_12) + x4) cb_m2)) (fun _ _ => rfl) ?_
        refine bfr_in (i := (((sI (uA σ 29 (((sI σ 0 40) + cb_12) + x4) cb_m2) 0 40) + ci_5) + x4)) (m := 2208) 4 (pc1 := 130) (L1 := [some (.ref 0), o1, some (.int x2), some (.int x3), some (.int x4)]) (J1 := []) (st1 := []) (w1 := ((mkM (uA σ 29 (((sI σ 0 40) + cb_12) + x4) cb_m2)).set 29 (.inl (0, 2208, upd ((uA σ 29 (((sI σ 0 40) + cb_12) + x4) cb_m2).2.1 29) ((((sI (uA σ 29 (((sI σ 0 40) + cb_12) + x4) cb_m2) 0 40) + ci_5) + x4)).toNatClampNeg x3)))) (fun _ _ => rfl) h (fun h => ?_)
        rw [mkM_A29]
        exact k_m_comes_b130 n d _ q (ih) _ _ _ _ _ h
      · exact k_m_comes_b130 n d _ q (ih) _ _ _ _ _ h
set_option maxRecDepth 100000 in
theorem k_m_comes (n d : Nat) (q : (Int32 × bS)) (x1 : Int32) (x2 : Int32) (σ : bS) (h : m_comes n x1 x2 σ = some q) : bfr MT (d + 0) M_X12_comes 0 [some (.ref 0), some (.int x1), some (.int x2), none, none] [] [] (mkM σ) (some (.int q.1), mkM q.2) := by
  unfold m_comes at h
  refine bfr_run 6 10 [some (.ref 0), some (.int x1), some (.int x2), none, none] [] [(.int ((sI σ 0 40) + ci_1)), (.ref 29)] (mkM σ) (fun _ _ => rfl) ?_
  refine bfr_in (i := (((sI σ 0 40) + ci_1) + x2)) (m := 2208) 3 (pc1 := 13) (L1 := [some (.ref 0), some (.int x1), some (.int x2), none, none]) (J1 := []) (st1 := [(.int (sA σ 29 (((sI σ 0 40) + ci_1) + x2)))]) (w1 := mkM σ) (fun _ _ => rfl) h (fun h => ?_)
  refine bfr_br 3 (pc1 := 51) (L1 := [some (.ref 0), some (.int x1), some (.int x2), some (.int (sA σ 29 (((sI σ 0 40) + ci_1) + x2))), none]) (J1 := []) (st1 := []) (w1 := mkM σ) (pc2 := 18) (L2 := [some (.ref 0), some (.int x1), some (.int x2), some (.int (sA σ 29 (((sI σ 0 40) + ci_1) + x2))), none]) (J2 := []) (st2 := []) (w2 := mkM σ) (fun _ _ => rfl) h (fun h => ?_) (fun h => ?_)
  · refine bfr_run 6 61 [some (.ref 0), some (.int x1), some (.int x2), some (.int (sA σ 29 (((sI σ 0 40) + ci_1) + x2))), none] [] [(.int ((sI σ 0 40) + ci_5)), (.ref 29)] (mkM σ) (fun _ _ => rfl) ?_
    refine bfr_in (i := (((sI σ 0 40) + ci_5) + x1)) (m := 2208) 4 (pc1 := 65) (L1 := [some (.ref 0), some (.int x1), some (.int x2), some (.int (sA σ 29 (((sI σ 0 40) + ci_1) + x2))), none]) (J1 := []) (st1 := []) (w1 := ((mkM σ).set 29 (.inl (0, 2208, upd (σ.2.1 29) ((((sI σ 0 40) + ci_5) + x1)).toNatClampNeg (sA σ 29 (((sI σ 0 40) + ci_1) + x2)))))) (fun _ _ => rfl) h (fun h => ?_)
    rw [mkM_A29]
    refine bfr_run 2 68 [some (.ref 0), some (.int x1), some (.int x2), some (.int (sA σ 29 (((sI σ 0 40) + ci_1) + x2))), some (.int ci_0)] [] [] (mkM (uA σ 29 (((sI σ 0 40) + ci_5) + x1) (sA σ 29 (((sI σ 0 40) + ci_1) + x2)))) (fun _ _ => rfl) ?_
    exact k_m_comes_b68 n d q _ _ _ _ _ _ h
  · refine bfr_run 6 29 [some (.ref 0), some (.int x1), some (.int x2), some (.int (sA σ 29 (((sI σ 0 40) + ci_1) + x2))), none] [] [(.int ((sI σ 0 40) + cb_12)), (.ref 29)] (mkM σ) (fun _ _ => rfl) ?_
    refine bfr_in (i := (((sI σ 0 40) + cb_12) + x1)) (m := 2208) 4 (pc1 := 33) (L1 := [some (.ref 0), some (.int x1), some (.int x2), some (.int (sA σ 29 (((sI σ 0 40) + ci_1) + x2))), none]) (J1 := []) (st1 := []) (w1 := ((mkM σ).set 29 (.inl (0, 2208, upd (σ.2.1 29) ((((sI σ 0 40) + cb_12) + x1)).toNatClampNeg x2)))) (fun _ _ => rfl) h (fun h => ?_)
    rw [mkM_A29]
    refine bfr_run 6 43 [some (.ref 0), some (.int x1), some (.int x2), some (.int (sA σ 29 (((sI σ 0 40) + ci_1) + x2))), none] [] [(.int ((sI (uA σ 29 (((sI σ 0 40) + cb_12) + x1) x2) 0 40) + ci_5)), (.ref 29)] (mkM (uA σ 29 (((sI σ 0 40) + cb_12) + x1) x2)) (fun _ _ => rfl) ?_
    refine bfr_in (i := (((sI (uA σ 29 (((sI σ 0 40) + cb_12) + x1) x2) 0 40) + ci_5) + x1)) (m := 2208) 4 (pc1 := 48) (L1 := [some (.ref 0), some (.int x1), some (.int x2), some (.int (sA σ 29 (((sI σ 0 40) + ci_1) + x2))), none]) (J1 := []) (st1 := []) (w1 := ((mkM (uA σ 29 (((sI σ 0 40) + cb_12) + x1) x2)).set 29 (.inl (0, 2208, upd ((uA σ 29 (((sI σ 0 40) + cb_12) + x1) x2).2.1 29) ((((sI (uA σ 29 (((sI σ 0 40) + cb_12) + x1) x2) 0 40) + ci_5) + x1)).toNatClampNeg cb_m2)))) (fun _ _ => rfl) h (fun h => ?_)
    rw [mkM_A29]
    cases h
    exact bfr_ret 2 (fun _ _ => rfl)
set_option maxRecDepth 100000 in
theorem k_m_crosses_b68 (n d : Nat) (q : (Int32 × bS)) (x1 : Int32) (x2 : Int32) (x4 : Int32) (o3 : Option Value) (σ : bS) (h : m_crosses_b68 n x1 x2 x4 σ = some q) : bfr MT (d + 4) M_X12_crosses 68 [some (.ref 0), some (.int x1), some (.int x2), o3, some (.int x4)] [] [] (mkM σ) (some (.int q.1), mkM q.2) := by
  unfold m_crosses_b68 at h
  refine bfr_run 6 79 [some (.ref 0), some (.int x1), some (.int x2), o3, some (.int x4)] [] [(.int ((sI σ 0 40) + cb_26)), (.ref 29)] (mkM σ) (fun _ _ => rfl) ?_
  refine bfr_in (i := (((sI σ 0 40) + cb_26) + x1)) (m := 2208) 4 (pc1 := 83) (L1 := [some (.ref 0), some (.int x1), some (.int x2), o3, some (.int x4)]) (J1 := []) (st1 := [(.int (sA σ 29 (((sI σ 0 40) + cb_26) + x1))), (.int (((sI σ 0 40) + cb_26) + x1)), (.ref 29)]) (w1 := mkM σ) (fun _ _ => rfl) h (fun h => ?_)
  refine bfr_in (i := (((sI σ 0 40) + cb_26) + x1)) (m := 2208) 3 (pc1 := 86) (L1 := [some (.ref 0), some (.int x1), some (.int x2), o3, some (.int x4)]) (J1 := []) (st1 := []) (w1 := ((mkM σ).set 29 (.inl (0, 2208, upd (σ.2.1 29) ((((sI σ 0 40) + cb_26) + x1)).toNatClampNeg ((sA σ 29 (((sI σ 0 40) + cb_26) + x1)) + ci_1))))) (fun _ _ => rfl) h (fun h => ?_)
  rw [mkM_A29]
  refine bfr_run 6 97 [some (.ref 0), some (.int x1), some (.int x2), o3, some (.int x4)] [] [(.int ((sI (uA σ 29 (((sI σ 0 40) + cb_26) + x1) ((sA σ 29 (((sI σ 0 40) + cb_26) + x1)) + ci_1)) 0 40) + cb_33)), (.ref 29)] (mkM (uA σ 29 (((sI σ 0 40) + cb_26) + x1) ((sA σ 29 (((sI σ 0 40) + cb_26) + x1)) + ci_1))) (fun _ _ => rfl) ?_
  refine bfr_in (i := (((sI (uA σ 29 (((sI σ 0 40) + cb_26) + x1) ((sA σ 29 (((sI σ 0 40) + cb_26) + x1)) + ci_1)) 0 40) + cb_33) + x1)) (m := 2208) 4 (pc1 := 101) (L1 := [some (.ref 0), some (.int x1), some (.int x2), o3, some (.int x4)]) (J1 := []) (st1 := []) (w1 := ((mkM (uA σ 29 (((sI σ 0 40) + cb_26) + x1) ((sA σ 29 (((sI σ 0 40) + cb_26) + x1)) + ci_1))).set 29 (.inl (0, 2208, upd ((uA σ 29 (((sI σ 0 40) + cb_26) + x1) ((sA σ 29 (((sI σ 0 40) + cb_26) + x1)) + ci_1)).2.1 29) ((((sI (uA σ 29 (((sI σ 0 40) + cb_26) + x1) ((sA σ 29 (((sI σ 0 40) + cb_26) + x1)) + ci_1)) 0 40) + cb_33) + x1)).toNatClampNeg ci_0)))) (fun _ _ => rfl) h (fun h => ?_)
  rw [mkM_A29]
  refine bfr_run 6 112 [some (.ref 0), some (.int x1), some (.int x2), o3, some (.int x4)] [] [(.int ((sI (uA (uA σ 29 (((sI σ 0 40) + cb_26) + x1) ((sA σ 29 (((sI σ 0 40) + cb_26) + x1)) + ci_1)) 29 (((sI (uA σ 29 (((sI σ 0 40) + cb_26) + x1) ((sA σ 29 (((sI σ 0 40) + cb_26) + x1)) + ci_1)) 0 40) + cb_33) + x1) ci_0) 0 40) + cb_42)), (.ref 29)] (mkM (uA (uA σ 29 (((sI σ 0 40) + cb_26) + x1) ((sA σ 29 (((sI σ 0 40) + cb_26) + x1)) + ci_1)) 29 (((sI (uA σ 29 (((sI σ 0 40) + cb_26) + x1) ((sA σ 29 (((sI σ 0 40) + cb_26) + x1)) + ci_1)) 0 40) + cb_33) + x1) ci_0)) (fun _ _ => rfl) ?_
  refine bfr_in (i := (((sI (uA (uA σ 29 (((sI σ 0 40) + cb_26) + x1) ((sA σ 29 (((sI σ 0 40) + cb_26) + x1)) + ci_1)) 29 (((sI (uA σ 29 (((sI σ 0 40) + cb_26) + x1) ((sA σ 29 (((sI σ 0 40) + cb_26) + x1)) + ci_1)) 0 40) + cb_33) + x1) ci_0) 0 40) + cb_42) + x2)) (m := 2208) 4 (pc1 := 116) (L1 := [some (.ref 0), some (.int x1), some (.int x2), o3, some (.int x4)]) (J1 := []) (st1 := [(.int (sA (uA (uA σ 29 (((sI σ 0 40) + cb_26) + x1) ((sA σ 29 (((sI σ 0 40) + cb_26) + x1)) + ci_1)) 29 (((sI (uA σ 29 (((sI σ 0 40) + cb_26) + x1) ((sA σ 29 (((sI σ 0 40) + cb_26) + x1)) + ci_1)) 0 40) + cb_33) + x1) ci_0) 29 (((sI (uA (uA σ 29 (((sI σ 0 40) + cb_26) + x1) ((sA σ 29 (((sI σ 0 40) + cb_26) + x1)) + ci_1)) 29 (((sI (uA σ 29 (((sI σ 0 40) + cb_26) + x1) ((sA σ 29 (((sI σ 0 40) + cb_26) + x1)) + ci_1)) 0 40) + cb_33) + x1) ci_0) 0 40) + cb_42) + x2))), (.int (((sI (uA (uA σ 29 (((sI σ 0 40) + cb_26) + x1) ((sA σ 29 (((sI σ 0 40) + cb_26) + x1)) + ci_1)) 29 (((sI (uA σ 29 (((sI σ 0 40) + cb_26) + x1) ((sA σ 29 (((sI σ 0 40) + cb_26) + x1)) + ci_1)) 0 40) + cb_33) + x1) ci_0) 0 40) + cb_42) + x2)), (.ref 29)]) (w1 := mkM (uA (uA σ 29 (((sI σ 0 40) + cb_26) + x1) ((sA σ 29 (((sI σ 0 40) + cb_26) + x1)) + ci_1)) 29 (((sI (uA σ 29 (((sI σ 0 40) + cb_26) + x1) ((sA σ 29 (((sI σ 0 40) + cb_26) + x1)) + ci_1)) 0 40) + cb_33) + x1) ci_0)) (fun _ _ => rfl) h (fun h => ?_)
  refine bfr_in (i := (((sI (uA (uA σ 29 (((sI σ 0 40) + cb_26) + x1) ((sA σ 29 (((sI σ 0 40) + cb_26) + x1)) + ci_1)) 29 (((sI (uA σ 29 (((sI σ 0 40) + cb_26) + x1) ((sA σ 29 (((sI σ 0 40) + cb_26) + x1)) + ci_1)) 0 40) + cb_33) + x1) ci_0) 0 40) + cb_42) + x2)) (m := 2208) 3 (pc1 := 119) (L1 := [some (.ref 0), some (.int x1), some (.int x2), o3, some (.int x4)]) (J1 := []) (st1 := []) (w1 := ((mkM (uA (uA σ 29 (((sI σ 0 40) + cb_26) + x1) ((sA σ 29 (((sI σ 0 40) + cb_26) + x1)) + ci_1)) 29 (((sI (uA σ 29 (((sI σ 0 40) + cb_26) + x1) ((sA σ 29 (((sI σ 0 40) + cb_26) + x1)) + ci_1)) 0 40) + cb_33) + x1) ci_0)).set 29 (.inl (0, 2208, upd ((uA (uA σ 29 (((sI σ 0 40) + cb_26) + x1) ((sA σ 29 (((sI σ 0 40) + cb_26) + x1)) + ci_1)) 29 (((sI (uA σ 29 (((sI σ 0 40) + cb_26) + x1) ((sA σ 29 (((sI σ 0 40) + cb_26) + x1)) + ci_1)) 0 40) + cb_33) + x1) ci_0).2.1 29) ((((sI (uA (uA σ 29 (((sI σ 0 40) + cb_26) + x1) ((sA σ 29 (((sI σ 0 40) + cb_26) + x1)) + ci_1)) 29 (((sI (uA σ 29 (((sI σ 0 40) + cb_26) + x1) ((sA σ 29 (((sI σ 0 40) + cb_26) + x1)) + ci_1)) 0 40) + cb_33) + x1) ci_0) 0 40) + cb_42) + x2)).toNatClampNeg ((sA (uA (uA σ 29 (((sI σ 0 40) + cb_26) + x1) ((sA σ 29 (((sI σ 0 40) + cb_26) + x1)) + ci_1)) 29 (((sI (uA σ 29 (((sI σ 0 40) + cb_26) + x1) ((sA σ 29 (((sI σ 0 40) + cb_26) + x1)) + ci_1)) 0 40) + cb_33) + x1) ci_0) 29 (((sI (uA (uA σ 29 (((sI σ 0 40) + cb_26) + x1) ((sA σ 29 (((sI σ 0 40) + cb_26) + x1)) + ci_1)) 29 (((sI (uA σ 29 (((sI σ 0 40) + cb_26) + x1) ((sA σ 29 (((sI σ 0 40) + cb_26) + x1)) + ci_1)) 0 40) + cb_33) + x1) ci_0) 0 40) + cb_42) + x2)) + ci_1))))) (fun _ _ => rfl) h (fun h => ?_)
  rw [mkM_A29]
  cases h
  exact bfr_ret 2 (fun _ _ => rfl)
set_option maxRecDepth 100000 in
theorem k_m_crosses_b41 (n d : Nat) (q : (Int32 × bS)) (x1 : Int32) (x2 : Int32) (x3 : Int32) (s1 : Int32) (s2 : Int32) (o4 : Option Value) (σ : bS) (h : m_crosses_b41 n x1 x2 x3 s1 s2 σ = some q) : bfr MT (d + 4) M_X12_crosses 41 [some (.ref 0), some (.int x1), some (.int x2), some (.int x3), o4] [] [(.int s2), (.int s1), (.ref 29)] (mkM σ) (some (.int q.1), mkM q.2) := by
  unfold m_crosses_b41 at h
  refine bfr_in (i := s1) (m := 2208) 1 (pc1 := 42) (L1 := [some (.ref 0), some (.int x1), some (.int x2), some (.int x3), o4]) (J1 := []) (st1 := []) (w1 := ((mkM σ).set 29 (.inl (0, 2208, upd (σ.2.1 29) (s1).toNatClampNeg s2)))) (fun _ _ => rfl) h (fun h => ?_)
  rw [mkM_A29]
  refine bfr_call 4 (d1 := d + 3) (M1 := M_X12_comes) (vs := [(.ref 0), (.int x1), (.int x2)]) (w1 := mkM (uA σ 29 s1 s2)) (pc2 := 48) (L2 := [some (.ref 0), some (.int x1), some (.int x2), some (.int x3), o4]) (J2 := []) (rest := []) (fun a => some (.int a.1)) (fun a => mkM a.2) (fun _ _ => rfl) h (fun a ha => k_m_comes n (d + 3) _ _ _ _ ha) (fun q1 _ h => ?_)
  refine bfr_br 3 (pc1 := 68) (L1 := [some (.ref 0), some (.int x1), some (.int x2), some (.int x3), some (.int q1.1)]) (J1 := []) (st1 := []) (w1 := mkM q1.2) (pc2 := 54) (L2 := [some (.ref 0), some (.int x1), some (.int x2), some (.int x3), some (.int q1.1)]) (J2 := []) (st2 := []) (w2 := mkM q1.2) (fun _ _ => rfl) h (fun h => ?_) (fun h => ?_)
  · exact k_m_crosses_b68 n d q _ _ _ _ _ h
  · refine bfr_run 6 64 [some (.ref 0), some (.int x1), some (.int x2), some (.int x3), some (.int q1.1)] [] [(.int ((sI q1.2 0 40) + ci_1)), (.ref 29)] (mkM q1.2) (fun _ _ => rfl) ?_
    refine bfr_in (i := (((sI q1.2 0 40) + ci_1) + x2)) (m := 2208) 4 (pc1 := 68) (L1 := [some (.ref 0), some (.int x1), some (.int x2), some (.int x3), some (.int q1.1)]) (J1 := []) (st1 := []) (w1 := ((mkM q1.2).set 29 (.inl (0, 2208, upd (q1.2.2.1 29) ((((sI q1.2 0 40) + ci_1) + x2)).toNatClampNeg x3)))) (fun _ _ => rfl) h (fun h => ?_)
    rw [mkM_A29]
    exact k_m_crosses_b68 n d q _ _ _ _ _ h
set_option maxRecDepth 100000 in
theorem k_m_crosses (n d : Nat) (q : (Int32 × bS)) (x1 : Int32) (x2 : Int32) (σ : bS) (h : m_crosses n x1 x2 σ = some q) : bfr MT (d + 4) M_X12_crosses 0 [some (.ref 0), some (.int x1), some (.int x2), none, none] [] [] (mkM σ) (some (.int q.1), mkM q.2) := by
  unfold m_crosses at h
  refine bfr_call 4 (d1 := d + 3) (M1 := M_X12_wishOf) (vs := [(.ref 0), (.int x1), (.int x2)]) (w1 := mkM σ) (pc2 := 6) (L2 := [some (.ref 0), some (.int x1), some (.int x2), none, none]) (J2 := []) (rest := []) (fun a => some (.int a.1)) (fun a => mkM a.2) (fun _ _ => rfl) h (fun a ha => k_m_wishOf n (d + 0) _ _ _ _ ha) (fun q2 _ h => ?_)
  refine bfr_run 6 17 [some (.ref 0), some (.int x1), some (.int x2), some (.int q2.1), none] [] [(.int cb_19), (.int (sI q2.2 0 40)), (.ref 29)] (mkM q2.2) (fun _ _ => rfl) ?_
  refine bfr_run 6 25 [some (.ref 0), some (.int x1), some (.int x2), some (.int q2.1), none] [] [(.ref 0), (.ref 29), (.int (((sI q2.2 0 40) + cb_19) + x1)), (.ref 29)] (mkM q2.2) (fun _ _ => rfl) ?_
  refine bfr_in (i := (((sI q2.2 0 40) + cb_19) + x1)) (m := 2208) 6 (pc1 := 34) (L1 := [some (.ref 0), some (.int x1), some (.int x2), some (.int q2.1), none]) (J1 := []) (st1 := [(.int (sA q2.2 29 (((sI q2.2 0 40) + cb_19) + x1))), (.int (((sI q2.2 0 40) + cb_19) + x1)), (.ref 29)]) (w1 := mkM q2.2) (fun _ _ => rfl) h (fun h => ?_)
  refine bfr_call 4 (d1 := d + 3) (M1 := M_X12_tollOf) (vs := [(.ref 0), (.int x1), (.int x2)]) (w1 := mkM q2.2) (pc2 := 40) (L2 := [some (.ref 0), some (.int x1), some (.int x2), some (.int q2.1), none]) (J2 := []) (rest := [(.int (sA q2.2 29 (((sI q2.2 0 40) + cb_19) + x1))), (.int (((sI q2.2 0 40) + cb_19) + x1)), (.ref 29)]) (fun a => some (.int a.1)) (fun a => mkM a.2) (fun _ _ => rfl) h (fun a ha => k_m_tollOf n (d + 0) _ _ _ _ ha) (fun q3 _ h => ?_)
  refine bfr_run 1 41 [some (.ref 0), some (.int x1), some (.int x2), some (.int q2.1), none] [] [(.int ((sA q2.2 29 (((sI q2.2 0 40) + cb_19) + x1)) - q3.1)), (.int (((sI q2.2 0 40) + cb_19) + x1)), (.ref 29)] (mkM q3.2) (fun _ _ => rfl) ?_
  exact k_m_crosses_b41 n d q _ _ _ _ _ _ _ h
set_option maxRecDepth 100000 in
theorem k_m_mixed (n d : Nat) (q : (Int32 × bS)) (x0 : Int32) (x1 : Int32) (σ : bS) (h : m_mixed n x0 x1 σ = some q) : bfr MT (d + 0) M_X12_mixed 0 [some (.int x0), some (.int x1), none] [] [] (mkM σ) (some (.int q.1), mkM q.2) := by
  unfold m_mixed at h
  refine bfr_run 6 10 [some (.int x0), some (.int x1), none] [] [(.int cs_12345), (.int ((x0 ^^^ x1) * (1103515245 : Int32)))] (mkM σ) (fun _ _ => rfl) ?_
  refine bfr_run 6 17 [some (.int x0), some (.int x1), some (.int (((x0 ^^^ x1) * (1103515245 : Int32)) + cs_12345))] [] [(.int (bush (((x0 ^^^ x1) * (1103515245 : Int32)) + cs_12345) cb_15)), (.int (((x0 ^^^ x1) * (1103515245 : Int32)) + cs_12345))] (mkM σ) (fun _ _ => rfl) ?_
  cases h
  exact bfr_ret 2 (fun _ _ => rfl)
set_option maxRecDepth 100000 in
theorem k_m_lot (n d : Nat) (q : (Int32 × bS)) (x1 : Int32) (x2 : Int32) (σ : bS) (h : m_lot n x1 x2 σ = some q) : bfr MT (d + 1) M_X12_lot 0 [some (.ref 0), some (.int x1), some (.int x2)] [] [] (mkM σ) (some (.int q.1), mkM q.2) := by
  unfold m_lot at h
  refine bfr_run 6 11 [some (.ref 0), some (.int x1), some (.int x2)] [] [(.int ((sI σ 0 40) + cb_46)), (.ref 29)] (mkM σ) (fun _ _ => rfl) ?_
  refine bfr_in (i := ((sI σ 0 40) + cb_46)) (m := 2208) 1 (pc1 := 12) (L1 := [some (.ref 0), some (.int x1), some (.int x2)]) (J1 := []) (st1 := [(.int (sA σ 29 ((sI σ 0 40) + cb_46)))]) (w1 := mkM σ) (fun _ _ => rfl) h (fun h => ?_)
  refine bfr_call 2 (d1 := d + 0) (M1 := M_X12_mixed) (vs := [(.int (sA σ 29 ((sI σ 0 40) + cb_46))), (.int cb_47)]) (w1 := mkM σ) (pc2 := 17) (L2 := [some (.ref 0), some (.int x1), some (.int x2)]) (J2 := []) (rest := []) (fun a => some (.int a.1)) (fun a => mkM a.2) (fun _ _ => rfl) h (fun a ha => k_m_mixed n (d + 0) _ _ _ _ ha) (fun q1 _ h => ?_)
  refine bfr_call 2 (d1 := d + 0) (M1 := M_X12_mixed) (vs := [(.int q1.1), (.int x1)]) (w1 := mkM q1.2) (pc2 := 21) (L2 := [some (.ref 0), some (.int x1), some (.int x2)]) (J2 := []) (rest := []) (fun a => some (.int a.1)) (fun a => mkM a.2) (fun _ _ => rfl) h (fun a ha => k_m_mixed n (d + 0) _ _ _ _ ha) (fun q2 _ h => ?_)
  refine bfr_chk 4 (pc1 := 25) (L1 := [some (.ref 0), some (.int x1), some (.int x2)]) (J1 := []) (st1 := [(.int (brem (bush q2.1 ci_1) x2))]) (w1 := mkM q2.2) (fun _ _ => rfl) h (fun h => ?_)
  cases h
  exact bfr_ret 1 (fun _ _ => rfl)
set_option maxRecDepth 100000 in
theorem k_m_hourGoes_b160 (n d : Nat) (r94 : Int32 → Int32 → bS → Option bS) (q : bS) (hr94 : ∀ (x1 : Int32) (x2 : Int32) (σ : bS), r94 x1 x2 σ = some q → bfr MT (d + 2) M_X12_hourGoes 94 [some (.ref 0), some (.int x1), some (.int x2)] [] [] (mkM σ) (none, mkM q)) (x1 : Int32) (x2 : Int32) (σ : bS) (h : m_hourGoes_b160 n r94 x1 x2 σ = some q) : bfr MT (d + 2) M_X12_hourGoes 160 [some (.ref 0), some (.int x1), some (.int x2)] [] [] (mkM σ) (none, mkM q) := by
  unfold m_hourGoes_b160 at h
  refine bfr_run 1 163 [some (.ref 0), some (.int x1), some (.int (x2 + ci_1))] [] [] (mkM σ) (fun _ _ => rfl) ?_
  refine bfr_run 1 94 [some (.ref 0), some (.int x1), some (.int (x2 + ci_1))] [] [] (mkM σ) (fun _ _ => rfl) ?_
  exact hr94 _ _ _ h
set_option maxRecDepth 100000 in
theorem k_m_hourGoes_b94 (n d : Nat) (q : bS) : ∀ (k : Nat) (x1 : Int32) (x2 : Int32) (σ : bS), m_hourGoes_b94 n k x1 x2 σ = some q → bfr MT (d + 2) M_X12_hourGoes 94 [some (.ref 0), some (.int x1), some (.int x2)] [] [] (mkM σ) (none, mkM q) := by
  intro k
  induction k with
  | zero => intro x1 x2 σ h; exact bno h
  | succ k ih =>
    intro x1 x2 σ h
    unfold m_hourGoes_b94 at h
    refine bfr_in (i := ci_0) (m := 2) 5 (pc1 := 101) (L1 := [some (.ref 0), some (.int x1), some (.int x2)]) (J1 := []) (st1 := [(.int (sA σ 17 ci_0)), (.int x2)]) (w1 := mkM σ) (fun _ _ => rfl) h (fun h => ?_)
    refine bfr_br 1 (pc1 := 166) (L1 := [some (.ref 0), some (.int x1), some (.int x2)]) (J1 := []) (st1 := []) (w1 := mkM σ) (pc2 := 104) (L2 := [some (.ref 0), some (.int x1), some (.int x2)]) (J2 := []) (st2 := []) (w2 := mkM σ) (fun _ _ => rfl) h (fun h => ?_) (fun h => ?_)
    · cases h
      exact bfr_ret 1 (fun _ _ => rfl)
    · refine bfr_run 6 112 [some (.ref 0), some (.int x1), some (.int x2)] [] [(.int ((cb_100 * x1) + cb_10)), (.ref 0)] (mkM σ) (fun _ _ => rfl) ?_
      refine bfr_call 4 (d1 := d + 1) (M1 := M_X12_lot) (vs := [(.ref 0), (.int (((cb_100 * x1) + cb_10) + x2)), (.int cb_100)]) (w1 := mkM σ) (pc2 := 119) (L2 := [some (.ref 0), some (.int x1), some (.int x2)]) (J2 := []) (rest := []) (fun a => some (.int a.1)) (fun a => mkM a.2) (fun _ _ => rfl) h (fun a ha => k_m_lot n (d + 0) _ _ _ _ ha) (fun q1 _ h => ?_)
      refine bfr_in (i := ci_1) (m := 8) 4 (pc1 := 125) (L1 := [some (.ref 0), some (.int x1), some (.int x2)]) (J1 := []) (st1 := [(.int (sA q1.2 24 ci_1)), (.int q1.1)]) (w1 := mkM q1.2) (fun _ _ => rfl) h (fun h => ?_)
      refine bfr_br 1 (pc1 := 160) (L1 := [some (.ref 0), some (.int x1), some (.int x2)]) (J1 := []) (st1 := []) (w1 := mkM q1.2) (pc2 := 128) (L2 := [some (.ref 0), some (.int x1), some (.int x2)]) (J2 := []) (st2 := []) (w2 := mkM q1.2) (fun _ _ => rfl) h (fun h => ?_) (fun h => ?_)
      · exact k_m_hourGoes_b160 n d _ q (ih) _ _ _ h
      · refine bfr_run 6 138 [some (.ref 0), some (.int x1), some (.int x2)] [] [(.int ((sI q1.2 0 40) + ci_1)), (.ref 29)] (mkM q1.2) (fun _ _ => rfl) ?_
        refine bfr_run 6 145 [some (.ref 0), some (.int x1), some (.int x2)] [] [(.int (cb_100 * x1)), (.ref 0), (.int (((sI q1.2 0 40) + ci_1) + x2)), (.ref 29)] (mkM q1.2) (fun _ _ => rfl) ?_
        refine bfr_run 6 154 [some (.ref 0), some (.int x1), some (.int x2)] [] [(.ref 12), (.int (((cb_100 * x1) + cb_20) + x2)), (.ref 0), (.int (((sI q1.2 0 40) + ci_1) + x2)), (.ref 29)] (mkM q1.2) (fun _ _ => rfl) ?_
        refine bfr_in (i := ci_0) (m := 2) 2 (pc1 := 156) (L1 := [some (.ref 0), some (.int x1), some (.int x2)]) (J1 := []) (st1 := [(.int (sA q1.2 12 ci_0)), (.int (((cb_100 * x1) + cb_20) + x2)), (.ref 0), (.int (((sI q1.2 0 40) + ci_1) + x2)), (.ref 29)]) (w1 := mkM q1.2) (fun _ _ => rfl) h (fun h => ?_)
        refine bfr_call 1 (d1 := d + 1) (M1 := M_X12_lot) (vs := [(.ref 0), (.int (((cb_100 * x1) + cb_20) + x2)), (.int (sA q1.2 12 ci_0))]) (w1 := mkM q1.2) (pc2 := 159) (L2 := [some (.ref 0), some (.int x1), some (.int x2)]) (J2 := []) (rest := [(.int (((sI q1.2 0 40) + ci_1) + x2)), (.ref 29)]) (fun a => some (.int a.1)) (fun a => mkM a.2) (fun _ _ => rfl) h (fun a ha => k_m_lot n (d + 0) _ _ _ _ ha) (fun q2 _ h => ?_)
        refine bfr_in (i := (((sI q1.2 0 40) + ci_1) + x2)) (m := 2208) 1 (pc1 := 160) (L1 := [some (.ref 0), some (.int x1), some (.int x2)]) (J1 := []) (st1 := []) (w1 := ((mkM q2.2).set 29 (.inl (0, 2208, upd (q2.2.2.1 29) ((((sI q1.2 0 40) + ci_1) + x2)).toNatClampNeg q2.1)))) (fun _ _ => rfl) h (fun h => ?_)
        rw [mkM_A29]
        exact k_m_hourGoes_b160 n d _ q (ih) _ _ _ h
set_option maxRecDepth 100000 in
theorem k_m_hourGoes_b92 (n d : Nat) (q : bS) (x1 : Int32) (o2 : Option Value) (σ : bS) (h : m_hourGoes_b92 n x1 σ = some q) : bfr MT (d + 2) M_X12_hourGoes 92 [some (.ref 0), some (.int x1), o2] [] [] (mkM σ) (none, mkM q) := by
  unfold m_hourGoes_b92 at h
  refine bfr_run 2 94 [some (.ref 0), some (.int x1), some (.int ci_0)] [] [] (mkM σ) (fun _ _ => rfl) ?_
  exact k_m_hourGoes_b94 n d q _ _ _ _ h
set_option maxRecDepth 100000 in
theorem k_m_hourGoes_b47 (n d : Nat) (q : bS) : ∀ (k : Nat) (x1 : Int32) (x2 : Int32) (σ : bS), m_hourGoes_b47 n k x1 x2 σ = some q → bfr MT (d + 2) M_X12_hourGoes 47 [some (.ref 0), some (.int x1), some (.int x2)] [] [] (mkM σ) (none, mkM q) := by
  intro k
  induction k with
  | zero => intro x1 x2 σ h; exact bno h
  | succ k ih =>
    intro x1 x2 σ h
    unfold m_hourGoes_b47 at h
    refine bfr_in (i := ci_0) (m := 2) 5 (pc1 := 54) (L1 := [some (.ref 0), some (.int x1), some (.int x2)]) (J1 := []) (st1 := [(.int (sA σ 17 ci_0)), (.int x2)]) (w1 := mkM σ) (fun _ _ => rfl) h (fun h => ?_)
    refine bfr_br 1 (pc1 := 92) (L1 := [some (.ref 0), some (.int x1), some (.int x2)]) (J1 := []) (st1 := []) (w1 := mkM σ) (pc2 := 57) (L2 := [some (.ref 0), some (.int x1), some (.int x2)]) (J2 := []) (st2 := []) (w2 := mkM σ) (fun _ _ => rfl) h (fun h => ?_) (fun h => ?_)
    · exact k_m_hourGoes_b92 n d q _ _ _ h
    · refine bfr_run 6 67 [some (.ref 0), some (.int x1), some (.int x2)] [] [(.int ((sI σ 0 40) + ci_1)), (.ref 29)] (mkM σ) (fun _ _ => rfl) ?_
      refine bfr_run 6 74 [some (.ref 0), some (.int x1), some (.int x2)] [] [(.int (cb_100 * x1)), (.ref 0), (.int (((sI σ 0 40) + ci_1) + x2)), (.ref 29)] (mkM σ) (fun _ _ => rfl) ?_
      refine bfr_in (i := ci_0) (m := 2) 6 (pc1 := 82) (L1 := [some (.ref 0), some (.int x1), some (.int x2)]) (J1 := []) (st1 := [(.int (sA σ 12 ci_0)), (.int ((cb_100 * x1) + x2)), (.ref 0), (.int (((sI σ 0 40) + ci_1) + x2)), (.ref 29)]) (w1 := mkM σ) (fun _ _ => rfl) h (fun h => ?_)
      refine bfr_call 1 (d1 := d + 1) (M1 := M_X12_lot) (vs := [(.ref 0), (.int ((cb_100 * x1) + x2)), (.int (sA σ 12 ci_0))]) (w1 := mkM σ) (pc2 := 85) (L2 := [some (.ref 0), some (.int x1), some (.int x2)]) (J2 := []) (rest := [(.int (((sI σ 0 40) + ci_1) + x2)), (.ref 29)]) (fun a => some (.int a.1)) (fun a => mkM a.2) (fun _ _ => rfl) h (fun a ha => k_m_lot n (d + 0) _ _ _ _ ha) (fun q3 _ h => ?_)
      refine bfr_in (i := (((sI σ 0 40) + ci_1) + x2)) (m := 2208) 1 (pc1 := 86) (L1 := [some (.ref 0), some (.int x1), some (.int x2)]) (J1 := []) (st1 := []) (w1 := ((mkM q3.2).set 29 (.inl (0, 2208, upd (q3.2.2.1 29) ((((sI σ 0 40) + ci_1) + x2)).toNatClampNeg q3.1)))) (fun _ _ => rfl) h (fun h => ?_)
      rw [mkM_A29]
      refine bfr_run 1 89 [some (.ref 0), some (.int x1), some (.int (x2 + ci_1))] [] [] (mkM (uA q3.2 29 (((sI σ 0 40) + ci_1) + x2) q3.1)) (fun _ _ => rfl) ?_
      refine bfr_run 1 47 [some (.ref 0), some (.int x1), some (.int (x2 + ci_1))] [] [] (mkM (uA q3.2 29 (((sI σ 0 40) + ci_1) + x2) q3.1)) (fun _ _ => rfl) ?_
      exact ih _ _ _ h
set_option maxRecDepth 100000 in
theorem k_m_hourGoes (n d : Nat) (q : bS) (σ : bS) (h : m_hourGoes n σ = some q) : bfr MT (d + 2) M_X12_hourGoes 0 [some (.ref 0), none, none] [] [] (mkM σ) (none, mkM q) := by
  unfold m_hourGoes at h
  refine bfr_in (i := (sI σ 0 40)) (m := 2208) 6 (pc1 := 10) (L1 := [some (.ref 0), none, none]) (J1 := []) (st1 := [(.int (sA σ 29 (sI σ 0 40))), (.int (sI σ 0 40)), (.ref 29)]) (w1 := mkM σ) (fun _ _ => rfl) h (fun h => ?_)
  refine bfr_in (i := (sI σ 0 40)) (m := 2208) 3 (pc1 := 13) (L1 := [some (.ref 0), none, none]) (J1 := []) (st1 := []) (w1 := ((mkM σ).set 29 (.inl (0, 2208, upd (σ.2.1 29) ((sI σ 0 40)).toNatClampNeg ((sA σ 29 (sI σ 0 40)) + ci_1))))) (fun _ _ => rfl) h (fun h => ?_)
  rw [mkM_A29]
  refine bfr_in (i := (sI (uA σ 29 (sI σ 0 40) ((sA σ 29 (sI σ 0 40)) + ci_1)) 0 40)) (m := 2208) 5 (pc1 := 22) (L1 := [some (.ref 0), none, none]) (J1 := []) (st1 := [(.int (sA (uA σ 29 (sI σ 0 40) ((sA σ 29 (sI σ 0 40)) + ci_1)) 29 (sI (uA σ 29 (sI σ 0 40) ((sA σ 29 (sI σ 0 40)) + ci_1)) 0 40)))]) (w1 := mkM (uA σ 29 (sI σ 0 40) ((sA σ 29 (sI σ 0 40)) + ci_1))) (fun _ _ => rfl) h (fun h => ?_)
  refine bfr_in (i := ci_0) (m := 8) 5 (pc1 := 29) (L1 := [some (.ref 0), some (.int (sA (uA σ 29 (sI σ 0 40) ((sA σ 29 (sI σ 0 40)) + ci_1)) 29 (sI (uA σ 29 (sI σ 0 40) ((sA σ 29 (sI σ 0 40)) + ci_1)) 0 40))), none]) (J1 := []) (st1 := [(.int (sA (uA σ 29 (sI σ 0 40) ((sA σ 29 (sI σ 0 40)) + ci_1)) 24 ci_0))]) (w1 := mkM (uA σ 29 (sI σ 0 40) ((sA σ 29 (sI σ 0 40)) + ci_1))) (fun _ _ => rfl) h (fun h => ?_)
  refine bfr_br 1 (pc1 := 92) (L1 := [some (.ref 0), some (.int (sA (uA σ 29 (sI σ 0 40) ((sA σ 29 (sI σ 0 40)) + ci_1)) 29 (sI (uA σ 29 (sI σ 0 40) ((sA σ 29 (sI σ 0 40)) + ci_1)) 0 40))), none]) (J1 := []) (st1 := []) (w1 := mkM (uA σ 29 (sI σ 0 40) ((sA σ 29 (sI σ 0 40)) + ci_1))) (pc2 := 32) (L2 := [some (.ref 0), some (.int (sA (uA σ 29 (sI σ 0 40) ((sA σ 29 (sI σ 0 40)) + ci_1)) 29 (sI (uA σ 29 (sI σ 0 40) ((sA σ 29 (sI σ 0 40)) + ci_1)) 0 40))), none]) (J2 := []) (st2 := []) (w2 := mkM (uA σ 29 (sI σ 0 40) ((sA σ 29 (sI σ 0 40)) + ci_1))) (fun _ _ => rfl) h (fun h => ?_) (fun h => ?_)
  · exact k_m_hourGoes_b92 n d q _ _ _ h
  · refine bfr_chk 3 (pc1 := 36) (L1 := [some (.ref 0), some (.int (sA (uA σ 29 (sI σ 0 40) ((sA σ 29 (sI σ 0 40)) + ci_1)) 29 (sI (uA σ 29 (sI σ 0 40) ((sA σ 29 (sI σ 0 40)) + ci_1)) 0 40))), none]) (J1 := []) (st1 := [(.int (brem (sA (uA σ 29 (sI σ 0 40) ((sA σ 29 (sI σ 0 40)) + ci_1)) 29 (sI (uA σ 29 (sI σ 0 40) ((sA σ 29 (sI σ 0 40)) + ci_1)) 0 40)) cb_24))]) (w1 := mkM (uA σ 29 (sI σ 0 40) ((sA σ 29 (sI σ 0 40)) + ci_1))) (fun _ _ => rfl) h (fun h => ?_)
    refine bfr_in (i := ci_0) (m := 8) 4 (pc1 := 42) (L1 := [some (.ref 0), some (.int (sA (uA σ 29 (sI σ 0 40) ((sA σ 29 (sI σ 0 40)) + ci_1)) 29 (sI (uA σ 29 (sI σ 0 40) ((sA σ 29 (sI σ 0 40)) + ci_1)) 0 40))), none]) (J1 := []) (st1 := [(.int (sA (uA σ 29 (sI σ 0 40) ((sA σ 29 (sI σ 0 40)) + ci_1)) 24 ci_0)), (.int (brem (sA (uA σ 29 (sI σ 0 40) ((sA σ 29 (sI σ 0 40)) + ci_1)) 29 (sI (uA σ 29 (sI σ 0 40) ((sA σ 29 (sI σ 0 40)) + ci_1)) 0 40)) cb_24))]) (w1 := mkM (uA σ 29 (sI σ 0 40) ((sA σ 29 (sI σ 0 40)) + ci_1))) (fun _ _ => rfl) h (fun h => ?_)
    refine bfr_br 1 (pc1 := 45) (L1 := [some (.ref 0), some (.int (sA (uA σ 29 (sI σ 0 40) ((sA σ 29 (sI σ 0 40)) + ci_1)) 29 (sI (uA σ 29 (sI σ 0 40) ((sA σ 29 (sI σ 0 40)) + ci_1)) 0 40))), none]) (J1 := []) (st1 := []) (w1 := mkM (uA σ 29 (sI σ 0 40) ((sA σ 29 (sI σ 0 40)) + ci_1))) (pc2 := 92) (L2 := [some (.ref 0), some (.int (sA (uA σ 29 (sI σ 0 40) ((sA σ 29 (sI σ 0 40)) + ci_1)) 29 (sI (uA σ 29 (sI σ 0 40) ((sA σ 29 (sI σ 0 40)) + ci_1)) 0 40))), none]) (J2 := []) (st2 := []) (w2 := mkM (uA σ 29 (sI σ 0 40) ((sA σ 29 (sI σ 0 40)) + ci_1))) (fun _ _ => rfl) h (fun h => ?_) (fun h => ?_)
    · refine bfr_run 2 47 [some (.ref 0), some (.int (sA (uA σ 29 (sI σ 0 40) ((sA σ 29 (sI σ 0 40)) + ci_1)) 29 (sI (uA σ 29 (sI σ 0 40) ((sA σ 29 (sI σ 0 40)) + ci_1)) 0 40))), some (.int ci_0)] [] [] (mkM (uA σ 29 (sI σ 0 40) ((sA σ 29 (sI σ 0 40)) + ci_1))) (fun _ _ => rfl) ?_
      exact k_m_hourGoes_b47 n d q _ _ _ _ h
    · exact k_m_hourGoes_b92 n d q _ _ _ h
set_option maxRecDepth 100000 in
theorem k_m_hoursGo_b2 (n d : Nat) (q : bS) : ∀ (k : Nat) (x1 : Int32) (x2 : Int32) (σ : bS), m_hoursGo_b2 n k x1 x2 σ = some q → bfr MT (d + 3) M_X12_hoursGo 2 [some (.ref 0), some (.int x1), some (.int x2)] [] [] (mkM σ) (none, mkM q) := by
  intro k
  induction k with
  | zero => intro x1 x2 σ h; exact bno h
  | succ k ih =>
    intro x1 x2 σ h
    unfold m_hoursGo_b2 at h
    refine bfr_br 3 (pc1 := 17) (L1 := [some (.ref 0), some (.int x1), some (.int x2)]) (J1 := []) (st1 := []) (w1 := mkM σ) (pc2 := 7) (L2 := [some (.ref 0), some (.int x1), some (.int x2)]) (J2 := []) (st2 := []) (w2 := mkM σ) (fun _ _ => rfl) h (fun h => ?_) (fun h => ?_)
    · cases h
      exact bfr_ret 1 (fun _ _ => rfl)
    · refine bfr_call 2 (d1 := d + 2) (M1 := M_X12_hourGoes) (vs := [(.ref 0)]) (w1 := mkM σ) (pc2 := 11) (L2 := [some (.ref 0), some (.int x1), some (.int x2)]) (J2 := []) (rest := []) (fun _ => none) (fun a => mkM a) (fun _ _ => rfl) h (fun a ha => k_m_hourGoes n (d + 0) _ _ ha) (fun q1 _ h => ?_)
      refine bfr_run 1 14 [some (.ref 0), some (.int x1), some (.int (x2 + ci_1))] [] [] (mkM q1) (fun _ _ => rfl) ?_
      refine bfr_run 1 2 [some (.ref 0), some (.int x1), some (.int (x2 + ci_1))] [] [] (mkM q1) (fun _ _ => rfl) ?_
      exact ih _ _ _ h
set_option maxRecDepth 100000 in
theorem k_m_hoursGo (n d : Nat) (q : bS) (x1 : Int32) (σ : bS) (h : m_hoursGo n x1 σ = some q) : bfr MT (d + 3) M_X12_hoursGo 0 [some (.ref 0), some (.int x1), none] [] [] (mkM σ) (none, mkM q) := by
  unfold m_hoursGo at h
  refine bfr_run 2 2 [some (.ref 0), some (.int x1), some (.int ci_0)] [] [] (mkM σ) (fun _ _ => rfl) ?_
  exact k_m_hoursGo_b2 n d q _ _ _ _ h
set_option maxRecDepth 100000 in
theorem k_m_taken_b76 (n d : Nat) (r2 : Int32 → Int32 → Int32 → bS → Option (Int32 × bS)) (q : (Int32 × bS)) (hr2 : ∀ (x1 : Int32) (x2 : Int32) (x3 : Int32) (σ : bS), r2 x1 x2 x3 σ = some q → bfr MT (d + 5) M_X12_taken 2 [some (.ref 0), some (.int x1), some (.int x2), some (.int x3)] [] [] (mkM σ) (some (.int q.1), mkM q.2)) (x1 : Int32) (x2 : Int32) (x3 : Int32) (σ : bS) (h : m_taken_b76 n r2 x1 x2 x3 σ = some q) : bfr MT (d + 5) M_X12_taken 76 [some (.ref 0), some (.int x1), some (.int x2), some (.int x3)] [] [] (mkM σ) (some (.int q.1), mkM q.2) := by
  unfold m_taken_b76 at h
  refine bfr_run 1 79 [some (.ref 0), some (.int x1), some (.int x2), some (.int (x3 + ci_1))] [] [] (mkM σ) (fun _ _ => rfl) ?_
  refine bfr_run 1 2 [some (.ref 0), some (.int x1), some (.int x2), some (.int (x3 + ci_1))] [] [] (mkM σ) (fun _ _ => rfl) ?_
  exact hr2 _ _ _ _ h
set_option maxRecDepth 100000 in
theorem k_m_taken_b74 (n d : Nat) (r2 : Int32 → Int32 → Int32 → bS → Option (Int32 × bS)) (q : (Int32 × bS)) (hr2 : ∀ (x1 : Int32) (x2 : Int32) (x3 : Int32) (σ : bS), r2 x1 x2 x3 σ = some q → bfr MT (d + 5) M_X12_taken 2 [some (.ref 0), some (.int x1), some (.int x2), some (.int x3)] [] [] (mkM σ) (some (.int q.1), mkM q.2)) (x3 : Int32) (o0 : Option Value) (o1 : Option Value) (o2 : Option Value) (σ : bS) (h : m_taken_b74 n r2 x3 σ = some q) : bfr MT (d + 5) M_X12_taken 74 [o0, o1, o2, some (.int x3)] [] [] (mkM σ) (some (.int q.1), mkM q.2) := by
  unfold m_taken_b74 at h
  cases h
  exact bfr_ret 2 (fun _ _ => rfl)
set_option maxRecDepth 100000 in
theorem k_m_taken_b2 (n d : Nat) (q : (Int32 × bS)) : ∀ (k : Nat) (x1 : Int32) (x2 : Int32) (x3 : Int32) (σ : bS), m_taken_b2 n k x1 x2 x3 σ = some q → bfr MT (d + 5) M_X12_taken 2 [some (.ref 0), some (.int x1), some (.int x2), some (.int x3)] [] [] (mkM σ) (some (.int q.1), mkM q.2) := by
  intro k
  induction k with
  | zero => intro x1 x2 x3 σ h; exact bno h
  | succ k ih =>
    intro x1 x2 x3 σ h
    unfold m_taken_b2 at h
    refine bfr_in (i := ci_0) (m := 2) 5 (pc1 := 9) (L1 := [some (.ref 0), some (.int x1), some (.int x2), some (.int x3)]) (J1 := []) (st1 := [(.int (sA σ 17 ci_0)), (.int x3)]) (w1 := mkM σ) (fun _ _ => rfl) h (fun h => ?_)
    refine bfr_br 1 (pc1 := 82) (L1 := [some (.ref 0), some (.int x1), some (.int x2), some (.int x3)]) (J1 := []) (st1 := []) (w1 := mkM σ) (pc2 := 12) (L2 := [some (.ref 0), some (.int x1), some (.int x2), some (.int x3)]) (J2 := []) (st2 := []) (w2 := mkM σ) (fun _ _ => rfl) h (fun h => ?_) (fun h => ?_)
    · cases h
      exact bfr_ret 2 (fun _ _ => rfl)
    · refine bfr_run 6 20 [some (.ref 0), some (.int x1), some (.int x2), some (.int x3)] [] [(.int (((sI σ 0 47) >>> (x3 &&& 31)) &&& ci_1))] (mkM σ) (fun _ _ => rfl) ?_
      refine bfr_br 2 (pc1 := 76) (L1 := [some (.ref 0), some (.int x1), some (.int x2), some (.int x3)]) (J1 := []) (st1 := []) (w1 := mkM σ) (pc2 := 24) (L2 := [some (.ref 0), some (.int x1), some (.int x2), some (.int x3)]) (J2 := []) (st2 := []) (w2 := mkM σ) (fun _ _ => rfl) h (fun h => ?_) (fun h => ?_)
      · exact k_m_taken_b76 n d _ q (ih) _ _ _ _ h
      · refine bfr_call 4 (d1 := d + 4) (M1 := M_X12_could) (vs := [(.ref 0), (.int x1), (.int x3)]) (w1 := mkM σ) (pc2 := 30) (L2 := [some (.ref 0), some (.int x1), some (.int x2), some (.int x3)]) (J2 := []) (rest := []) (fun a => some (.int a.1)) (fun a => mkM a.2) (fun _ _ => rfl) h (fun a ha => k_m_could n (d + 0) _ _ _ _ ha) (fun q1 _ h => ?_)
        refine bfr_br 1 (pc1 := 33) (L1 := [some (.ref 0), some (.int x1), some (.int x2), some (.int x3)]) (J1 := []) (st1 := []) (w1 := mkM q1.2) (pc2 := 36) (L2 := [some (.ref 0), some (.int x1), some (.int x2), some (.int x3)]) (J2 := []) (st2 := []) (w2 := mkM q1.2) (fun _ _ => rfl) h (fun h => ?_) (fun h => ?_)
        · refine bfr_run 1 76 [some (.ref 0), some (.int x1), some (.int x2), some (.int x3)] [] [] (mkM q1.2) (fun _ _ => rfl) ?_
          exact k_m_taken_b76 n d _ q (ih) _ _ _ _ h
        · refine bfr_br 2 (pc1 := 65) (L1 := [some (.ref 0), some (.int x1), some (.int x2), some (.int x3)]) (J1 := []) (st1 := []) (w1 := mkM q1.2) (pc2 := 40) (L2 := [some (.ref 0), some (.int x1), some (.int x2), some (.int x3)]) (J2 := []) (st2 := []) (w2 := mkM q1.2) (fun _ _ => rfl) h (fun h => ?_) (fun h => ?_)
          · refine bfr_call 4 (d1 := d + 4) (M1 := M_X12_goesBy) (vs := [(.ref 0), (.int x1), (.int x3)]) (w1 := mkM q1.2) (pc2 := 71) (L2 := [some (.ref 0), some (.int x1), some (.int x2), some (.int x3)]) (J2 := []) (rest := []) (fun a => some (.int a.1)) (fun a => mkM a.2) (fun _ _ => rfl) h (fun a ha => k_m_goesBy n (d + 1) _ _ _ _ ha) (fun q2 _ h => ?_)
            refine bfr_br 1 (pc1 := 76) (L1 := [some (.ref 0), some (.int x1), some (.int x2), some (.int x3)]) (J1 := []) (st1 := []) (w1 := mkM q2.2) (pc2 := 74) (L2 := [some (.ref 0), some (.int x1), some (.int x2), some (.int x3)]) (J2 := []) (st2 := []) (w2 := mkM q2.2) (fun _ _ => rfl) h (fun h => ?_) (fun h => ?_)
            · exact k_m_taken_b76 n d _ q (ih) _ _ _ _ h
            · exact k_m_taken_b74 n d _ q (ih) _ _ _ _ _ h
          · refine bfr_run 6 50 [some (.ref 0), some (.int x1), some (.int x2), some (.int x3)] [] [(.int ((sI q1.2 0 40) + ci_1)), (.ref 29)] (mkM q1.2) (fun _ _ => rfl) ?_
            refine bfr_in (i := (((sI q1.2 0 40) + ci_1) + x3)) (m := 2208) 3 (pc1 := 53) (L1 := [some (.ref 0), some (.int x1), some (.int x2), some (.int x3)]) (J1 := []) (st1 := [(.int (sA q1.2 29 (((sI q1.2 0 40) + ci_1) + x3)))]) (w1 := mkM q1.2) (fun _ _ => rfl) h (fun h => ?_)
            refine bfr_in (i := x1) (m := 14) 4 (pc1 := 59) (L1 := [some (.ref 0), some (.int x1), some (.int x2), some (.int x3)]) (J1 := []) (st1 := [(.int (sA q1.2 22 x1)), (.int (sA q1.2 29 (((sI q1.2 0 40) + ci_1) + x3)))]) (w1 := mkM q1.2) (fun _ _ => rfl) h (fun h => ?_)
            refine bfr_br 1 (pc1 := 62) (L1 := [some (.ref 0), some (.int x1), some (.int x2), some (.int x3)]) (J1 := []) (st1 := []) (w1 := mkM q1.2) (pc2 := 76) (L2 := [some (.ref 0), some (.int x1), some (.int x2), some (.int x3)]) (J2 := []) (st2 := []) (w2 := mkM q1.2) (fun _ _ => rfl) h (fun h => ?_) (fun h => ?_)
            · refine bfr_run 1 74 [some (.ref 0), some (.int x1), some (.int x2), some (.int x3)] [] [] (mkM q1.2) (fun _ _ => rfl) ?_
              exact k_m_taken_b74 n d _ q (ih) _ _ _ _ _ h
            · exact k_m_taken_b76 n d _ q (ih) _ _ _ _ h
set_option maxRecDepth 100000 in
theorem k_m_taken (n d : Nat) (q : (Int32 × bS)) (x1 : Int32) (x2 : Int32) (σ : bS) (h : m_taken n x1 x2 σ = some q) : bfr MT (d + 5) M_X12_taken 0 [some (.ref 0), some (.int x1), some (.int x2), none] [] [] (mkM σ) (some (.int q.1), mkM q.2) := by
  unfold m_taken at h
  refine bfr_run 2 2 [some (.ref 0), some (.int x1), some (.int x2), some (.int ci_0)] [] [] (mkM σ) (fun _ _ => rfl) ?_
  exact k_m_taken_b2 n d q _ _ _ _ _ h
set_option maxRecDepth 100000 in
theorem k_m_ruleGoes_b104 (n d : Nat) (r7 : Int32 → Int32 → bS → Option bS) (q : bS) (hr7 : ∀ (x1 : Int32) (x2 : Int32) (o3 : Option Value) (o4 : Option Value) (σ : bS), r7 x1 x2 σ = some q → bfr MT (d + 6) M_X12_ruleGoes 7 [some (.ref 0), some (.int x1), some (.int x2), o3, o4] [] [] (mkM σ) (none, mkM q)) (x1 : Int32) (x2 : Int32) (o3 : Option Value) (o4 : Option Value) (σ : bS) (h : m_ruleGoes_b104 n r7 x1 x2 σ = some q) : bfr MT (d + 6) M_X12_ruleGoes 104 [some (.ref 0), some (.int x1), some (.int x2), o3, o4] [] [] (mkM σ) (none, mkM q) := by
  unfold m_ruleGoes_b104 at h
  refine bfr_run 1 107 [some (.ref 0), some (.int x1), some (.int (x2 + ci_1)), o3, o4] [] [] (mkM σ) (fun _ _ => rfl) ?_
  refine bfr_run 1 7 [some (.ref 0), some (.int x1), some (.int (x2 + ci_1)), o3, o4] [] [] (mkM σ) (fun _ _ => rfl) ?_
  exact hr7 _ _ _ _ _ h
set_option maxRecDepth 100000 in
theorem k_m_ruleGoes_b59 (n d : Nat) (r7 : Int32 → Int32 → bS → Option bS) (q : bS) (hr7 : ∀ (x1 : Int32) (x2 : Int32) (o3 : Option Value) (o4 : Option Value) (σ : bS), r7 x1 x2 σ = some q → bfr MT (d + 6) M_X12_ruleGoes 7 [some (.ref 0), some (.int x1), some (.int x2), o3, o4] [] [] (mkM σ) (none, mkM q)) (x1 : Int32) (x2 : Int32) (x3 : Int32) (o4 : Option Value) (σ : bS) (h : m_ruleGoes_b59 n r7 x1 x2 x3 σ = some q) : bfr MT (d + 6) M_X12_ruleGoes 59 [some (.ref 0), some (.int x1), some (.int x2), some (.int x3), o4] [] [] (mkM σ) (none, mkM q) := by
  unfold m_ruleGoes_b59 at h
  refine bfr_br 2 (pc1 := 84) (L1 := [some (.ref 0), some (.int x1), some (.int x2), some (.int x3), o4]) (J1 := []) (st1 := []) (w1 := mkM σ) (pc2 := 63) (L2 := [some (.ref 0), some (.int x1), some (.int x2), some (.int x3), o4]) (J2 := []) (st2 := []) (w2 := mkM σ) (fun _ _ => rfl) h (fun h => ?_) (fun h => ?_)
  · refine bfr_call 4 (d1 := d + 5) (M1 := M_X12_crosses) (vs := [(.ref 0), (.int x2), (.int x3)]) (w1 := mkM σ) (pc2 := 90) (L2 := [some (.ref 0), some (.int x1), some (.int x2), some (.int x3), o4]) (J2 := []) (rest := []) (fun a => some (.int a.1)) (fun a => mkM a.2) (fun _ _ => rfl) h (fun a ha => k_m_crosses n (d + 1) _ _ _ _ ha) (fun q1 _ h => ?_)
    refine bfr_run 6 99 [some (.ref 0), some (.int x1), some (.int x2), some (.int x3), some (.int q1.1)] [] [(.int x3), (.int ci_1), (.int (sI q1.2 0 47)), (.ref 0)] (mkM q1.2) (fun _ _ => rfl) ?_
    refine bfr_run 3 104 [some (.ref 0), some (.int x1), some (.int x2), some (.int x3), some (.int q1.1)] [] [] ((mkM q1.2).set 0 (.inr (.inr (12, (mkM_0 q1.2).set 47 (.int ((sI q1.2 0 47) ||| (ci_1 <<< (x3 &&& 31)))))))) (fun _ _ => rfl) ?_
    rw [mkM_I0_47]
    exact k_m_ruleGoes_b104 n d _ q hr7 _ _ _ _ _ h
  · refine bfr_run 6 74 [some (.ref 0), some (.int x1), some (.int x2), some (.int x3), o4] [] [(.int ((sI σ 0 40) + cb_33)), (.ref 29)] (mkM σ) (fun _ _ => rfl) ?_
    refine bfr_in (i := (((sI σ 0 40) + cb_33) + x2)) (m := 2208) 4 (pc1 := 78) (L1 := [some (.ref 0), some (.int x1), some (.int x2), some (.int x3), o4]) (J1 := []) (st1 := [(.int (sA σ 29 (((sI σ 0 40) + cb_33) + x2))), (.int (((sI σ 0 40) + cb_33) + x2)), (.ref 29)]) (w1 := mkM σ) (fun _ _ => rfl) h (fun h => ?_)
    refine bfr_in (i := (((sI σ 0 40) + cb_33) + x2)) (m := 2208) 3 (pc1 := 81) (L1 := [some (.ref 0), some (.int x1), some (.int x2), some (.int x3), o4]) (J1 := []) (st1 := []) (w1 := ((mkM σ).set 29 (.inl (0, 2208, upd (σ.2.1 29) ((((sI σ 0 40) + cb_33) + x2)).toNatClampNeg ((sA σ 29 (((sI σ 0 40) + cb_33) + x2)) + ci_1))))) (fun _ _ => rfl) h (fun h => ?_)
    rw [mkM_A29]
    refine bfr_run 1 104 [some (.ref 0), some (.int x1), some (.int x2), some (.int x3), o4] [] [] (mkM (uA σ 29 (((sI σ 0 40) + cb_33) + x2) ((sA σ 29 (((sI σ 0 40) + cb_33) + x2)) + ci_1))) (fun _ _ => rfl) ?_
    exact k_m_ruleGoes_b104 n d _ q hr7 _ _ _ _ _ h
set_option maxRecDepth 100000 in
theorem k_m_ruleGoes_b7 (n d : Nat) (q : bS) : ∀ (k : Nat) (x1 : Int32) (x2 : Int32) (o3 : Option Value) (o4 : Option Value) (σ : bS), m_ruleGoes_b7 n k x1 x2 σ = some q → bfr MT (d + 6) M_X12_ruleGoes 7 [some (.ref 0), some (.int x1), some (.int x2), o3, o4] [] [] (mkM σ) (none, mkM q) := by
  intro k
  induction k with
  | zero => intro x1 x2 o3 o4 σ h; exact bno h
  | succ k ih =>
    intro x1 x2 o3 o4 σ h
    unfold m_ruleGoes_b7 at h
    refine bfr_in (i := ci_0) (m := 2) 5 (pc1 := 14) (L1 := [some (.ref 0), some (.int x1), some (.int x2), o3, o4]) (J1 := []) (st1 := [(.int (sA σ 20 ci_0)), (.int x2)]) (w1 := mkM σ) (fun _ _ => rfl) h (fun h => ?_)
    refine bfr_br 1 (pc1 := 110) (L1 := [some (.ref 0), some (.int x1), some (.int x2), o3, o4]) (J1 := []) (st1 := []) (w1 := mkM σ) (pc2 := 17) (L2 := [some (.ref 0), some (.int x1), some (.int x2), o3, o4]) (J2 := []) (st2 := []) (w2 := mkM σ) (fun _ _ => rfl) h (fun h => ?_) (fun h => ?_)
    · refine bfr_call 2 (d1 := d + 5) (M1 := M_X12_hourGoes) (vs := [(.ref 0)]) (w1 := mkM σ) (pc2 := 114) (L2 := [some (.ref 0), some (.int x1), some (.int x2), o3, o4]) (J2 := []) (rest := []) (fun _ => none) (fun a => mkM a) (fun _ _ => rfl) h (fun a ha => k_m_hourGoes n (d + 3) _ _ ha) (fun q2 _ h => ?_)
      cases h
      exact bfr_ret 1 (fun _ _ => rfl)
    · refine bfr_br 3 (pc1 := 104) (L1 := [some (.ref 0), some (.int x1), some (.int x2), o3, o4]) (J1 := []) (st1 := []) (w1 := mkM σ) (pc2 := 22) (L2 := [some (.ref 0), some (.int x1), some (.int x2), o3, o4]) (J2 := []) (st2 := []) (w2 := mkM σ) (fun _ _ => rfl) h (fun h => ?_) (fun h => ?_)
      · exact k_m_ruleGoes_b104 n d _ q (ih) _ _ _ _ _ h
      · refine bfr_call 3 (d1 := d + 5) (M1 := M_X12_isOn) (vs := [(.ref 0), (.int x2)]) (w1 := mkM σ) (pc2 := 27) (L2 := [some (.ref 0), some (.int x1), some (.int x2), o3, o4]) (J2 := []) (rest := []) (fun a => some (.int a.1)) (fun a => mkM a.2) (fun _ _ => rfl) h (fun a ha => k_m_isOn n (d + 5) _ _ _ ha) (fun q3 _ h => ?_)
        refine bfr_br 1 (pc1 := 30) (L1 := [some (.ref 0), some (.int x1), some (.int x2), o3, o4]) (J1 := []) (st1 := []) (w1 := mkM q3.2) (pc2 := 104) (L2 := [some (.ref 0), some (.int x1), some (.int x2), o3, o4]) (J2 := []) (st2 := []) (w2 := mkM q3.2) (fun _ _ => rfl) h (fun h => ?_) (fun h => ?_)
        · refine bfr_call 3 (d1 := d + 5) (M1 := M_X12_isHome) (vs := [(.ref 0), (.int x2)]) (w1 := mkM q3.2) (pc2 := 35) (L2 := [some (.ref 0), some (.int x1), some (.int x2), o3, o4]) (J2 := []) (rest := []) (fun a => some (.int a.1)) (fun a => mkM a.2) (fun _ _ => rfl) h (fun a ha => k_m_isHome n (d + 4) _ _ _ ha) (fun q4 _ h => ?_)
          refine bfr_br 1 (pc1 := 41) (L1 := [some (.ref 0), some (.int x1), some (.int x2), o3, o4]) (J1 := []) (st1 := []) (w1 := mkM q4.2) (pc2 := 38) (L2 := [some (.ref 0), some (.int x1), some (.int x2), o3, o4]) (J2 := []) (st2 := []) (w2 := mkM q4.2) (fun _ _ => rfl) h (fun h => ?_) (fun h => ?_)
          · refine bfr_call 4 (d1 := d + 5) (M1 := M_X12_taken) (vs := [(.ref 0), (.int x2), (.int ci_1)]) (w1 := mkM q4.2) (pc2 := 47) (L2 := [some (.ref 0), some (.int x1), some (.int x2), o3, o4]) (J2 := []) (rest := []) (fun a => some (.int a.1)) (fun a => mkM a.2) (fun _ _ => rfl) h (fun a ha => k_m_taken n (d + 0) _ _ _ _ ha) (fun q5 _ h => ?_)
            refine bfr_br 3 (pc1 := 59) (L1 := [some (.ref 0), some (.int x1), some (.int x2), some (.int q5.1), o4]) (J1 := []) (st1 := []) (w1 := mkM q5.2) (pc2 := 52) (L2 := [some (.ref 0), some (.int x1), some (.int x2), some (.int q5.1), o4]) (J2 := []) (st2 := []) (w2 := mkM q5.2) (fun _ _ => rfl) h (fun h => ?_) (fun h => ?_)
            · exact k_m_ruleGoes_b59 n d _ q (ih) _ _ _ _ _ h
            · refine bfr_call 4 (d1 := d + 5) (M1 := M_X12_taken) (vs := [(.ref 0), (.int x2), (.int ci_0)]) (w1 := mkM q5.2) (pc2 := 58) (L2 := [some (.ref 0), some (.int x1), some (.int x2), some (.int q5.1), o4]) (J2 := []) (rest := []) (fun a => some (.int a.1)) (fun a => mkM a.2) (fun _ _ => rfl) h (fun a ha => k_m_taken n (d + 0) _ _ _ _ ha) (fun q6 _ h => ?_)
              refine bfr_run 1 59 [some (.ref 0), some (.int x1), some (.int x2), some (.int q6.1), o4] [] [] (mkM q6.2) (fun _ _ => rfl) ?_
              exact k_m_ruleGoes_b59 n d _ q (ih) _ _ _ _ _ h
          · refine bfr_run 1 104 [some (.ref 0), some (.int x1), some (.int x2), o3, o4] [] [] (mkM q4.2) (fun _ _ => rfl) ?_
            exact k_m_ruleGoes_b104 n d _ q (ih) _ _ _ _ _ h
        · exact k_m_ruleGoes_b104 n d _ q (ih) _ _ _ _ _ h
set_option maxRecDepth 100000 in
theorem k_m_ruleGoes (n d : Nat) (q : bS) (x1 : Int32) (σ : bS) (h : m_ruleGoes n x1 σ = some q) : bfr MT (d + 6) M_X12_ruleGoes 0 [some (.ref 0), some (.int x1), none, none, none] [] [] (mkM σ) (none, mkM q) := by
  unfold m_ruleGoes at h
  refine bfr_run 3 5 [some (.ref 0), some (.int x1), none, none, none] [] [] ((mkM σ).set 0 (.inr (.inr (12, (mkM_0 σ).set 47 (.int ci_0))))) (fun _ _ => rfl) ?_
  rw [mkM_I0_47]
  refine bfr_run 2 7 [some (.ref 0), some (.int x1), some (.int ci_0), none, none] [] [] (mkM (uI σ 0 47 ci_0)) (fun _ _ => rfl) ?_
  exact k_m_ruleGoes_b7 n d q _ _ _ _ _ _ h
set_option maxRecDepth 100000 in
theorem k_m_rulesGo_b2 (n d : Nat) (q : bS) : ∀ (k : Nat) (x1 : Int32) (x2 : Int32) (σ : bS), m_rulesGo_b2 n k x1 x2 σ = some q → bfr MT (d + 7) M_X12_rulesGo 2 [some (.ref 0), some (.int x1), some (.int x2)] [] [] (mkM σ) (none, mkM q) := by
  intro k
  induction k with
  | zero => intro x1 x2 σ h; exact bno h
  | succ k ih =>
    intro x1 x2 σ h
    unfold m_rulesGo_b2 at h
    refine bfr_br 3 (pc1 := 18) (L1 := [some (.ref 0), some (.int x1), some (.int x2)]) (J1 := []) (st1 := []) (w1 := mkM σ) (pc2 := 7) (L2 := [some (.ref 0), some (.int x1), some (.int x2)]) (J2 := []) (st2 := []) (w2 := mkM σ) (fun _ _ => rfl) h (fun h => ?_) (fun h => ?_)
    · cases h
      exact bfr_ret 1 (fun _ _ => rfl)
    · refine bfr_call 3 (d1 := d + 6) (M1 := M_X12_ruleGoes) (vs := [(.ref 0), (.int ci_m1)]) (w1 := mkM σ) (pc2 := 12) (L2 := [some (.ref 0), some (.int x1), some (.int x2)]) (J2 := []) (rest := []) (fun _ => none) (fun a => mkM a) (fun _ _ => rfl) h (fun a ha => k_m_ruleGoes n (d + 0) _ _ _ ha) (fun q1 _ h => ?_)
      refine bfr_run 1 15 [some (.ref 0), some (.int x1), some (.int (x2 + ci_1))] [] [] (mkM q1) (fun _ _ => rfl) ?_
      refine bfr_run 1 2 [some (.ref 0), some (.int x1), some (.int (x2 + ci_1))] [] [] (mkM q1) (fun _ _ => rfl) ?_
      exact ih _ _ _ h
set_option maxRecDepth 100000 in
theorem k_m_rulesGo (n d : Nat) (q : bS) (x1 : Int32) (σ : bS) (h : m_rulesGo n x1 σ = some q) : bfr MT (d + 7) M_X12_rulesGo 0 [some (.ref 0), some (.int x1), none] [] [] (mkM σ) (none, mkM q) := by
  unfold m_rulesGo at h
  refine bfr_run 2 2 [some (.ref 0), some (.int x1), some (.int ci_0)] [] [] (mkM σ) (fun _ _ => rfl) ?_
  exact k_m_rulesGo_b2 n d q _ _ _ _ h
set_option maxRecDepth 100000 in
theorem k_m_bank_b55 (n d : Nat) (r19 : Int32 → Int32 → Int32 → bS → Option (Int32 × bS)) (q : (Int32 × bS)) (hr19 : ∀ (x1 : Int32) (x2 : Int32) (x3 : Int32) (σ : bS), r19 x1 x2 x3 σ = some q → bfr MT (d + 1) M_X12_bank 19 [some (.ref 0), some (.int x1), some (.int x2), some (.int x3)] [] [] (mkM σ) (some (.int q.1), mkM q.2)) (x1 : Int32) (x2 : Int32) (x3 : Int32) (σ : bS) (h : m_bank_b55 n r19 x1 x2 x3 σ = some q) : bfr MT (d + 1) M_X12_bank 55 [some (.ref 0), some (.int x1), some (.int x2), some (.int x3)] [] [] (mkM σ) (some (.int q.1), mkM q.2) := by
  unfold m_bank_b55 at h
  refine bfr_run 1 58 [some (.ref 0), some (.int x1), some (.int x2), some (.int (x3 + ci_1))] [] [] (mkM σ) (fun _ _ => rfl) ?_
  refine bfr_run 1 19 [some (.ref 0), some (.int x1), some (.int x2), some (.int (x3 + ci_1))] [] [] (mkM σ) (fun _ _ => rfl) ?_
  exact hr19 _ _ _ _ h
set_option maxRecDepth 100000 in
theorem k_m_bank_b19 (n d : Nat) (q : (Int32 × bS)) : ∀ (k : Nat) (x1 : Int32) (x2 : Int32) (x3 : Int32) (σ : bS), m_bank_b19 n k x1 x2 x3 σ = some q → bfr MT (d + 1) M_X12_bank 19 [some (.ref 0), some (.int x1), some (.int x2), some (.int x3)] [] [] (mkM σ) (some (.int q.1), mkM q.2) := by
  intro k
  induction k with
  | zero => intro x1 x2 x3 σ h; exact bno h
  | succ k ih =>
    intro x1 x2 x3 σ h
    unfold m_bank_b19 at h
    refine bfr_in (i := ci_0) (m := 2) 5 (pc1 := 26) (L1 := [some (.ref 0), some (.int x1), some (.int x2), some (.int x3)]) (J1 := []) (st1 := [(.int (sA σ 20 ci_0)), (.int x3)]) (w1 := mkM σ) (fun _ _ => rfl) h (fun h => ?_)
    refine bfr_br 1 (pc1 := 61) (L1 := [some (.ref 0), some (.int x1), some (.int x2), some (.int x3)]) (J1 := []) (st1 := []) (w1 := mkM σ) (pc2 := 29) (L2 := [some (.ref 0), some (.int x1), some (.int x2), some (.int x3)]) (J2 := []) (st2 := []) (w2 := mkM σ) (fun _ _ => rfl) h (fun h => ?_) (fun h => ?_)
    · cases h
      exact bfr_ret 2 (fun _ _ => rfl)
    · refine bfr_call 3 (d1 := d + 0) (M1 := M_X12_isOn) (vs := [(.ref 0), (.int x3)]) (w1 := mkM σ) (pc2 := 34) (L2 := [some (.ref 0), some (.int x1), some (.int x2), some (.int x3)]) (J2 := []) (rest := []) (fun a => some (.int a.1)) (fun a => mkM a.2) (fun _ _ => rfl) h (fun a ha => k_m_isOn n (d + 0) _ _ _ ha) (fun q1 _ h => ?_)
      refine bfr_br 1 (pc1 := 37) (L1 := [some (.ref 0), some (.int x1), some (.int x2), some (.int x3)]) (J1 := []) (st1 := []) (w1 := mkM q1.2) (pc2 := 55) (L2 := [some (.ref 0), some (.int x1), some (.int x2), some (.int x3)]) (J2 := []) (st2 := []) (w2 := mkM q1.2) (fun _ _ => rfl) h (fun h => ?_) (fun h => ?_)
      · refine bfr_in (i := (ci_5 + x3)) (m := 2208) 6 (pc1 := 45) (L1 := [some (.ref 0), some (.int x1), some (.int x2), some (.int x3)]) (J1 := []) (st1 := [(.int (sA q1.2 29 (ci_5 + x3)))]) (w1 := mkM q1.2) (fun _ _ => rfl) h (fun h => ?_)
        refine bfr_br 2 (pc1 := 49) (L1 := [some (.ref 0), some (.int x1), some (.int x2), some (.int x3)]) (J1 := []) (st1 := []) (w1 := mkM q1.2) (pc2 := 55) (L2 := [some (.ref 0), some (.int x1), some (.int x2), some (.int x3)]) (J2 := []) (st2 := []) (w2 := mkM q1.2) (fun _ _ => rfl) h (fun h => ?_) (fun h => ?_)
        · refine bfr_run 6 55 [some (.ref 0), some (.int x1), some (.int (x2 ||| (ci_1 <<< (x3 &&& 31)))), some (.int x3)] [] [] (mkM q1.2) (fun _ _ => rfl) ?_
          exact k_m_bank_b55 n d _ q (ih) _ _ _ _ h
        · exact k_m_bank_b55 n d _ q (ih) _ _ _ _ h
      · exact k_m_bank_b55 n d _ q (ih) _ _ _ _ h
set_option maxRecDepth 100000 in
theorem k_m_bank (n d : Nat) (q : (Int32 × bS)) (x1 : Int32) (σ : bS) (h : m_bank n x1 σ = some q) : bfr MT (d + 1) M_X12_bank 0 [some (.ref 0), some (.int x1), none, none] [] [] (mkM σ) (some (.int q.1), mkM q.2) := by
  unfold m_bank at h
  refine bfr_call 3 (d1 := d + 0) (M1 := M_X12_isBank) (vs := [(.ref 0), (.int x1)]) (w1 := mkM σ) (pc2 := 5) (L2 := [some (.ref 0), some (.int x1), none, none]) (J2 := []) (rest := []) (fun a => some (.int a.1)) (fun a => mkM a.2) (fun _ _ => rfl) h (fun a ha => k_m_isBank n (d + 0) _ _ _ ha) (fun q2 _ h => ?_)
  refine bfr_br 1 (pc1 := 8) (L1 := [some (.ref 0), some (.int x1), none, none]) (J1 := []) (st1 := []) (w1 := mkM q2.2) (pc2 := 10) (L2 := [some (.ref 0), some (.int x1), none, none]) (J2 := []) (st2 := []) (w2 := mkM q2.2) (fun _ _ => rfl) h (fun h => ?_) (fun h => ?_)
  · cases h
    exact bfr_ret 2 (fun _ _ => rfl)
  · refine bfr_run 3 15 [some (.ref 0), some (.int x1), none, none] [] [] ((mkM q2.2).set 0 (.inr (.inr (12, (mkM_0 q2.2).set 40 (.int ci_0))))) (fun _ _ => rfl) ?_
    rw [mkM_I0_40]
    refine bfr_run 4 19 [some (.ref 0), some (.int x1), some (.int ci_0), some (.int ci_0)] [] [] (mkM (uI q2.2 0 40 ci_0)) (fun _ _ => rfl) ?_
    exact k_m_bank_b19 n d q _ _ _ _ _ h
set_option maxRecDepth 100000 in
theorem k_m_bridge_b101 (n d : Nat) (r69 : Int32 → Int32 → Int32 → bS → Option (Int32 × bS)) (q : (Int32 × bS)) (hr69 : ∀ (x1 : Int32) (x3 : Int32) (x4 : Int32) (o2 : Option Value) (σ : bS), r69 x1 x3 x4 σ = some q → bfr MT (d + 1) M_X12_bridge 69 [some (.ref 0), some (.int x1), o2, some (.int x3), some (.int x4)] [] [] (mkM σ) (some (.int q.1), mkM q.2)) (x1 : Int32) (x3 : Int32) (x4 : Int32) (o2 : Option Value) (σ : bS) (h : m_bridge_b101 n r69 x1 x3 x4 σ = some q) : bfr MT (d + 1) M_X12_bridge 101 [some (.ref 0), some (.int x1), o2, some (.int x3), some (.int x4)] [] [] (mkM σ) (some (.int q.1), mkM q.2) := by
  unfold m_bridge_b101 at h
  refine bfr_run 1 104 [some (.ref 0), some (.int x1), o2, some (.int x3), some (.int (x4 + ci_1))] [] [] (mkM σ) (fun _ _ => rfl) ?_
  refine bfr_run 1 69 [some (.ref 0), some (.int x1), o2, some (.int x3), some (.int (x4 + ci_1))] [] [] (mkM σ) (fun _ _ => rfl) ?_
  exact hr69 _ _ _ _ _ h
set_option maxRecDepth 100000 in
theorem k_m_bridge_b69 (n d : Nat) (q : (Int32 × bS)) : ∀ (k : Nat) (x1 : Int32) (x3 : Int32) (x4 : Int32) (o2 : Option Value) (σ : bS), m_bridge_b69 n k x1 x3 x4 σ = some q → bfr MT (d + 1) M_X12_bridge 69 [some (.ref 0), some (.int x1), o2, some (.int x3), some (.int x4)] [] [] (mkM σ) (some (.int q.1), mkM q.2) := by
  intro k
  induction k with
  | zero => intro x1 x3 x4 o2 σ h; exact bno h
  | succ k ih =>
    intro x1 x3 x4 o2 σ h
    unfold m_bridge_b69 at h
    refine bfr_in (i := ci_0) (m := 2) 5 (pc1 := 77) (L1 := [some (.ref 0), some (.int x1), o2, some (.int x3), some (.int x4)]) (J1 := []) (st1 := [(.int (sA σ 20 ci_0)), (.int x4)]) (w1 := mkM σ) (fun _ _ => rfl) h (fun h => ?_)
    refine bfr_br 1 (pc1 := 107) (L1 := [some (.ref 0), some (.int x1), o2, some (.int x3), some (.int x4)]) (J1 := []) (st1 := []) (w1 := mkM σ) (pc2 := 80) (L2 := [some (.ref 0), some (.int x1), o2, some (.int x3), some (.int x4)]) (J2 := []) (st2 := []) (w2 := mkM σ) (fun _ _ => rfl) h (fun h => ?_) (fun h => ?_)
    · cases h
      exact bfr_ret 2 (fun _ _ => rfl)
    · refine bfr_in (i := (cb_12 + x4)) (m := 2208) 6 (pc1 := 90) (L1 := [some (.ref 0), some (.int x1), o2, some (.int x3), some (.int x4)]) (J1 := []) (st1 := [(.int (sA σ 29 (cb_12 + x4)))]) (w1 := mkM σ) (fun _ _ => rfl) h (fun h => ?_)
      refine bfr_br 2 (pc1 := 94) (L1 := [some (.ref 0), some (.int x1), o2, some (.int x3), some (.int x4)]) (J1 := []) (st1 := []) (w1 := mkM σ) (pc2 := 101) (L2 := [some (.ref 0), some (.int x1), o2, some (.int x3), some (.int x4)]) (J2 := []) (st2 := []) (w2 := mkM σ) (fun _ _ => rfl) h (fun h => ?_) (fun h => ?_)
      · refine bfr_run 6 101 [some (.ref 0), some (.int x1), o2, some (.int (x3 ||| (ci_1 <<< (x4 &&& 31)))), some (.int x4)] [] [] (mkM σ) (fun _ _ => rfl) ?_
        exact k_m_bridge_b101 n d _ q (ih) _ _ _ _ _ h
      · exact k_m_bridge_b101 n d _ q (ih) _ _ _ _ _ h
set_option maxRecDepth 100000 in
theorem k_m_bridge_b17 (n d : Nat) (q : (Int32 × bS)) (o0 : Option Value) (o1 : Option Value) (o2 : Option Value) (o3 : Option Value) (o4 : Option Value) (σ : bS) (h : m_bridge_b17 n σ = some q) : bfr MT (d + 1) M_X12_bridge 17 [o0, o1, o2, o3, o4] [] [] (mkM σ) (some (.int q.1), mkM q.2) := by
  unfold m_bridge_b17 at h
  cases h
  exact bfr_ret 2 (fun _ _ => rfl)
set_option maxRecDepth 100000 in
theorem k_m_bridge (n d : Nat) (q : (Int32 × bS)) (x1 : Int32) (x2 : Int32) (σ : bS) (h : m_bridge n x1 x2 σ = some q) : bfr MT (d + 1) M_X12_bridge 0 [some (.ref 0), some (.int x1), some (.int x2), none, none] [] [] (mkM σ) (some (.int q.1), mkM q.2) := by
  unfold m_bridge at h
  refine bfr_call 3 (d1 := d + 0) (M1 := M_X12_isBridge) (vs := [(.ref 0), (.int x1)]) (w1 := mkM σ) (pc2 := 5) (L2 := [some (.ref 0), some (.int x1), some (.int x2), none, none]) (J2 := []) (rest := []) (fun a => some (.int a.1)) (fun a => mkM a.2) (fun _ _ => rfl) h (fun a ha => k_m_isBridge n (d + 0) _ _ _ ha) (fun q1 _ h => ?_)
  refine bfr_br 1 (pc1 := 17) (L1 := [some (.ref 0), some (.int x1), some (.int x2), none, none]) (J1 := []) (st1 := []) (w1 := mkM q1.2) (pc2 := 8) (L2 := [some (.ref 0), some (.int x1), some (.int x2), none, none]) (J2 := []) (st2 := []) (w2 := mkM q1.2) (fun _ _ => rfl) h (fun h => ?_) (fun h => ?_)
  · exact k_m_bridge_b17 n d q _ _ _ _ _ _ h
  · refine bfr_call 4 (d1 := d + 0) (M1 := M_X12_isIn) (vs := [(.int x2), (.int ci_0), (.int ci_3)]) (w1 := mkM q1.2) (pc2 := 14) (L2 := [some (.ref 0), some (.int x1), some (.int x2), none, none]) (J2 := []) (rest := []) (fun a => some (.int a.1)) (fun a => mkM a.2) (fun _ _ => rfl) h (fun a ha => k_m_isIn n (d + 0) _ _ _ _ _ ha) (fun q2 _ h => ?_)
    refine bfr_br 1 (pc1 := 17) (L1 := [some (.ref 0), some (.int x1), some (.int x2), none, none]) (J1 := []) (st1 := []) (w1 := mkM q2.2) (pc2 := 19) (L2 := [some (.ref 0), some (.int x1), some (.int x2), none, none]) (J2 := []) (st2 := []) (w2 := mkM q2.2) (fun _ _ => rfl) h (fun h => ?_) (fun h => ?_)
    · exact k_m_bridge_b17 n d q _ _ _ _ _ _ h
    · refine bfr_run 3 24 [some (.ref 0), some (.int x1), some (.int x2), none, none] [] [] ((mkM q2.2).set 0 (.inr (.inr (12, (mkM_0 q2.2).set 40 (.int ci_0))))) (fun _ _ => rfl) ?_
      rw [mkM_I0_40]
      refine bfr_br 2 (pc1 := 28) (L1 := [some (.ref 0), some (.int x1), some (.int x2), none, none]) (J1 := []) (st1 := []) (w1 := mkM (uI q2.2 0 40 ci_0)) (pc2 := 35) (L2 := [some (.ref 0), some (.int x1), some (.int x2), none, none]) (J2 := []) (st2 := []) (w2 := mkM (uI q2.2 0 40 ci_0)) (fun _ _ => rfl) h (fun h => ?_) (fun h => ?_)
      · refine bfr_in (i := x1) (m := 8) 4 (pc1 := 34) (L1 := [some (.ref 0), some (.int x1), some (.int x2), none, none]) (J1 := []) (st1 := [(.int (sA (uI q2.2 0 40 ci_0) 18 x1))]) (w1 := mkM (uI q2.2 0 40 ci_0)) (fun _ _ => rfl) h (fun h => ?_)
        cases h
        exact bfr_ret 1 (fun _ _ => rfl)
      · refine bfr_br 3 (pc1 := 40) (L1 := [some (.ref 0), some (.int x1), some (.int x2), none, none]) (J1 := []) (st1 := []) (w1 := mkM (uI q2.2 0 40 ci_0)) (pc2 := 49) (L2 := [some (.ref 0), some (.int x1), some (.int x2), none, none]) (J2 := []) (st2 := []) (w2 := mkM (uI q2.2 0 40 ci_0)) (fun _ _ => rfl) h (fun h => ?_) (fun h => ?_)
        · refine bfr_in (i := (ci_1 + x1)) (m := 2208) 6 (pc1 := 48) (L1 := [some (.ref 0), some (.int x1), some (.int x2), none, none]) (J1 := []) (st1 := [(.int (sA (uI q2.2 0 40 ci_0) 29 (ci_1 + x1)))]) (w1 := mkM (uI q2.2 0 40 ci_0)) (fun _ _ => rfl) h (fun h => ?_)
          cases h
          exact bfr_ret 1 (fun _ _ => rfl)
        · refine bfr_br 3 (pc1 := 54) (L1 := [some (.ref 0), some (.int x1), some (.int x2), none, none]) (J1 := []) (st1 := []) (w1 := mkM (uI q2.2 0 40 ci_0)) (pc2 := 64) (L2 := [some (.ref 0), some (.int x1), some (.int x2), none, none]) (J2 := []) (st2 := []) (w2 := mkM (uI q2.2 0 40 ci_0)) (fun _ _ => rfl) h (fun h => ?_) (fun h => ?_)
          · refine bfr_in (i := (cb_42 + x1)) (m := 2208) 6 (pc1 := 63) (L1 := [some (.ref 0), some (.int x1), some (.int x2), none, none]) (J1 := []) (st1 := [(.int (sA (uI q2.2 0 40 ci_0) 29 (cb_42 + x1)))]) (w1 := mkM (uI q2.2 0 40 ci_0)) (fun _ _ => rfl) h (fun h => ?_)
            cases h
            exact bfr_ret 1 (fun _ _ => rfl)
          · refine bfr_run 4 69 [some (.ref 0), some (.int x1), some (.int x2), some (.int ci_0), some (.int ci_0)] [] [] (mkM (uI q2.2 0 40 ci_0)) (fun _ _ => rfl) ?_
            exact k_m_bridge_b69 n d q _ _ _ _ _ _ h
set_option maxRecDepth 100000 in
theorem k_m_man_b100 (n d : Nat) (q : (Int32 × bS)) (s0 : Int32) (o0 : Option Value) (o1 : Option Value) (o2 : Option Value) (σ : bS) (h : m_man_b100 n s0 σ = some q) : bfr MT (d + 1) M_X12_man 100 [o0, o1, o2] [] [(.int s0)] (mkM σ) (some (.int q.1), mkM q.2) := by
  unfold m_man_b100 at h
  cases h
  exact bfr_ret 1 (fun _ _ => rfl)
set_option maxRecDepth 100000 in
theorem k_m_man_b17 (n d : Nat) (q : (Int32 × bS)) (o0 : Option Value) (o1 : Option Value) (o2 : Option Value) (σ : bS) (h : m_man_b17 n σ = some q) : bfr MT (d + 1) M_X12_man 17 [o0, o1, o2] [] [] (mkM σ) (some (.int q.1), mkM q.2) := by
  unfold m_man_b17 at h
  cases h
  exact bfr_ret 2 (fun _ _ => rfl)
set_option maxRecDepth 100000 in
theorem k_m_man (n d : Nat) (q : (Int32 × bS)) (x1 : Int32) (x2 : Int32) (σ : bS) (h : m_man n x1 x2 σ = some q) : bfr MT (d + 1) M_X12_man 0 [some (.ref 0), some (.int x1), some (.int x2)] [] [] (mkM σ) (some (.int q.1), mkM q.2) := by
  unfold m_man at h
  refine bfr_call 3 (d1 := d + 0) (M1 := M_X12_isMan) (vs := [(.ref 0), (.int x1)]) (w1 := mkM σ) (pc2 := 5) (L2 := [some (.ref 0), some (.int x1), some (.int x2)]) (J2 := []) (rest := []) (fun a => some (.int a.1)) (fun a => mkM a.2) (fun _ _ => rfl) h (fun a ha => k_m_isMan n (d + 0) _ _ _ ha) (fun q1 _ h => ?_)
  refine bfr_br 1 (pc1 := 17) (L1 := [some (.ref 0), some (.int x1), some (.int x2)]) (J1 := []) (st1 := []) (w1 := mkM q1.2) (pc2 := 8) (L2 := [some (.ref 0), some (.int x1), some (.int x2)]) (J2 := []) (st2 := []) (w2 := mkM q1.2) (fun _ _ => rfl) h (fun h => ?_) (fun h => ?_)
  · exact k_m_man_b17 n d q _ _ _ _ h
  · refine bfr_call 4 (d1 := d + 0) (M1 := M_X12_isIn) (vs := [(.int x2), (.int ci_0), (.int ci_5)]) (w1 := mkM q1.2) (pc2 := 14) (L2 := [some (.ref 0), some (.int x1), some (.int x2)]) (J2 := []) (rest := []) (fun a => some (.int a.1)) (fun a => mkM a.2) (fun _ _ => rfl) h (fun a ha => k_m_isIn n (d + 0) _ _ _ _ _ ha) (fun q2 _ h => ?_)
    refine bfr_br 1 (pc1 := 17) (L1 := [some (.ref 0), some (.int x1), some (.int x2)]) (J1 := []) (st1 := []) (w1 := mkM q2.2) (pc2 := 19) (L2 := [some (.ref 0), some (.int x1), some (.int x2)]) (J2 := []) (st2 := []) (w2 := mkM q2.2) (fun _ _ => rfl) h (fun h => ?_) (fun h => ?_)
    · exact k_m_man_b17 n d q _ _ _ _ h
    · refine bfr_br 2 (pc1 := 23) (L1 := [some (.ref 0), some (.int x1), some (.int x2)]) (J1 := []) (st1 := []) (w1 := mkM q2.2) (pc2 := 32) (L2 := [some (.ref 0), some (.int x1), some (.int x2)]) (J2 := []) (st2 := []) (w2 := mkM q2.2) (fun _ _ => rfl) h (fun h => ?_) (fun h => ?_)
      · refine bfr_in (i := (ci_5 + x1)) (m := 2208) 6 (pc1 := 31) (L1 := [some (.ref 0), some (.int x1), some (.int x2)]) (J1 := []) (st1 := [(.int (sA q2.2 29 (ci_5 + x1)))]) (w1 := mkM q2.2) (fun _ _ => rfl) h (fun h => ?_)
        cases h
        exact bfr_ret 1 (fun _ _ => rfl)
      · refine bfr_br 3 (pc1 := 37) (L1 := [some (.ref 0), some (.int x1), some (.int x2)]) (J1 := []) (st1 := []) (w1 := mkM q2.2) (pc2 := 44) (L2 := [some (.ref 0), some (.int x1), some (.int x2)]) (J2 := []) (st2 := []) (w2 := mkM q2.2) (fun _ _ => rfl) h (fun h => ?_) (fun h => ?_)
        · refine bfr_in (i := x1) (m := 14) 4 (pc1 := 43) (L1 := [some (.ref 0), some (.int x1), some (.int x2)]) (J1 := []) (st1 := [(.int (sA q2.2 22 x1))]) (w1 := mkM q2.2) (fun _ _ => rfl) h (fun h => ?_)
          cases h
          exact bfr_ret 1 (fun _ _ => rfl)
        · refine bfr_br 3 (pc1 := 49) (L1 := [some (.ref 0), some (.int x1), some (.int x2)]) (J1 := []) (st1 := []) (w1 := mkM q2.2) (pc2 := 59) (L2 := [some (.ref 0), some (.int x1), some (.int x2)]) (J2 := []) (st2 := []) (w2 := mkM q2.2) (fun _ _ => rfl) h (fun h => ?_) (fun h => ?_)
          · refine bfr_in (i := (cb_19 + x1)) (m := 2208) 6 (pc1 := 58) (L1 := [some (.ref 0), some (.int x1), some (.int x2)]) (J1 := []) (st1 := [(.int (sA q2.2 29 (cb_19 + x1)))]) (w1 := mkM q2.2) (fun _ _ => rfl) h (fun h => ?_)
            cases h
            exact bfr_ret 1 (fun _ _ => rfl)
          · refine bfr_br 3 (pc1 := 64) (L1 := [some (.ref 0), some (.int x1), some (.int x2)]) (J1 := []) (st1 := []) (w1 := mkM q2.2) (pc2 := 74) (L2 := [some (.ref 0), some (.int x1), some (.int x2)]) (J2 := []) (st2 := []) (w2 := mkM q2.2) (fun _ _ => rfl) h (fun h => ?_) (fun h => ?_)
            · refine bfr_in (i := (cb_26 + x1)) (m := 2208) 6 (pc1 := 73) (L1 := [some (.ref 0), some (.int x1), some (.int x2)]) (J1 := []) (st1 := [(.int (sA q2.2 29 (cb_26 + x1)))]) (w1 := mkM q2.2) (fun _ _ => rfl) h (fun h => ?_)
              cases h
              exact bfr_ret 1 (fun _ _ => rfl)
            · refine bfr_br 3 (pc1 := 79) (L1 := [some (.ref 0), some (.int x1), some (.int x2)]) (J1 := []) (st1 := []) (w1 := mkM q2.2) (pc2 := 91) (L2 := [some (.ref 0), some (.int x1), some (.int x2)]) (J2 := []) (st2 := []) (w2 := mkM q2.2) (fun _ _ => rfl) h (fun h => ?_) (fun h => ?_)
              · refine bfr_in (i := (cb_33 + x1)) (m := 2208) 6 (pc1 := 88) (L1 := [some (.ref 0), some (.int x1), some (.int x2)]) (J1 := []) (st1 := [(.int (sA q2.2 29 (cb_33 + x1)))]) (w1 := mkM q2.2) (fun _ _ => rfl) h (fun h => ?_)
                refine bfr_run 1 100 [some (.ref 0), some (.int x1), some (.int x2)] [] [(.int (sA q2.2 29 (cb_33 + x1)))] (mkM q2.2) (fun _ _ => rfl) ?_
                exact k_m_man_b100 n d q _ _ _ _ _ h
              · refine bfr_in (i := (cb_12 + x1)) (m := 2208) 6 (pc1 := 100) (L1 := [some (.ref 0), some (.int x1), some (.int x2)]) (J1 := []) (st1 := [(.int (sA q2.2 29 (cb_12 + x1)))]) (w1 := mkM q2.2) (fun _ _ => rfl) h (fun h => ?_)
                exact k_m_man_b100 n d q _ _ _ _ _ h
set_option maxRecDepth 100000 in
theorem k_m_wish_b42 (n d : Nat) (q : (Int32 × bS)) (s0 : Int32) (o0 : Option Value) (o1 : Option Value) (o2 : Option Value) (σ : bS) (h : m_wish_b42 n s0 σ = some q) : bfr MT (d + 4) M_X12_wish 42 [o0, o1, o2] [] [(.int s0)] (mkM σ) (some (.int q.1), mkM q.2) := by
  unfold m_wish_b42 at h
  cases h
  exact bfr_ret 1 (fun _ _ => rfl)
set_option maxRecDepth 100000 in
theorem k_m_wish_b16 (n d : Nat) (q : (Int32 × bS)) (o0 : Option Value) (o1 : Option Value) (o2 : Option Value) (σ : bS) (h : m_wish_b16 n σ = some q) : bfr MT (d + 4) M_X12_wish 16 [o0, o1, o2] [] [] (mkM σ) (some (.int q.1), mkM q.2) := by
  unfold m_wish_b16 at h
  cases h
  exact bfr_ret 2 (fun _ _ => rfl)
set_option maxRecDepth 100000 in
theorem k_m_wish (n d : Nat) (q : (Int32 × bS)) (x1 : Int32) (x2 : Int32) (σ : bS) (h : m_wish n x1 x2 σ = some q) : bfr MT (d + 4) M_X12_wish 0 [some (.ref 0), some (.int x1), some (.int x2)] [] [] (mkM σ) (some (.int q.1), mkM q.2) := by
  unfold m_wish at h
  refine bfr_call 3 (d1 := d + 3) (M1 := M_X12_isMan) (vs := [(.ref 0), (.int x1)]) (w1 := mkM σ) (pc2 := 5) (L2 := [some (.ref 0), some (.int x1), some (.int x2)]) (J2 := []) (rest := []) (fun a => some (.int a.1)) (fun a => mkM a.2) (fun _ _ => rfl) h (fun a ha => k_m_isMan n (d + 3) _ _ _ ha) (fun q1 _ h => ?_)
  refine bfr_br 1 (pc1 := 16) (L1 := [some (.ref 0), some (.int x1), some (.int x2)]) (J1 := []) (st1 := []) (w1 := mkM q1.2) (pc2 := 8) (L2 := [some (.ref 0), some (.int x1), some (.int x2)]) (J2 := []) (st2 := []) (w2 := mkM q1.2) (fun _ _ => rfl) h (fun h => ?_) (fun h => ?_)
  · exact k_m_wish_b16 n d q _ _ _ _ h
  · refine bfr_call 3 (d1 := d + 3) (M1 := M_X12_isBridge) (vs := [(.ref 0), (.int x2)]) (w1 := mkM q1.2) (pc2 := 13) (L2 := [some (.ref 0), some (.int x1), some (.int x2)]) (J2 := []) (rest := []) (fun a => some (.int a.1)) (fun a => mkM a.2) (fun _ _ => rfl) h (fun a ha => k_m_isBridge n (d + 3) _ _ _ ha) (fun q2 _ h => ?_)
    refine bfr_br 1 (pc1 := 16) (L1 := [some (.ref 0), some (.int x1), some (.int x2)]) (J1 := []) (st1 := []) (w1 := mkM q2.2) (pc2 := 18) (L2 := [some (.ref 0), some (.int x1), some (.int x2)]) (J2 := []) (st2 := []) (w2 := mkM q2.2) (fun _ _ => rfl) h (fun h => ?_) (fun h => ?_)
    · exact k_m_wish_b16 n d q _ _ _ _ h
    · refine bfr_run 3 23 [some (.ref 0), some (.int x1), some (.int x2)] [] [] ((mkM q2.2).set 0 (.inr (.inr (12, (mkM_0 q2.2).set 40 (.int ci_0))))) (fun _ _ => rfl) ?_
      rw [mkM_I0_40]
      refine bfr_call 3 (d1 := d + 3) (M1 := M_X12_isOn) (vs := [(.ref 0), (.int x1)]) (w1 := mkM (uI q2.2 0 40 ci_0)) (pc2 := 28) (L2 := [some (.ref 0), some (.int x1), some (.int x2)]) (J2 := []) (rest := []) (fun a => some (.int a.1)) (fun a => mkM a.2) (fun _ _ => rfl) h (fun a ha => k_m_isOn n (d + 3) _ _ _ ha) (fun q3 _ h => ?_)
      refine bfr_br 1 (pc1 := 36) (L1 := [some (.ref 0), some (.int x1), some (.int x2)]) (J1 := []) (st1 := []) (w1 := mkM q3.2) (pc2 := 31) (L2 := [some (.ref 0), some (.int x1), some (.int x2)]) (J2 := []) (st2 := []) (w2 := mkM q3.2) (fun _ _ => rfl) h (fun h => ?_) (fun h => ?_)
      · refine bfr_call 4 (d1 := d + 3) (M1 := M_X12_wishOf) (vs := [(.ref 0), (.int x1), (.int x2)]) (w1 := mkM q3.2) (pc2 := 42) (L2 := [some (.ref 0), some (.int x1), some (.int x2)]) (J2 := []) (rest := []) (fun a => some (.int a.1)) (fun a => mkM a.2) (fun _ _ => rfl) h (fun a ha => k_m_wishOf n (d + 0) _ _ _ _ ha) (fun q4 _ h => ?_)
        exact k_m_wish_b42 n d q _ _ _ _ _ h
      · refine bfr_run 2 42 [some (.ref 0), some (.int x1), some (.int x2)] [] [(.int cb_m2)] (mkM q3.2) (fun _ _ => rfl) ?_
        exact k_m_wish_b42 n d q _ _ _ _ _ h
set_option maxRecDepth 100000 in
theorem k_m_toll_b42 (n d : Nat) (q : (Int32 × bS)) (s0 : Int32) (o0 : Option Value) (o1 : Option Value) (o2 : Option Value) (σ : bS) (h : m_toll_b42 n s0 σ = some q) : bfr MT (d + 4) M_X12_toll 42 [o0, o1, o2] [] [(.int s0)] (mkM σ) (some (.int q.1), mkM q.2) := by
  unfold m_toll_b42 at h
  cases h
  exact bfr_ret 1 (fun _ _ => rfl)
set_option maxRecDepth 100000 in
theorem k_m_toll_b16 (n d : Nat) (q : (Int32 × bS)) (o0 : Option Value) (o1 : Option Value) (o2 : Option Value) (σ : bS) (h : m_toll_b16 n σ = some q) : bfr MT (d + 4) M_X12_toll 16 [o0, o1, o2] [] [] (mkM σ) (some (.int q.1), mkM q.2) := by
  unfold m_toll_b16 at h
  cases h
  exact bfr_ret 2 (fun _ _ => rfl)
set_option maxRecDepth 100000 in
theorem k_m_toll (n d : Nat) (q : (Int32 × bS)) (x1 : Int32) (x2 : Int32) (σ : bS) (h : m_toll n x1 x2 σ = some q) : bfr MT (d + 4) M_X12_toll 0 [some (.ref 0), some (.int x1), some (.int x2)] [] [] (mkM σ) (some (.int q.1), mkM q.2) := by
  unfold m_toll at h
  refine bfr_call 3 (d1 := d + 3) (M1 := M_X12_isMan) (vs := [(.ref 0), (.int x1)]) (w1 := mkM σ) (pc2 := 5) (L2 := [some (.ref 0), some (.int x1), some (.int x2)]) (J2 := []) (rest := []) (fun a => some (.int a.1)) (fun a => mkM a.2) (fun _ _ => rfl) h (fun a ha => k_m_isMan n (d + 3) _ _ _ ha) (fun q1 _ h => ?_)
  refine bfr_br 1 (pc1 := 16) (L1 := [some (.ref 0), some (.int x1), some (.int x2)]) (J1 := []) (st1 := []) (w1 := mkM q1.2) (pc2 := 8) (L2 := [some (.ref 0), some (.int x1), some (.int x2)]) (J2 := []) (st2 := []) (w2 := mkM q1.2) (fun _ _ => rfl) h (fun h => ?_) (fun h => ?_)
  · exact k_m_toll_b16 n d q _ _ _ _ h
  · refine bfr_call 3 (d1 := d + 3) (M1 := M_X12_isBridge) (vs := [(.ref 0), (.int x2)]) (w1 := mkM q1.2) (pc2 := 13) (L2 := [some (.ref 0), some (.int x1), some (.int x2)]) (J2 := []) (rest := []) (fun a => some (.int a.1)) (fun a => mkM a.2) (fun _ _ => rfl) h (fun a ha => k_m_isBridge n (d + 3) _ _ _ ha) (fun q2 _ h => ?_)
    refine bfr_br 1 (pc1 := 16) (L1 := [some (.ref 0), some (.int x1), some (.int x2)]) (J1 := []) (st1 := []) (w1 := mkM q2.2) (pc2 := 18) (L2 := [some (.ref 0), some (.int x1), some (.int x2)]) (J2 := []) (st2 := []) (w2 := mkM q2.2) (fun _ _ => rfl) h (fun h => ?_) (fun h => ?_)
    · exact k_m_toll_b16 n d q _ _ _ _ h
    · refine bfr_run 3 23 [some (.ref 0), some (.int x1), some (.int x2)] [] [] ((mkM q2.2).set 0 (.inr (.inr (12, (mkM_0 q2.2).set 40 (.int ci_0))))) (fun _ _ => rfl) ?_
      rw [mkM_I0_40]
      refine bfr_call 3 (d1 := d + 3) (M1 := M_X12_isOn) (vs := [(.ref 0), (.int x1)]) (w1 := mkM (uI q2.2 0 40 ci_0)) (pc2 := 28) (L2 := [some (.ref 0), some (.int x1), some (.int x2)]) (J2 := []) (rest := []) (fun a => some (.int a.1)) (fun a => mkM a.2) (fun _ _ => rfl) h (fun a ha => k_m_isOn n (d + 3) _ _ _ ha) (fun q3 _ h => ?_)
      refine bfr_br 1 (pc1 := 36) (L1 := [some (.ref 0), some (.int x1), some (.int x2)]) (J1 := []) (st1 := []) (w1 := mkM q3.2) (pc2 := 31) (L2 := [some (.ref 0), some (.int x1), some (.int x2)]) (J2 := []) (st2 := []) (w2 := mkM q3.2) (fun _ _ => rfl) h (fun h => ?_) (fun h => ?_)
      · refine bfr_call 4 (d1 := d + 3) (M1 := M_X12_tollOf) (vs := [(.ref 0), (.int x1), (.int x2)]) (w1 := mkM q3.2) (pc2 := 42) (L2 := [some (.ref 0), some (.int x1), some (.int x2)]) (J2 := []) (rest := []) (fun a => some (.int a.1)) (fun a => mkM a.2) (fun _ _ => rfl) h (fun a ha => k_m_tollOf n (d + 0) _ _ _ _ ha) (fun q4 _ h => ?_)
        exact k_m_toll_b42 n d q _ _ _ _ _ h
      · refine bfr_run 2 42 [some (.ref 0), some (.int x1), some (.int x2)] [] [(.int cb_m2)] (mkM q3.2) (fun _ _ => rfl) ?_
        exact k_m_toll_b42 n d q _ _ _ _ _ h
set_option maxRecDepth 100000 in
theorem k_m_keeps_b53 (n d : Nat) (q : bS) (o0 : Option Value) (σ : bS) (h : m_keeps_b53 n σ = some q) : bfr MT (d + 1) M_X12_keeps 53 [o0] [] [] (mkM σ) (none, mkM q) := by
  unfold m_keeps_b53 at h
  cases h
  exact bfr_ret 1 (fun _ _ => rfl)
set_option maxRecDepth 100000 in
theorem k_m_keeps (n d : Nat) (q : bS) (σ : bS) (h : m_keeps n σ = some q) : bfr MT (d + 1) M_X12_keeps 0 [some (.ref 0)] [] [] (mkM σ) (none, mkM q) := by
  unfold m_keeps at h
  refine bfr_run 3 5 [some (.ref 0)] [] [] ((mkM σ).set 0 (.inr (.inr (12, (mkM_0 σ).set 40 (.int ci_0))))) (fun _ _ => rfl) ?_
  rw [mkM_I0_40]
  refine bfr_run 6 16 [some (.ref 0)] [] [(.int (sI (uI σ 0 40 ci_0) 0 42)), (.int cb_48), (.int cs_288), (.int ci_0), (.ref 0)] (mkM (uI σ 0 40 ci_0)) (fun _ _ => rfl) ?_
  refine bfr_call 3 (d1 := d + 0) (M1 := M_X12_copies) (vs := [(.ref 0), (.int ci_0), (.int (cs_288 + (cb_48 * (sI (uI σ 0 40 ci_0) 0 42))))]) (w1 := mkM (uI σ 0 40 ci_0)) (pc2 := 21) (L2 := [some (.ref 0)]) (J2 := []) (rest := []) (fun _ => none) (fun a => mkM a) (fun _ _ => rfl) h (fun a ha => k_m_copies n (d + 0) _ _ _ _ ha) (fun q1 _ h => ?_)
  refine bfr_run 6 30 [some (.ref 0)] [] [(.int cb_40), (.int ((sI q1 0 42) + ci_1)), (.ref 0)] (mkM q1) (fun _ _ => rfl) ?_
  refine bfr_chk 1 (pc1 := 31) (L1 := [some (.ref 0)]) (J1 := []) (st1 := [(.int (brem ((sI q1 0 42) + ci_1) cb_40)), (.ref 0)]) (w1 := mkM q1) (fun _ _ => rfl) h (fun h => ?_)
  refine bfr_run 1 34 [some (.ref 0)] [] [] ((mkM q1).set 0 (.inr (.inr (12, (mkM_0 q1).set 42 (.int (brem ((sI q1 0 42) + ci_1) cb_40)))))) (fun _ _ => rfl) ?_
  rw [mkM_I0_42]
  refine bfr_br 4 (pc1 := 53) (L1 := [some (.ref 0)]) (J1 := []) (st1 := []) (w1 := mkM (uI q1 0 42 (brem ((sI q1 0 42) + ci_1) cb_40))) (pc2 := 43) (L2 := [some (.ref 0)]) (J2 := []) (st2 := []) (w2 := mkM (uI q1 0 42 (brem ((sI q1 0 42) + ci_1) cb_40))) (fun _ _ => rfl) h (fun h => ?_) (fun h => ?_)
  · exact k_m_keeps_b53 n d q _ _ h
  · refine bfr_run 6 53 [some (.ref 0)] [] [] ((mkM (uI q1 0 42 (brem ((sI q1 0 42) + ci_1) cb_40))).set 0 (.inr (.inr (12, (mkM_0 (uI q1 0 42 (brem ((sI q1 0 42) + ci_1) cb_40))).set 41 (.int ((sI (uI q1 0 42 (brem ((sI q1 0 42) + ci_1) cb_40)) 0 41) + ci_1)))))) (fun _ _ => rfl) ?_
    rw [mkM_I0_41]
    exact k_m_keeps_b53 n d q _ _ h
set_option maxRecDepth 100000 in
theorem k_m_cross_b16 (n d : Nat) (q : (Int32 × bS)) (o0 : Option Value) (o1 : Option Value) (o2 : Option Value) (o3 : Option Value) (σ : bS) (h : m_cross_b16 n σ = some q) : bfr MT (d + 5) M_X12_cross 16 [o0, o1, o2, o3] [] [] (mkM σ) (some (.int q.1), mkM q.2) := by
  unfold m_cross_b16 at h
  cases h
  exact bfr_ret 2 (fun _ _ => rfl)
set_option maxRecDepth 100000 in
theorem k_m_cross (n d : Nat) (q : (Int32 × bS)) (x1 : Int32) (x2 : Int32) (σ : bS) (h : m_cross n x1 x2 σ = some q) : bfr MT (d + 5) M_X12_cross 0 [some (.ref 0), some (.int x1), some (.int x2), none] [] [] (mkM σ) (some (.int q.1), mkM q.2) := by
  unfold m_cross at h
  refine bfr_call 3 (d1 := d + 4) (M1 := M_X12_isMan) (vs := [(.ref 0), (.int x1)]) (w1 := mkM σ) (pc2 := 5) (L2 := [some (.ref 0), some (.int x1), some (.int x2), none]) (J2 := []) (rest := []) (fun a => some (.int a.1)) (fun a => mkM a.2) (fun _ _ => rfl) h (fun a ha => k_m_isMan n (d + 4) _ _ _ ha) (fun q1 _ h => ?_)
  refine bfr_br 1 (pc1 := 16) (L1 := [some (.ref 0), some (.int x1), some (.int x2), none]) (J1 := []) (st1 := []) (w1 := mkM q1.2) (pc2 := 8) (L2 := [some (.ref 0), some (.int x1), some (.int x2), none]) (J2 := []) (st2 := []) (w2 := mkM q1.2) (fun _ _ => rfl) h (fun h => ?_) (fun h => ?_)
  · exact k_m_cross_b16 n d q _ _ _ _ _ h
  · refine bfr_call 3 (d1 := d + 4) (M1 := M_X12_isBridge) (vs := [(.ref 0), (.int x2)]) (w1 := mkM q1.2) (pc2 := 13) (L2 := [some (.ref 0), some (.int x1), some (.int x2), none]) (J2 := []) (rest := []) (fun a => some (.int a.1)) (fun a => mkM a.2) (fun _ _ => rfl) h (fun a ha => k_m_isBridge n (d + 4) _ _ _ ha) (fun q2 _ h => ?_)
    refine bfr_br 1 (pc1 := 16) (L1 := [some (.ref 0), some (.int x1), some (.int x2), none]) (J1 := []) (st1 := []) (w1 := mkM q2.2) (pc2 := 18) (L2 := [some (.ref 0), some (.int x1), some (.int x2), none]) (J2 := []) (st2 := []) (w2 := mkM q2.2) (fun _ _ => rfl) h (fun h => ?_) (fun h => ?_)
    · exact k_m_cross_b16 n d q _ _ _ _ _ h
    · refine bfr_run 3 23 [some (.ref 0), some (.int x1), some (.int x2), none] [] [] ((mkM q2.2).set 0 (.inr (.inr (12, (mkM_0 q2.2).set 40 (.int ci_0))))) (fun _ _ => rfl) ?_
      rw [mkM_I0_40]
      refine bfr_call 4 (d1 := d + 4) (M1 := M_X12_could) (vs := [(.ref 0), (.int x1), (.int x2)]) (w1 := mkM (uI q2.2 0 40 ci_0)) (pc2 := 29) (L2 := [some (.ref 0), some (.int x1), some (.int x2), none]) (J2 := []) (rest := []) (fun a => some (.int a.1)) (fun a => mkM a.2) (fun _ _ => rfl) h (fun a ha => k_m_could n (d + 0) _ _ _ _ ha) (fun q3 _ h => ?_)
      refine bfr_br 1 (pc1 := 32) (L1 := [some (.ref 0), some (.int x1), some (.int x2), none]) (J1 := []) (st1 := []) (w1 := mkM q3.2) (pc2 := 35) (L2 := [some (.ref 0), some (.int x1), some (.int x2), none]) (J2 := []) (st2 := []) (w2 := mkM q3.2) (fun _ _ => rfl) h (fun h => ?_) (fun h => ?_)
      · cases h
        exact bfr_ret 2 (fun _ _ => rfl)
      · refine bfr_call 2 (d1 := d + 4) (M1 := M_X12_keeps) (vs := [(.ref 0)]) (w1 := mkM q3.2) (pc2 := 39) (L2 := [some (.ref 0), some (.int x1), some (.int x2), none]) (J2 := []) (rest := []) (fun _ => none) (fun a => mkM a) (fun _ _ => rfl) h (fun a ha => k_m_keeps n (d + 3) _ _ ha) (fun q4 _ h => ?_)
        refine bfr_call 4 (d1 := d + 4) (M1 := M_X12_crosses) (vs := [(.ref 0), (.int x1), (.int x2)]) (w1 := mkM q4) (pc2 := 45) (L2 := [some (.ref 0), some (.int x1), some (.int x2), none]) (J2 := []) (rest := []) (fun a => some (.int a.1)) (fun a => mkM a.2) (fun _ _ => rfl) h (fun a ha => k_m_crosses n (d + 0) _ _ _ _ ha) (fun q5 _ h => ?_)
        refine bfr_call 3 (d1 := d + 4) (M1 := M_X12_hourGoes) (vs := [(.ref 0)]) (w1 := mkM q5.2) (pc2 := 50) (L2 := [some (.ref 0), some (.int x1), some (.int x2), some (.int q5.1)]) (J2 := []) (rest := []) (fun _ => none) (fun a => mkM a) (fun _ _ => rfl) h (fun a ha => k_m_hourGoes n (d + 2) _ _ ha) (fun q6 _ h => ?_)
        cases h
        exact bfr_ret 2 (fun _ _ => rfl)
set_option maxRecDepth 100000 in
theorem k_m_pair_b29 (n d : Nat) (q : (Int32 × bS)) (o0 : Option Value) (o1 : Option Value) (o2 : Option Value) (o3 : Option Value) (o4 : Option Value) (o5 : Option Value) (σ : bS) (h : m_pair_b29 n σ = some q) : bfr MT (d + 5) M_X12_pair 29 [o0, o1, o2, o3, o4, o5] [] [] (mkM σ) (some (.int q.1), mkM q.2) := by
  unfold m_pair_b29 at h
  cases h
  exact bfr_ret 2 (fun _ _ => rfl)
set_option maxRecDepth 100000 in
theorem k_m_pair (n d : Nat) (q : (Int32 × bS)) (x1 : Int32) (x2 : Int32) (x3 : Int32) (σ : bS) (h : m_pair n x1 x2 x3 σ = some q) : bfr MT (d + 5) M_X12_pair 0 [some (.ref 0), some (.int x1), some (.int x2), some (.int x3), none, none] [] [] (mkM σ) (some (.int q.1), mkM q.2) := by
  unfold m_pair at h
  refine bfr_call 3 (d1 := d + 4) (M1 := M_X12_isMan) (vs := [(.ref 0), (.int x1)]) (w1 := mkM σ) (pc2 := 5) (L2 := [some (.ref 0), some (.int x1), some (.int x2), some (.int x3), none, none]) (J2 := []) (rest := []) (fun a => some (.int a.1)) (fun a => mkM a.2) (fun _ _ => rfl) h (fun a ha => k_m_isMan n (d + 4) _ _ _ ha) (fun q1 _ h => ?_)
  refine bfr_br 1 (pc1 := 29) (L1 := [some (.ref 0), some (.int x1), some (.int x2), some (.int x3), none, none]) (J1 := []) (st1 := []) (w1 := mkM q1.2) (pc2 := 8) (L2 := [some (.ref 0), some (.int x1), some (.int x2), some (.int x3), none, none]) (J2 := []) (st2 := []) (w2 := mkM q1.2) (fun _ _ => rfl) h (fun h => ?_) (fun h => ?_)
  · exact k_m_pair_b29 n d q _ _ _ _ _ _ _ h
  · refine bfr_call 3 (d1 := d + 4) (M1 := M_X12_isMan) (vs := [(.ref 0), (.int x2)]) (w1 := mkM q1.2) (pc2 := 13) (L2 := [some (.ref 0), some (.int x1), some (.int x2), some (.int x3), none, none]) (J2 := []) (rest := []) (fun a => some (.int a.1)) (fun a => mkM a.2) (fun _ _ => rfl) h (fun a ha => k_m_isMan n (d + 4) _ _ _ ha) (fun q2 _ h => ?_)
    refine bfr_br 1 (pc1 := 29) (L1 := [some (.ref 0), some (.int x1), some (.int x2), some (.int x3), none, none]) (J1 := []) (st1 := []) (w1 := mkM q2.2) (pc2 := 16) (L2 := [some (.ref 0), some (.int x1), some (.int x2), some (.int x3), none, none]) (J2 := []) (st2 := []) (w2 := mkM q2.2) (fun _ _ => rfl) h (fun h => ?_) (fun h => ?_)
    · exact k_m_pair_b29 n d q _ _ _ _ _ _ _ h
    · refine bfr_br 3 (pc1 := 29) (L1 := [some (.ref 0), some (.int x1), some (.int x2), some (.int x3), none, none]) (J1 := []) (st1 := []) (w1 := mkM q2.2) (pc2 := 21) (L2 := [some (.ref 0), some (.int x1), some (.int x2), some (.int x3), none, none]) (J2 := []) (st2 := []) (w2 := mkM q2.2) (fun _ _ => rfl) h (fun h => ?_) (fun h => ?_)
      · exact k_m_pair_b29 n d q _ _ _ _ _ _ _ h
      · refine bfr_call 3 (d1 := d + 4) (M1 := M_X12_isBridge) (vs := [(.ref 0), (.int x3)]) (w1 := mkM q2.2) (pc2 := 26) (L2 := [some (.ref 0), some (.int x1), some (.int x2), some (.int x3), none, none]) (J2 := []) (rest := []) (fun a => some (.int a.1)) (fun a => mkM a.2) (fun _ _ => rfl) h (fun a ha => k_m_isBridge n (d + 4) _ _ _ ha) (fun q3 _ h => ?_)
        refine bfr_br 1 (pc1 := 29) (L1 := [some (.ref 0), some (.int x1), some (.int x2), some (.int x3), none, none]) (J1 := []) (st1 := []) (w1 := mkM q3.2) (pc2 := 31) (L2 := [some (.ref 0), some (.int x1), some (.int x2), some (.int x3), none, none]) (J2 := []) (st2 := []) (w2 := mkM q3.2) (fun _ _ => rfl) h (fun h => ?_) (fun h => ?_)
        · exact k_m_pair_b29 n d q _ _ _ _ _ _ _ h
        · refine bfr_call 2 (d1 := d + 4) (M1 := M_X12_tries) (vs := [(.ref 0)]) (w1 := mkM q3.2) (pc2 := 35) (L2 := [some (.ref 0), some (.int x1), some (.int x2), some (.int x3), none, none]) (J2 := []) (rest := []) (fun _ => none) (fun a => mkM a) (fun _ _ => rfl) h (fun a ha => k_m_tries n (d + 3) _ _ ha) (fun q4 _ h => ?_)
          refine bfr_call 4 (d1 := d + 4) (M1 := M_X12_could) (vs := [(.ref 0), (.int x1), (.int x3)]) (w1 := mkM q4) (pc2 := 41) (L2 := [some (.ref 0), some (.int x1), some (.int x2), some (.int x3), none, none]) (J2 := []) (rest := []) (fun a => some (.int a.1)) (fun a => mkM a.2) (fun _ _ => rfl) h (fun a ha => k_m_could n (d + 0) _ _ _ _ ha) (fun q5 _ h => ?_)
          refine bfr_br 1 (pc1 := 44) (L1 := [some (.ref 0), some (.int x1), some (.int x2), some (.int x3), none, none]) (J1 := []) (st1 := []) (w1 := mkM q5.2) (pc2 := 47) (L2 := [some (.ref 0), some (.int x1), some (.int x2), some (.int x3), none, none]) (J2 := []) (st2 := []) (w2 := mkM q5.2) (fun _ _ => rfl) h (fun h => ?_) (fun h => ?_)
          · cases h
            exact bfr_ret 2 (fun _ _ => rfl)
          · refine bfr_call 4 (d1 := d + 4) (M1 := M_X12_crosses) (vs := [(.ref 0), (.int x1), (.int x3)]) (w1 := mkM q5.2) (pc2 := 53) (L2 := [some (.ref 0), some (.int x1), some (.int x2), some (.int x3), none, none]) (J2 := []) (rest := []) (fun a => some (.int a.1)) (fun a => mkM a.2) (fun _ _ => rfl) h (fun a ha => k_m_crosses n (d + 0) _ _ _ _ ha) (fun q6 _ h => ?_)
            refine bfr_call 5 (d1 := d + 4) (M1 := M_X12_could) (vs := [(.ref 0), (.int x2), (.int x3)]) (w1 := mkM q6.2) (pc2 := 61) (L2 := [some (.ref 0), some (.int x1), some (.int x2), some (.int x3), some (.int q6.1), none]) (J2 := []) (rest := []) (fun a => some (.int a.1)) (fun a => mkM a.2) (fun _ _ => rfl) h (fun a ha => k_m_could n (d + 0) _ _ _ _ ha) (fun q7 _ h => ?_)
            refine bfr_br 1 (pc1 := 64) (L1 := [some (.ref 0), some (.int x1), some (.int x2), some (.int x3), some (.int q6.1), none]) (J1 := []) (st1 := []) (w1 := mkM q7.2) (pc2 := 67) (L2 := [some (.ref 0), some (.int x1), some (.int x2), some (.int x3), some (.int q6.1), none]) (J2 := []) (st2 := []) (w2 := mkM q7.2) (fun _ _ => rfl) h (fun h => ?_) (fun h => ?_)
            · cases h
              exact bfr_ret 2 (fun _ _ => rfl)
            · refine bfr_call 4 (d1 := d + 4) (M1 := M_X12_crosses) (vs := [(.ref 0), (.int x2), (.int x3)]) (w1 := mkM q7.2) (pc2 := 73) (L2 := [some (.ref 0), some (.int x1), some (.int x2), some (.int x3), some (.int q6.1), none]) (J2 := []) (rest := []) (fun a => some (.int a.1)) (fun a => mkM a.2) (fun _ _ => rfl) h (fun a ha => k_m_crosses n (d + 0) _ _ _ _ ha) (fun q8 _ h => ?_)
              refine bfr_call 3 (d1 := d + 4) (M1 := M_X12_hourGoes) (vs := [(.ref 0)]) (w1 := mkM q8.2) (pc2 := 79) (L2 := [some (.ref 0), some (.int x1), some (.int x2), some (.int x3), some (.int q6.1), some (.int q8.1)]) (J2 := []) (rest := []) (fun _ => none) (fun a => mkM a) (fun _ _ => rfl) h (fun a ha => k_m_hourGoes n (d + 2) _ _ ha) (fun q9 _ h => ?_)
              refine bfr_call 2 (d1 := d + 4) (M1 := M_X12_keeps) (vs := [(.ref 0)]) (w1 := mkM q9) (pc2 := 83) (L2 := [some (.ref 0), some (.int x1), some (.int x2), some (.int x3), some (.int q6.1), some (.int q8.1)]) (J2 := []) (rest := []) (fun _ => none) (fun a => mkM a) (fun _ _ => rfl) h (fun a ha => k_m_keeps n (d + 3) _ _ ha) (fun q10 _ h => ?_)
              refine bfr_call 4 (d1 := d + 4) (M1 := M_X12_copies) (vs := [(.ref 0), (.int cb_48), (.int ci_0)]) (w1 := mkM q10) (pc2 := 90) (L2 := [some (.ref 0), some (.int x1), some (.int x2), some (.int x3), some (.int q6.1), some (.int q8.1)]) (J2 := []) (rest := []) (fun _ => none) (fun a => mkM a) (fun _ _ => rfl) h (fun a ha => k_m_copies n (d + 4) _ _ _ _ ha) (fun q11 _ h => ?_)
              cases h
              exact bfr_ret 2 (fun _ _ => rfl)
set_option maxRecDepth 100000 in
theorem k_m_hire_b16 (n d : Nat) (q : (Int32 × bS)) (o0 : Option Value) (o1 : Option Value) (o2 : Option Value) (σ : bS) (h : m_hire_b16 n σ = some q) : bfr MT (d + 3) M_X12_hire 16 [o0, o1, o2] [] [] (mkM σ) (some (.int q.1), mkM q.2) := by
  unfold m_hire_b16 at h
  exact bfr_bz (mk := mkM) 2 (fun _ _ => rfl) h
set_option maxRecDepth 100000 in
theorem k_m_hire (n d : Nat) (q : (Int32 × bS)) (x1 : Int32) (x2 : Int32) (σ : bS) (h : m_hire n x1 x2 σ = some q) : bfr MT (d + 3) M_X12_hire 0 [some (.ref 0), some (.int x1), some (.int x2)] [] [] (mkM σ) (some (.int q.1), mkM q.2) := by
  unfold m_hire at h
  refine bfr_call 3 (d1 := d + 2) (M1 := M_X12_isBridge) (vs := [(.ref 0), (.int x1)]) (w1 := mkM σ) (pc2 := 5) (L2 := [some (.ref 0), some (.int x1), some (.int x2)]) (J2 := []) (rest := []) (fun a => some (.int a.1)) (fun a => mkM a.2) (fun _ _ => rfl) h (fun a ha => k_m_isBridge n (d + 2) _ _ _ ha) (fun q1 _ h => ?_)
  refine bfr_br 1 (pc1 := 16) (L1 := [some (.ref 0), some (.int x1), some (.int x2)]) (J1 := []) (st1 := []) (w1 := mkM q1.2) (pc2 := 8) (L2 := [some (.ref 0), some (.int x1), some (.int x2)]) (J2 := []) (st2 := []) (w2 := mkM q1.2) (fun _ _ => rfl) h (fun h => ?_) (fun h => ?_)
  · exact k_m_hire_b16 n d q _ _ _ _ h
  · refine bfr_call 3 (d1 := d + 2) (M1 := M_X12_isBank) (vs := [(.ref 0), (.int x2)]) (w1 := mkM q1.2) (pc2 := 13) (L2 := [some (.ref 0), some (.int x1), some (.int x2)]) (J2 := []) (rest := []) (fun a => some (.int a.1)) (fun a => mkM a.2) (fun _ _ => rfl) h (fun a ha => k_m_isBank n (d + 2) _ _ _ ha) (fun q2 _ h => ?_)
    refine bfr_br 1 (pc1 := 16) (L1 := [some (.ref 0), some (.int x1), some (.int x2)]) (J1 := []) (st1 := []) (w1 := mkM q2.2) (pc2 := 18) (L2 := [some (.ref 0), some (.int x1), some (.int x2)]) (J2 := []) (st2 := []) (w2 := mkM q2.2) (fun _ _ => rfl) h (fun h => ?_) (fun h => ?_)
    · exact k_m_hire_b16 n d q _ _ _ _ h
    · refine bfr_call 2 (d1 := d + 2) (M1 := M_X12_keeps) (vs := [(.ref 0)]) (w1 := mkM q2.2) (pc2 := 22) (L2 := [some (.ref 0), some (.int x1), some (.int x2)]) (J2 := []) (rest := []) (fun _ => none) (fun a => mkM a) (fun _ _ => rfl) h (fun a ha => k_m_keeps n (d + 1) _ _ ha) (fun q3 _ h => ?_)
      refine bfr_run 6 30 [some (.ref 0), some (.int x1), some (.int x2)] [] [(.int x2), (.int (ci_1 + x1)), (.ref 29)] (mkM q3) (fun _ _ => rfl) ?_
      refine bfr_in (i := (ci_1 + x1)) (m := 2208) 1 (pc1 := 31) (L1 := [some (.ref 0), some (.int x1), some (.int x2)]) (J1 := []) (st1 := []) (w1 := ((mkM q3).set 29 (.inl (0, 2208, upd (q3.2.1 29) ((ci_1 + x1)).toNatClampNeg x2)))) (fun _ _ => rfl) h (fun h => ?_)
      rw [mkM_A29]
      refine bfr_run 6 43 [some (.ref 0), some (.int x1), some (.int x2)] [] [(.int cb_40), (.ref 29), (.int cb_40), (.ref 29)] (mkM (uA q3 29 (ci_1 + x1) x2)) (fun _ _ => rfl) ?_
      refine bfr_in (i := cb_40) (m := 2208) 1 (pc1 := 44) (L1 := [some (.ref 0), some (.int x1), some (.int x2)]) (J1 := []) (st1 := [(.int (sA (uA q3 29 (ci_1 + x1) x2) 29 cb_40)), (.int cb_40), (.ref 29)]) (w1 := mkM (uA q3 29 (ci_1 + x1) x2)) (fun _ _ => rfl) h (fun h => ?_)
      refine bfr_in (i := ci_2) (m := 8) 4 (pc1 := 50) (L1 := [some (.ref 0), some (.int x1), some (.int x2)]) (J1 := []) (st1 := [(.int (sA (uA q3 29 (ci_1 + x1) x2) 24 ci_2)), (.int (sA (uA q3 29 (ci_1 + x1) x2) 29 cb_40)), (.int cb_40), (.ref 29)]) (w1 := mkM (uA q3 29 (ci_1 + x1) x2)) (fun _ _ => rfl) h (fun h => ?_)
      refine bfr_in (i := cb_40) (m := 2208) 2 (pc1 := 52) (L1 := [some (.ref 0), some (.int x1), some (.int x2)]) (J1 := []) (st1 := []) (w1 := ((mkM (uA q3 29 (ci_1 + x1) x2)).set 29 (.inl (0, 2208, upd ((uA q3 29 (ci_1 + x1) x2).2.1 29) (cb_40).toNatClampNeg ((sA (uA q3 29 (ci_1 + x1) x2) 29 cb_40) + (sA (uA q3 29 (ci_1 + x1) x2) 24 ci_2)))))) (fun _ _ => rfl) h (fun h => ?_)
      rw [mkM_A29]
      refine bfr_in (i := cb_41) (m := 2208) 5 (pc1 := 60) (L1 := [some (.ref 0), some (.int x1), some (.int x2)]) (J1 := []) (st1 := [(.int (sA (uA (uA q3 29 (ci_1 + x1) x2) 29 cb_40 ((sA (uA q3 29 (ci_1 + x1) x2) 29 cb_40) + (sA (uA q3 29 (ci_1 + x1) x2) 24 ci_2))) 29 cb_41)), (.int cb_41), (.ref 29)]) (w1 := mkM (uA (uA q3 29 (ci_1 + x1) x2) 29 cb_40 ((sA (uA q3 29 (ci_1 + x1) x2) 29 cb_40) + (sA (uA q3 29 (ci_1 + x1) x2) 24 ci_2)))) (fun _ _ => rfl) h (fun h => ?_)
      refine bfr_in (i := cb_41) (m := 2208) 3 (pc1 := 63) (L1 := [some (.ref 0), some (.int x1), some (.int x2)]) (J1 := []) (st1 := []) (w1 := ((mkM (uA (uA q3 29 (ci_1 + x1) x2) 29 cb_40 ((sA (uA q3 29 (ci_1 + x1) x2) 29 cb_40) + (sA (uA q3 29 (ci_1 + x1) x2) 24 ci_2)))).set 29 (.inl (0, 2208, upd ((uA (uA q3 29 (ci_1 + x1) x2) 29 cb_40 ((sA (uA q3 29 (ci_1 + x1) x2) 29 cb_40) + (sA (uA q3 29 (ci_1 + x1) x2) 24 ci_2))).2.1 29) (cb_41).toNatClampNeg ((sA (uA (uA q3 29 (ci_1 + x1) x2) 29 cb_40 ((sA (uA q3 29 (ci_1 + x1) x2) 29 cb_40) + (sA (uA q3 29 (ci_1 + x1) x2) 24 ci_2))) 29 cb_41) + ci_1))))) (fun _ _ => rfl) h (fun h => ?_)
      rw [mkM_A29]
      refine bfr_call 2 (d1 := d + 2) (M1 := M_X12_hourGoes) (vs := [(.ref 0)]) (w1 := mkM (uA (uA (uA q3 29 (ci_1 + x1) x2) 29 cb_40 ((sA (uA q3 29 (ci_1 + x1) x2) 29 cb_40) + (sA (uA q3 29 (ci_1 + x1) x2) 24 ci_2))) 29 cb_41 ((sA (uA (uA q3 29 (ci_1 + x1) x2) 29 cb_40 ((sA (uA q3 29 (ci_1 + x1) x2) 29 cb_40) + (sA (uA q3 29 (ci_1 + x1) x2) 24 ci_2))) 29 cb_41) + ci_1))) (pc2 := 67) (L2 := [some (.ref 0), some (.int x1), some (.int x2)]) (J2 := []) (rest := []) (fun _ => none) (fun a => mkM a) (fun _ _ => rfl) h (fun a ha => k_m_hourGoes n (d + 0) _ _ ha) (fun q4 _ h => ?_)
      exact bfr_bz (mk := mkM) 2 (fun _ _ => rfl) h
