set_option maxRecDepth 100000 in
theorem k_cTop_putBytes_b46 (n d : Nat) (q : bS) (o0 : Option Value) (o1 : Option Value) (o2 : Option Value) (ra : Nat) (rb : Nat) (rc : Nat) (re : Nat) (rf : Value) (rg : Value) (σ : bS) (h : cTop_putBytes_b46 n σ = some q) : bfr MT (d + 0) M_X11_putBytes 46 [o0, o1, o2] [] [] (mkC ra rb rc re rf rg σ) (none, mkC ra rb rc re rf rg q) := by
  unfold cTop_putBytes_b46 at h
  cases h
  exact bfr_ret 1 (fun _ _ => rfl)
set_option maxRecDepth 100000 in
theorem k_cTop_putBytes_b43 (n d : Nat) (r3 : Int32 → Int32 → bS → Option bS) (q : bS) (hr3 : ∀ (x1 : Int32) (x2 : Int32) (ra : Nat) (rb : Nat) (rc : Nat) (re : Nat) (rf : Value) (rg : Value) (σ : bS), r3 x1 x2 σ = some q → bfr MT (d + 0) M_X11_putBytes 3 [some (.ref 0), some (.int x1), some (.int x2)] [] [] (mkC ra rb rc re rf rg σ) (none, mkC ra rb rc re rf rg q)) (x1 : Int32) (x2 : Int32) (ra : Nat) (rb : Nat) (rc : Nat) (re : Nat) (rf : Value) (rg : Value) (σ : bS) (h : cTop_putBytes_b43 n r3 x1 x2 σ = some q) : bfr MT (d + 0) M_X11_putBytes 43 [some (.ref 0), some (.int x1), some (.int x2)] [] [] (mkC ra rb rc re rf rg σ) (none, mkC ra rb rc re rf rg q) := by
  unfold cTop_putBytes_b43 at h
  refine bfr_run 1 3 [some (.ref 0), some (.int x1), some (.int x2)] [] [] (mkC ra rb rc re rf rg σ) (fun _ _ => rfl) ?_
  exact hr3 _ _ _ _ _ _ _ _ _ h
set_option maxRecDepth 100000 in
theorem k_cTop_putBytes_b3 (n d : Nat) (q : bS) : ∀ (k : Nat) (x1 : Int32) (x2 : Int32) (ra : Nat) (rb : Nat) (rc : Nat) (re : Nat) (rf : Value) (rg : Value) (σ : bS), cTop_putBytes_b3 n k x1 x2 σ = some q → bfr MT (d + 0) M_X11_putBytes 3 [some (.ref 0), some (.int x1), some (.int x2)] [] [] (mkC ra rb rc re rf rg σ) (none, mkC ra rb rc re rf rg q) := by
  intro k
  induction k with
  | zero => intro x1 x2 ra rb rc re rf rg σ h; exact bno h
  | succ k ih =>
    intro x1 x2 ra rb rc re rf rg σ h
    unfold cTop_putBytes_b3 at h
    refine bfr_br 2 (pc1 := 46) (L1 := [some (.ref 0), some (.int x1), some (.int x2)]) (J1 := []) (st1 := []) (w1 := mkC ra rb rc re rf rg σ) (pc2 := 7) (L2 := [some (.ref 0), some (.int x1), some (.int x2)]) (J2 := []) (st2 := []) (w2 := mkC ra rb rc re rf rg σ) (fun _ _ => rfl) h (fun h => ?_) (fun h => ?_)
    · exact k_cTop_putBytes_b46 n d q _ _ _ _ _ _ _ _ _ _ h
    · refine bfr_br 4 (pc1 := 46) (L1 := [some (.ref 0), some (.int x1), some (.int x2)]) (J1 := []) (st1 := []) (w1 := mkC ra rb rc re rf rg σ) (pc2 := 17) (L2 := [some (.ref 0), some (.int x1), some (.int x2)]) (J2 := []) (st2 := []) (w2 := mkC ra rb rc re rf rg σ) (fun _ _ => rfl) h (fun h => ?_) (fun h => ?_)
      · exact k_cTop_putBytes_b46 n d q _ _ _ _ _ _ _ _ _ _ h
      · refine bfr_run 6 27 [some (.ref 0), some (.int x1), some (.int x2)] [] [(.int x2), (.int x1), (.int (sI σ 0 1)), (.ref 43)] (mkC ra rb rc re rf rg σ) (fun _ _ => rfl) ?_
        refine bfr_in (i := (sI σ 0 1)) (m := 2000) 3 (pc1 := 30) (L1 := [some (.ref 0), some (.int x1), some (.int x2)]) (J1 := []) (st1 := []) (w1 := ((mkC ra rb rc re rf rg σ).set 43 (.inl (1, 2000, upd (σ.2.1 43) ((sI σ 0 1)).toNatClampNeg (vp_nar .byte ((bush x1 x2)).toInt8.toInt32))))) (fun _ _ => rfl) h (fun h => ?_)
        rw [mkC_A43]
        refine bfr_run 6 40 [some (.ref 0), some (.int x1), some (.int x2)] [] [] ((mkC ra rb rc re rf rg (uA σ 43 (sI σ 0 1) (vp_nar .byte ((bush x1 x2)).toInt8.toInt32))).set 0 (.inr (.inr (11, (mkC_0  ra rb rc re rf rg (uA σ 43 (sI σ 0 1) (vp_nar .byte ((bush x1 x2)).toInt8.toInt32))).set 1 (.int ((sI (uA σ 43 (sI σ 0 1) (vp_nar .byte ((bush x1 x2)).toInt8.toInt32)) 0 1) + ci_1)))))) (fun _ _ => rfl) ?_
        rw [mkC_I0_1]
        refine bfr_run 1 43 [some (.ref 0), some (.int x1), some (.int (x2 + ci_m8))] [] [] (mkC ra rb rc re rf rg (uI (uA σ 43 (sI σ 0 1) (vp_nar .byte ((bush x1 x2)).toInt8.toInt32)) 0 1 ((sI (uA σ 43 (sI σ 0 1) (vp_nar .byte ((bush x1 x2)).toInt8.toInt32)) 0 1) + ci_1))) (fun _ _ => rfl) ?_
        exact k_cTop_putBytes_b43 n d _ q (ih) _ _ _ _ _ _ _ _ _ h
set_option maxRecDepth 100000 in
theorem k_cTop_putBytes (n d : Nat) (q : bS) (x1 : Int32) (ra : Nat) (rb : Nat) (rc : Nat) (re : Nat) (rf : Value) (rg : Value) (σ : bS) (h : cTop_putBytes n x1 σ = some q) : bfr MT (d + 0) M_X11_putBytes 0 [some (.ref 0), some (.int x1), none] [] [] (mkC ra rb rc re rf rg σ) (none, mkC ra rb rc re rf rg q) := by
  unfold cTop_putBytes at h
  refine bfr_run 2 3 [some (.ref 0), some (.int x1), some (.int cb_24)] [] [] (mkC ra rb rc re rf rg σ) (fun _ _ => rfl) ?_
  exact k_cTop_putBytes_b3 n d q _ _ _ _ _ _ _ _ _ _ h
set_option maxRecDepth 100000 in
theorem k_cTop_feed (n d : Nat) (q : (Int32 × bS)) (x1 : Int32) (x2 : Int32) (x3 : Int32) (x4 : Int32) (x5 : Int32) (ra : Nat) (rb : Nat) (rc : Nat) (re : Nat) (rf : Value) (rg : Value) (σ : bS) (h : cTop_feed n x1 x2 x3 x4 x5 σ = some q) : bfr MT (d + 1) M_X11_feed 0 [some (.ref 0), some (.int x1), some (.int x2), some (.int x3), some (.int x4), some (.int x5)] [] [] (mkC ra rb rc re rf rg σ) (some (.int q.1), mkC ra rb rc re rf rg q.2) := by
  unfold cTop_feed at h
  refine bfr_br 4 (pc1 := 12) (L1 := [some (.ref 0), some (.int x1), some (.int x2), some (.int x3), some (.int x4), some (.int x5)]) (J1 := []) (st1 := []) (w1 := mkC ra rb rc re rf rg σ) (pc2 := 10) (L2 := [some (.ref 0), some (.int x1), some (.int x2), some (.int x3), some (.int x4), some (.int x5)]) (J2 := []) (st2 := []) (w2 := mkC ra rb rc re rf rg σ) (fun _ _ => rfl) h (fun h => ?_) (fun h => ?_)
  · refine bfr_call 3 (d1 := d + 0) (M1 := M_X11_putBytes) (vs := [(.ref 0), (.int x1)]) (w1 := mkC ra rb rc re rf rg σ) (pc2 := 17) (L2 := [some (.ref 0), some (.int x1), some (.int x2), some (.int x3), some (.int x4), some (.int x5)]) (J2 := []) (rest := []) (fun _ => none) (fun a => mkC ra rb rc re rf rg a) (fun _ _ => rfl) h (fun a ha => k_cTop_putBytes n (d + 0) _ _ _ _ _ _ _ _ _ ha) (fun q1 _ h => ?_)
    refine bfr_call 3 (d1 := d + 0) (M1 := M_X11_putBytes) (vs := [(.ref 0), (.int x2)]) (w1 := mkC ra rb rc re rf rg q1) (pc2 := 22) (L2 := [some (.ref 0), some (.int x1), some (.int x2), some (.int x3), some (.int x4), some (.int x5)]) (J2 := []) (rest := []) (fun _ => none) (fun a => mkC ra rb rc re rf rg a) (fun _ _ => rfl) h (fun a ha => k_cTop_putBytes n (d + 0) _ _ _ _ _ _ _ _ _ ha) (fun q2 _ h => ?_)
    refine bfr_call 3 (d1 := d + 0) (M1 := M_X11_putBytes) (vs := [(.ref 0), (.int x3)]) (w1 := mkC ra rb rc re rf rg q2) (pc2 := 27) (L2 := [some (.ref 0), some (.int x1), some (.int x2), some (.int x3), some (.int x4), some (.int x5)]) (J2 := []) (rest := []) (fun _ => none) (fun a => mkC ra rb rc re rf rg a) (fun _ _ => rfl) h (fun a ha => k_cTop_putBytes n (d + 0) _ _ _ _ _ _ _ _ _ ha) (fun q3 _ h => ?_)
    refine bfr_call 3 (d1 := d + 0) (M1 := M_X11_putBytes) (vs := [(.ref 0), (.int x4)]) (w1 := mkC ra rb rc re rf rg q3) (pc2 := 33) (L2 := [some (.ref 0), some (.int x1), some (.int x2), some (.int x3), some (.int x4), some (.int x5)]) (J2 := []) (rest := []) (fun _ => none) (fun a => mkC ra rb rc re rf rg a) (fun _ _ => rfl) h (fun a ha => k_cTop_putBytes n (d + 0) _ _ _ _ _ _ _ _ _ ha) (fun q4 _ h => ?_)
    refine bfr_call 3 (d1 := d + 0) (M1 := M_X11_putBytes) (vs := [(.ref 0), (.int x5)]) (w1 := mkC ra rb rc re rf rg q4) (pc2 := 39) (L2 := [some (.ref 0), some (.int x1), some (.int x2), some (.int x3), some (.int x4), some (.int x5)]) (J2 := []) (rest := []) (fun _ => none) (fun a => mkC ra rb rc re rf rg a) (fun _ _ => rfl) h (fun a ha => k_cTop_putBytes n (d + 0) _ _ _ _ _ _ _ _ _ ha) (fun q5 _ h => ?_)
    cases h
    exact bfr_ret 3 (fun _ _ => rfl)
  · cases h
    exact bfr_ret 2 (fun _ _ => rfl)
set_option maxRecDepth 100000 in
theorem k_cTop_back_b21 (n d : Nat) (q : (Int32 × bS)) (s1 : Int32) (o1 : Option Value) (ra : Nat) (rb : Nat) (rc : Nat) (re : Nat) (rf : Value) (rg : Value) (σ : bS) (h : cTop_back_b21 n s1 σ = some q) : bfr MT (d + 0) M_X11_back 21 [some (.ref 0), o1] [] [(.int s1), (.ref 0)] (mkC ra rb rc re rf rg σ) (some (.int q.1), mkC ra rb rc re rf rg q.2) := by
  unfold cTop_back_b21 at h
  refine bfr_run 1 24 [some (.ref 0), o1] [] [] ((mkC ra rb rc re rf rg σ).set 0 (.inr (.inr (11, (mkC_0  ra rb rc re rf rg σ).set 1 (.int s1))))) (fun _ _ => rfl) ?_
  rw [mkC_I0_1]
  cases h
  exact bfr_ret 3 (fun _ _ => rfl)
set_option maxRecDepth 100000 in
theorem k_cTop_back_b12 (n d : Nat) (q : (Int32 × bS)) (o0 : Option Value) (o1 : Option Value) (ra : Nat) (rb : Nat) (rc : Nat) (re : Nat) (rf : Value) (rg : Value) (σ : bS) (h : cTop_back_b12 n σ = some q) : bfr MT (d + 0) M_X11_back 12 [o0, o1] [] [] (mkC ra rb rc re rf rg σ) (some (.int q.1), mkC ra rb rc re rf rg q.2) := by
  unfold cTop_back_b12 at h
  cases h
  exact bfr_ret 2 (fun _ _ => rfl)
set_option maxRecDepth 100000 in
theorem k_cTop_back (n d : Nat) (q : (Int32 × bS)) (x1 : Int32) (ra : Nat) (rb : Nat) (rc : Nat) (re : Nat) (rf : Value) (rg : Value) (σ : bS) (h : cTop_back n x1 σ = some q) : bfr MT (d + 0) M_X11_back 0 [some (.ref 0), some (.int x1)] [] [] (mkC ra rb rc re rf rg σ) (some (.int q.1), mkC ra rb rc re rf rg q.2) := by
  unfold cTop_back at h
  refine bfr_br 2 (pc1 := 12) (L1 := [some (.ref 0), some (.int x1)]) (J1 := []) (st1 := []) (w1 := mkC ra rb rc re rf rg σ) (pc2 := 4) (L2 := [some (.ref 0), some (.int x1)]) (J2 := []) (st2 := []) (w2 := mkC ra rb rc re rf rg σ) (fun _ _ => rfl) h (fun h => ?_) (fun h => ?_)
  · exact k_cTop_back_b12 n d q _ _ _ _ _ _ _ _ _ h
  · refine bfr_br 4 (pc1 := 14) (L1 := [some (.ref 0), some (.int x1)]) (J1 := []) (st1 := []) (w1 := mkC ra rb rc re rf rg σ) (pc2 := 12) (L2 := [some (.ref 0), some (.int x1)]) (J2 := []) (st2 := []) (w2 := mkC ra rb rc re rf rg σ) (fun _ _ => rfl) h (fun h => ?_) (fun h => ?_)
    · refine bfr_run 5 21 [some (.ref 0), some (.int x1)] [] [(.int ((sI σ 0 1) - x1)), (.ref 0)] (mkC ra rb rc re rf rg σ) (fun _ _ => rfl) ?_
      exact k_cTop_back_b21 n d q _ _ _ _ _ _ _ _ _ h
    · exact k_cTop_back_b12 n d q _ _ _ _ _ _ _ _ _ h
set_option maxRecDepth 100000 in
theorem k_cTop_place (n d : Nat) (q : (Int32 × bS)) (ra : Nat) (rb : Nat) (rc : Nat) (re : Nat) (rf : Value) (rg : Value) (σ : bS) (h : cTop_place n σ = some q) : bfr MT (d + 0) M_X11_place 0 [some (.ref 0)] [] [] (mkC ra rb rc re rf rg σ) (some (.int q.1), mkC ra rb rc re rf rg q.2) := by
  unfold cTop_place at h
  cases h
  exact bfr_ret 3 (fun _ _ => rfl)
set_option maxRecDepth 100000 in
theorem k_cTop_isBank_b20 (n d : Nat) (q : (Int32 × bS)) (s0 : Int32) (o0 : Option Value) (o1 : Option Value) (rb : Nat) (rc : Nat) (re : Nat) (rf : Value) (rg : Value) (σ : bS) (h : cTop_isBank_b20 n s0 σ = some q) : bfr MT (d + 0) M_X11_isBank 20 [o0, o1] [] [(.int s0)] (mkC 1 rb rc re rf rg σ) (some (.int q.1), mkC 1 rb rc re rf rg q.2) := by
  unfold cTop_isBank_b20 at h
  exact bfr_bz (mk := mkC 1 rb rc re rf rg) 1 (fun _ _ => rfl) h
set_option maxRecDepth 100000 in
theorem k_cTop_isBank_b19 (n d : Nat) (q : (Int32 × bS)) (o0 : Option Value) (o1 : Option Value) (rb : Nat) (rc : Nat) (re : Nat) (rf : Value) (rg : Value) (σ : bS) (h : cTop_isBank_b19 n σ = some q) : bfr MT (d + 0) M_X11_isBank 19 [o0, o1] [] [] (mkC 1 rb rc re rf rg σ) (some (.int q.1), mkC 1 rb rc re rf rg q.2) := by
  unfold cTop_isBank_b19 at h
  refine bfr_run 1 20 [o0, o1] [] [(.int ci_0)] (mkC 1 rb rc re rf rg σ) (fun _ _ => rfl) ?_
  exact k_cTop_isBank_b20 n d q _ _ _ _ _ _ _ _ _ h
set_option maxRecDepth 100000 in
theorem k_cTop_isBank (n d : Nat) (q : (Int32 × bS)) (x1 : Int32) (rb : Nat) (rc : Nat) (re : Nat) (rf : Value) (rg : Value) (σ : bS) (h : cTop_isBank n x1 σ = some q) : bfr MT (d + 0) M_X11_isBank 0 [some (.ref 0), some (.int x1)] [] [] (mkC 1 rb rc re rf rg σ) (some (.int q.1), mkC 1 rb rc re rf rg q.2) := by
  unfold cTop_isBank at h
  refine bfr_br 2 (pc1 := 19) (L1 := [some (.ref 0), some (.int x1)]) (J1 := []) (st1 := []) (w1 := mkC 1 rb rc re rf rg σ) (pc2 := 4) (L2 := [some (.ref 0), some (.int x1)]) (J2 := []) (st2 := []) (w2 := mkC 1 rb rc re rf rg σ) (fun _ _ => rfl) h (fun h => ?_) (fun h => ?_)
  · exact k_cTop_isBank_b19 n d q _ _ _ _ _ _ _ _ h
  · refine bfr_br 5 (pc1 := 19) (L1 := [some (.ref 0), some (.int x1)]) (J1 := []) (st1 := []) (w1 := mkC 1 rb rc re rf rg σ) (pc2 := 15) (L2 := [some (.ref 0), some (.int x1)]) (J2 := []) (st2 := []) (w2 := mkC 1 rb rc re rf rg σ) (fun _ _ => rfl) h (fun h => ?_) (fun h => ?_)
    · exact k_cTop_isBank_b19 n d q _ _ _ _ _ _ _ _ h
    · refine bfr_run 2 20 [some (.ref 0), some (.int x1)] [] [(.int ci_1)] (mkC 1 rb rc re rf rg σ) (fun _ _ => rfl) ?_
      exact k_cTop_isBank_b20 n d q _ _ _ _ _ _ _ _ _ h
set_option maxRecDepth 100000 in
theorem k_cTop_isBridge_b20 (n d : Nat) (q : (Int32 × bS)) (s0 : Int32) (o0 : Option Value) (o1 : Option Value) (rb : Nat) (rc : Nat) (re : Nat) (rf : Value) (rg : Value) (σ : bS) (h : cTop_isBridge_b20 n s0 σ = some q) : bfr MT (d + 0) M_X11_isBridge 20 [o0, o1] [] [(.int s0)] (mkC 1 rb rc re rf rg σ) (some (.int q.1), mkC 1 rb rc re rf rg q.2) := by
  unfold cTop_isBridge_b20 at h
  exact bfr_bz (mk := mkC 1 rb rc re rf rg) 1 (fun _ _ => rfl) h
set_option maxRecDepth 100000 in
theorem k_cTop_isBridge_b19 (n d : Nat) (q : (Int32 × bS)) (o0 : Option Value) (o1 : Option Value) (rb : Nat) (rc : Nat) (re : Nat) (rf : Value) (rg : Value) (σ : bS) (h : cTop_isBridge_b19 n σ = some q) : bfr MT (d + 0) M_X11_isBridge 19 [o0, o1] [] [] (mkC 1 rb rc re rf rg σ) (some (.int q.1), mkC 1 rb rc re rf rg q.2) := by
  unfold cTop_isBridge_b19 at h
  refine bfr_run 1 20 [o0, o1] [] [(.int ci_0)] (mkC 1 rb rc re rf rg σ) (fun _ _ => rfl) ?_
  exact k_cTop_isBridge_b20 n d q _ _ _ _ _ _ _ _ _ h
set_option maxRecDepth 100000 in
theorem k_cTop_isBridge (n d : Nat) (q : (Int32 × bS)) (x1 : Int32) (rb : Nat) (rc : Nat) (re : Nat) (rf : Value) (rg : Value) (σ : bS) (h : cTop_isBridge n x1 σ = some q) : bfr MT (d + 0) M_X11_isBridge 0 [some (.ref 0), some (.int x1)] [] [] (mkC 1 rb rc re rf rg σ) (some (.int q.1), mkC 1 rb rc re rf rg q.2) := by
  unfold cTop_isBridge at h
  refine bfr_br 2 (pc1 := 19) (L1 := [some (.ref 0), some (.int x1)]) (J1 := []) (st1 := []) (w1 := mkC 1 rb rc re rf rg σ) (pc2 := 4) (L2 := [some (.ref 0), some (.int x1)]) (J2 := []) (st2 := []) (w2 := mkC 1 rb rc re rf rg σ) (fun _ _ => rfl) h (fun h => ?_) (fun h => ?_)
  · exact k_cTop_isBridge_b19 n d q _ _ _ _ _ _ _ _ h
  · refine bfr_br 5 (pc1 := 19) (L1 := [some (.ref 0), some (.int x1)]) (J1 := []) (st1 := []) (w1 := mkC 1 rb rc re rf rg σ) (pc2 := 15) (L2 := [some (.ref 0), some (.int x1)]) (J2 := []) (st2 := []) (w2 := mkC 1 rb rc re rf rg σ) (fun _ _ => rfl) h (fun h => ?_) (fun h => ?_)
    · exact k_cTop_isBridge_b19 n d q _ _ _ _ _ _ _ _ h
    · refine bfr_run 2 20 [some (.ref 0), some (.int x1)] [] [(.int ci_1)] (mkC 1 rb rc re rf rg σ) (fun _ _ => rfl) ?_
      exact k_cTop_isBridge_b20 n d q _ _ _ _ _ _ _ _ _ h
set_option maxRecDepth 100000 in
theorem k_cTop_isMan_b20 (n d : Nat) (q : (Int32 × bS)) (s0 : Int32) (o0 : Option Value) (o1 : Option Value) (rb : Nat) (rc : Nat) (re : Nat) (rf : Value) (rg : Value) (σ : bS) (h : cTop_isMan_b20 n s0 σ = some q) : bfr MT (d + 0) M_X11_isMan 20 [o0, o1] [] [(.int s0)] (mkC 1 rb rc re rf rg σ) (some (.int q.1), mkC 1 rb rc re rf rg q.2) := by
  unfold cTop_isMan_b20 at h
  exact bfr_bz (mk := mkC 1 rb rc re rf rg) 1 (fun _ _ => rfl) h
set_option maxRecDepth 100000 in
theorem k_cTop_isMan_b19 (n d : Nat) (q : (Int32 × bS)) (o0 : Option Value) (o1 : Option Value) (rb : Nat) (rc : Nat) (re : Nat) (rf : Value) (rg : Value) (σ : bS) (h : cTop_isMan_b19 n σ = some q) : bfr MT (d + 0) M_X11_isMan 19 [o0, o1] [] [] (mkC 1 rb rc re rf rg σ) (some (.int q.1), mkC 1 rb rc re rf rg q.2) := by
  unfold cTop_isMan_b19 at h
  refine bfr_run 1 20 [o0, o1] [] [(.int ci_0)] (mkC 1 rb rc re rf rg σ) (fun _ _ => rfl) ?_
  exact k_cTop_isMan_b20 n d q _ _ _ _ _ _ _ _ _ h
set_option maxRecDepth 100000 in
theorem k_cTop_isMan (n d : Nat) (q : (Int32 × bS)) (x1 : Int32) (rb : Nat) (rc : Nat) (re : Nat) (rf : Value) (rg : Value) (σ : bS) (h : cTop_isMan n x1 σ = some q) : bfr MT (d + 0) M_X11_isMan 0 [some (.ref 0), some (.int x1)] [] [] (mkC 1 rb rc re rf rg σ) (some (.int q.1), mkC 1 rb rc re rf rg q.2) := by
  unfold cTop_isMan at h
  refine bfr_br 2 (pc1 := 19) (L1 := [some (.ref 0), some (.int x1)]) (J1 := []) (st1 := []) (w1 := mkC 1 rb rc re rf rg σ) (pc2 := 4) (L2 := [some (.ref 0), some (.int x1)]) (J2 := []) (st2 := []) (w2 := mkC 1 rb rc re rf rg σ) (fun _ _ => rfl) h (fun h => ?_) (fun h => ?_)
  · exact k_cTop_isMan_b19 n d q _ _ _ _ _ _ _ _ h
  · refine bfr_br 5 (pc1 := 19) (L1 := [some (.ref 0), some (.int x1)]) (J1 := []) (st1 := []) (w1 := mkC 1 rb rc re rf rg σ) (pc2 := 15) (L2 := [some (.ref 0), some (.int x1)]) (J2 := []) (st2 := []) (w2 := mkC 1 rb rc re rf rg σ) (fun _ _ => rfl) h (fun h => ?_) (fun h => ?_)
    · exact k_cTop_isMan_b19 n d q _ _ _ _ _ _ _ _ h
    · refine bfr_run 2 20 [some (.ref 0), some (.int x1)] [] [(.int ci_1)] (mkC 1 rb rc re rf rg σ) (fun _ _ => rfl) ?_
      exact k_cTop_isMan_b20 n d q _ _ _ _ _ _ _ _ _ h
set_option maxRecDepth 100000 in
theorem k_cTop_orNot_b10 (n d : Nat) (q : (Int32 × bS)) (s0 : Int32) (o0 : Option Value) (ra : Nat) (rb : Nat) (rc : Nat) (re : Nat) (rf : Value) (rg : Value) (σ : bS) (h : cTop_orNot_b10 n s0 σ = some q) : bfr MT (d + 0) M_X11_orNot 10 [o0] [] [(.int s0)] (mkC ra rb rc re rf rg σ) (some (.int q.1), mkC ra rb rc re rf rg q.2) := by
  unfold cTop_orNot_b10 at h
  cases h
  exact bfr_ret 1 (fun _ _ => rfl)
set_option maxRecDepth 100000 in
theorem k_cTop_orNot (n d : Nat) (q : (Int32 × bS)) (x0 : Int32) (ra : Nat) (rb : Nat) (rc : Nat) (re : Nat) (rf : Value) (rg : Value) (σ : bS) (h : cTop_orNot n x0 σ = some q) : bfr MT (d + 0) M_X11_orNot 0 [some (.int x0)] [] [] (mkC ra rb rc re rf rg σ) (some (.int q.1), mkC ra rb rc re rf rg q.2) := by
  unfold cTop_orNot at h
  refine bfr_br 2 (pc1 := 9) (L1 := [some (.int x0)]) (J1 := []) (st1 := []) (w1 := mkC ra rb rc re rf rg σ) (pc2 := 4) (L2 := [some (.int x0)]) (J2 := []) (st2 := []) (w2 := mkC ra rb rc re rf rg σ) (fun _ _ => rfl) h (fun h => ?_) (fun h => ?_)
  · refine bfr_run 1 10 [some (.int x0)] [] [(.int x0)] (mkC ra rb rc re rf rg σ) (fun _ _ => rfl) ?_
    exact k_cTop_orNot_b10 n d q _ _ _ _ _ _ _ _ _ h
  · refine bfr_run 2 10 [some (.int x0)] [] [(.int cb_m2)] (mkC ra rb rc re rf rg σ) (fun _ _ => rfl) ?_
    exact k_cTop_orNot_b10 n d q _ _ _ _ _ _ _ _ _ h
set_option maxRecDepth 100000 in
theorem k_cGoing_menAt_b31 (n d : Nat) (r4 : Int32 → Int32 → Int32 → bS → Option (Int32 × bS)) (q : (Int32 × bS)) (hr4 : ∀ (x1 : Int32) (x2 : Int32) (x3 : Int32) (ra : Nat) (rb : Nat) (re : Nat) (rf : Value) (rg : Value) (σ : bS), r4 x1 x2 x3 σ = some q → bfr MT (d + 0) M_X1_menAt 4 [some (.ref 27), some (.int x1), some (.int x2), some (.int x3)] [] [] (mkC ra rb 1 re rf rg σ) (some (.int q.1), mkC ra rb 1 re rf rg q.2)) (x1 : Int32) (x2 : Int32) (x3 : Int32) (ra : Nat) (rb : Nat) (re : Nat) (rf : Value) (rg : Value) (σ : bS) (h : cGoing_menAt_b31 n r4 x1 x2 x3 σ = some q) : bfr MT (d + 0) M_X1_menAt 31 [some (.ref 27), some (.int x1), some (.int x2), some (.int x3)] [] [] (mkC ra rb 1 re rf rg σ) (some (.int q.1), mkC ra rb 1 re rf rg q.2) := by
  unfold cGoing_menAt_b31 at h
  refine bfr_run 1 34 [some (.ref 27), some (.int x1), some (.int x2), some (.int (x3 + ci_1))] [] [] (mkC ra rb 1 re rf rg σ) (fun _ _ => rfl) ?_
  refine bfr_run 1 4 [some (.ref 27), some (.int x1), some (.int x2), some (.int (x3 + ci_1))] [] [] (mkC ra rb 1 re rf rg σ) (fun _ _ => rfl) ?_
  exact hr4 _ _ _ _ _ _ _ _ _ h
set_option maxRecDepth 100000 in
theorem k_cGoing_menAt_b4 (n d : Nat) (q : (Int32 × bS)) : ∀ (k : Nat) (x1 : Int32) (x2 : Int32) (x3 : Int32) (ra : Nat) (rb : Nat) (re : Nat) (rf : Value) (rg : Value) (σ : bS), cGoing_menAt_b4 n k x1 x2 x3 σ = some q → bfr MT (d + 0) M_X1_menAt 4 [some (.ref 27), some (.int x1), some (.int x2), some (.int x3)] [] [] (mkC ra rb 1 re rf rg σ) (some (.int q.1), mkC ra rb 1 re rf rg q.2) := by
  intro k
  induction k with
  | zero => intro x1 x2 x3 ra rb re rf rg σ h; exact bno h
  | succ k ih =>
    intro x1 x2 x3 ra rb re rf rg σ h
    unfold cGoing_menAt_b4 at h
    refine bfr_br 5 (pc1 := 37) (L1 := [some (.ref 27), some (.int x1), some (.int x2), some (.int x3)]) (J1 := []) (st1 := []) (w1 := mkC ra rb 1 re rf rg σ) (pc2 := 15) (L2 := [some (.ref 27), some (.int x1), some (.int x2), some (.int x3)]) (J2 := []) (st2 := []) (w2 := mkC ra rb 1 re rf rg σ) (fun _ _ => rfl) h (fun h => ?_) (fun h => ?_)
    · cases h
      exact bfr_ret 2 (fun _ _ => rfl)
    · refine bfr_in (i := x3) (m := 7) 4 (pc1 := 21) (L1 := [some (.ref 27), some (.int x1), some (.int x2), some (.int x3)]) (J1 := []) (st1 := [(.int (sA σ 30 x3))]) (w1 := mkC ra rb 1 re rf rg σ) (fun _ _ => rfl) h (fun h => ?_)
      refine bfr_br 2 (pc1 := 25) (L1 := [some (.ref 27), some (.int x1), some (.int x2), some (.int x3)]) (J1 := []) (st1 := []) (w1 := mkC ra rb 1 re rf rg σ) (pc2 := 31) (L2 := [some (.ref 27), some (.int x1), some (.int x2), some (.int x3)]) (J2 := []) (st2 := []) (w2 := mkC ra rb 1 re rf rg σ) (fun _ _ => rfl) h (fun h => ?_) (fun h => ?_)
      · refine bfr_run 6 31 [some (.ref 27), some (.int x1), some (.int (x2 ||| (ci_1 <<< (x3 &&& 31)))), some (.int x3)] [] [] (mkC ra rb 1 re rf rg σ) (fun _ _ => rfl) ?_
        exact k_cGoing_menAt_b31 n d _ q (ih) _ _ _ _ _ _ _ _ _ h
      · exact k_cGoing_menAt_b31 n d _ q (ih) _ _ _ _ _ _ _ _ _ h
set_option maxRecDepth 100000 in
theorem k_cGoing_menAt (n d : Nat) (q : (Int32 × bS)) (x1 : Int32) (ra : Nat) (rb : Nat) (re : Nat) (rf : Value) (rg : Value) (σ : bS) (h : cGoing_menAt n x1 σ = some q) : bfr MT (d + 0) M_X1_menAt 0 [some (.ref 27), some (.int x1), none, none] [] [] (mkC ra rb 1 re rf rg σ) (some (.int q.1), mkC ra rb 1 re rf rg q.2) := by
  unfold cGoing_menAt at h
  refine bfr_run 4 4 [some (.ref 27), some (.int x1), some (.int ci_0), some (.int ci_0)] [] [] (mkC ra rb 1 re rf rg σ) (fun _ _ => rfl) ?_
  exact k_cGoing_menAt_b4 n d q _ _ _ _ _ _ _ _ _ _ h
set_option maxRecDepth 100000 in
theorem k_cTop_bank_b20 (n d : Nat) (q : (Int32 × bS)) (s0 : Int32) (o0 : Option Value) (o1 : Option Value) (rb : Nat) (re : Nat) (rf : Value) (rg : Value) (σ : bS) (h : cTop_bank_b20 n s0 σ = some q) : bfr MT (d + 1) M_X11_bank 20 [o0, o1] [] [(.int s0)] (mkC 1 rb 1 re rf rg σ) (some (.int q.1), mkC 1 rb 1 re rf rg q.2) := by
  unfold cTop_bank_b20 at h
  cases h
  exact bfr_ret 1 (fun _ _ => rfl)
set_option maxRecDepth 100000 in
theorem k_cTop_bank (n d : Nat) (q : (Int32 × bS)) (x1 : Int32) (rb : Nat) (re : Nat) (rf : Value) (rg : Value) (σ : bS) (h : cTop_bank n x1 σ = some q) : bfr MT (d + 1) M_X11_bank 0 [some (.ref 0), some (.int x1)] [] [] (mkC 1 rb 1 re rf rg σ) (some (.int q.1), mkC 1 rb 1 re rf rg q.2) := by
  unfold cTop_bank at h
  refine bfr_call 3 (d1 := d + 0) (M1 := M_X11_isBank) (vs := [(.ref 0), (.int x1)]) (w1 := mkC 1 rb 1 re rf rg σ) (pc2 := 5) (L2 := [some (.ref 0), some (.int x1)]) (J2 := []) (rest := []) (fun a => some (.int a.1)) (fun a => mkC 1 rb 1 re rf rg a.2) (fun _ _ => rfl) h (fun a ha => k_cTop_isBank n (d + 0) _ _ _ _ _ _ _ _ ha) (fun q1 _ h => ?_)
  refine bfr_br 1 (pc1 := 19) (L1 := [some (.ref 0), some (.int x1)]) (J1 := []) (st1 := []) (w1 := mkC 1 rb 1 re rf rg q1.2) (pc2 := 8) (L2 := [some (.ref 0), some (.int x1)]) (J2 := []) (st2 := []) (w2 := mkC 1 rb 1 re rf rg q1.2) (fun _ _ => rfl) h (fun h => ?_) (fun h => ?_)
  · refine bfr_run 1 20 [some (.ref 0), some (.int x1)] [] [(.int ci_m1)] (mkC 1 rb 1 re rf rg q1.2) (fun _ _ => rfl) ?_
    exact k_cTop_bank_b20 n d q _ _ _ _ _ _ _ _ h
  · refine bfr_call 4 (d1 := d + 0) (M1 := M_X1_menAt) (vs := [(.ref 27), (.int x1)]) (w1 := mkC 1 rb 1 re rf rg q1.2) (pc2 := 16) (L2 := [some (.ref 0), some (.int x1)]) (J2 := []) (rest := []) (fun a => some (.int a.1)) (fun a => mkC 1 rb 1 re rf rg a.2) (fun _ _ => rfl) h (fun a ha => k_cGoing_menAt n (d + 0) _ _ _ _ _ _ _ _ ha) (fun q2 _ h => ?_)
    refine bfr_run 1 20 [some (.ref 0), some (.int x1)] [] [(.int q2.1)] (mkC 1 rb 1 re rf rg q2.2) (fun _ _ => rfl) ?_
    exact k_cTop_bank_b20 n d q _ _ _ _ _ _ _ _ h
set_option maxRecDepth 100000 in
theorem k_cGoing_menOn_b31 (n d : Nat) (r4 : Int32 → Int32 → Int32 → bS → Option (Int32 × bS)) (q : (Int32 × bS)) (hr4 : ∀ (x1 : Int32) (x2 : Int32) (x3 : Int32) (ra : Nat) (rb : Nat) (re : Nat) (rf : Value) (rg : Value) (σ : bS), r4 x1 x2 x3 σ = some q → bfr MT (d + 0) M_X1_menOn 4 [some (.ref 27), some (.int x1), some (.int x2), some (.int x3)] [] [] (mkC ra rb 1 re rf rg σ) (some (.int q.1), mkC ra rb 1 re rf rg q.2)) (x1 : Int32) (x2 : Int32) (x3 : Int32) (ra : Nat) (rb : Nat) (re : Nat) (rf : Value) (rg : Value) (σ : bS) (h : cGoing_menOn_b31 n r4 x1 x2 x3 σ = some q) : bfr MT (d + 0) M_X1_menOn 31 [some (.ref 27), some (.int x1), some (.int x2), some (.int x3)] [] [] (mkC ra rb 1 re rf rg σ) (some (.int q.1), mkC ra rb 1 re rf rg q.2) := by
  unfold cGoing_menOn_b31 at h
  refine bfr_run 1 34 [some (.ref 27), some (.int x1), some (.int x2), some (.int (x3 + ci_1))] [] [] (mkC ra rb 1 re rf rg σ) (fun _ _ => rfl) ?_
  refine bfr_run 1 4 [some (.ref 27), some (.int x1), some (.int x2), some (.int (x3 + ci_1))] [] [] (mkC ra rb 1 re rf rg σ) (fun _ _ => rfl) ?_
  exact hr4 _ _ _ _ _ _ _ _ _ h
set_option maxRecDepth 100000 in
theorem k_cGoing_menOn_b4 (n d : Nat) (q : (Int32 × bS)) : ∀ (k : Nat) (x1 : Int32) (x2 : Int32) (x3 : Int32) (ra : Nat) (rb : Nat) (re : Nat) (rf : Value) (rg : Value) (σ : bS), cGoing_menOn_b4 n k x1 x2 x3 σ = some q → bfr MT (d + 0) M_X1_menOn 4 [some (.ref 27), some (.int x1), some (.int x2), some (.int x3)] [] [] (mkC ra rb 1 re rf rg σ) (some (.int q.1), mkC ra rb 1 re rf rg q.2) := by
  intro k
  induction k with
  | zero => intro x1 x2 x3 ra rb re rf rg σ h; exact bno h
  | succ k ih =>
    intro x1 x2 x3 ra rb re rf rg σ h
    unfold cGoing_menOn_b4 at h
    refine bfr_br 5 (pc1 := 37) (L1 := [some (.ref 27), some (.int x1), some (.int x2), some (.int x3)]) (J1 := []) (st1 := []) (w1 := mkC ra rb 1 re rf rg σ) (pc2 := 15) (L2 := [some (.ref 27), some (.int x1), some (.int x2), some (.int x3)]) (J2 := []) (st2 := []) (w2 := mkC ra rb 1 re rf rg σ) (fun _ _ => rfl) h (fun h => ?_) (fun h => ?_)
    · cases h
      exact bfr_ret 2 (fun _ _ => rfl)
    · refine bfr_in (i := x3) (m := 7) 4 (pc1 := 21) (L1 := [some (.ref 27), some (.int x1), some (.int x2), some (.int x3)]) (J1 := []) (st1 := [(.int (sA σ 31 x3))]) (w1 := mkC ra rb 1 re rf rg σ) (fun _ _ => rfl) h (fun h => ?_)
      refine bfr_br 2 (pc1 := 25) (L1 := [some (.ref 27), some (.int x1), some (.int x2), some (.int x3)]) (J1 := []) (st1 := []) (w1 := mkC ra rb 1 re rf rg σ) (pc2 := 31) (L2 := [some (.ref 27), some (.int x1), some (.int x2), some (.int x3)]) (J2 := []) (st2 := []) (w2 := mkC ra rb 1 re rf rg σ) (fun _ _ => rfl) h (fun h => ?_) (fun h => ?_)
      · refine bfr_run 6 31 [some (.ref 27), some (.int x1), some (.int (x2 ||| (ci_1 <<< (x3 &&& 31)))), some (.int x3)] [] [] (mkC ra rb 1 re rf rg σ) (fun _ _ => rfl) ?_
        exact k_cGoing_menOn_b31 n d _ q (ih) _ _ _ _ _ _ _ _ _ h
      · exact k_cGoing_menOn_b31 n d _ q (ih) _ _ _ _ _ _ _ _ _ h
set_option maxRecDepth 100000 in
theorem k_cGoing_menOn (n d : Nat) (q : (Int32 × bS)) (x1 : Int32) (ra : Nat) (rb : Nat) (re : Nat) (rf : Value) (rg : Value) (σ : bS) (h : cGoing_menOn n x1 σ = some q) : bfr MT (d + 0) M_X1_menOn 0 [some (.ref 27), some (.int x1), none, none] [] [] (mkC ra rb 1 re rf rg σ) (some (.int q.1), mkC ra rb 1 re rf rg q.2) := by
  unfold cGoing_menOn at h
  refine bfr_run 4 4 [some (.ref 27), some (.int x1), some (.int ci_0), some (.int ci_0)] [] [] (mkC ra rb 1 re rf rg σ) (fun _ _ => rfl) ?_
  exact k_cGoing_menOn_b4 n d q _ _ _ _ _ _ _ _ _ _ h
set_option maxRecDepth 100000 in
theorem k_cTop_bridge (n d : Nat) (q : (Int32 × bS)) (x1 : Int32) (x2 : Int32) (rb : Nat) (re : Nat) (rf : Value) (rg : Value) (σ : bS) (h : cTop_bridge n x1 x2 σ = some q) : bfr MT (d + 1) M_X11_bridge 0 [some (.ref 0), some (.int x1), some (.int x2)] [] [] (mkC 1 rb 1 re rf rg σ) (some (.int q.1), mkC 1 rb 1 re rf rg q.2) := by
  unfold cTop_bridge at h
  refine bfr_call 3 (d1 := d + 0) (M1 := M_X11_isBridge) (vs := [(.ref 0), (.int x1)]) (w1 := mkC 1 rb 1 re rf rg σ) (pc2 := 5) (L2 := [some (.ref 0), some (.int x1), some (.int x2)]) (J2 := []) (rest := []) (fun a => some (.int a.1)) (fun a => mkC 1 rb 1 re rf rg a.2) (fun _ _ => rfl) h (fun a ha => k_cTop_isBridge n (d + 0) _ _ _ _ _ _ _ _ ha) (fun q1 _ h => ?_)
  refine bfr_br 1 (pc1 := 8) (L1 := [some (.ref 0), some (.int x1), some (.int x2)]) (J1 := []) (st1 := []) (w1 := mkC 1 rb 1 re rf rg q1.2) (pc2 := 10) (L2 := [some (.ref 0), some (.int x1), some (.int x2)]) (J2 := []) (st2 := []) (w2 := mkC 1 rb 1 re rf rg q1.2) (fun _ _ => rfl) h (fun h => ?_) (fun h => ?_)
  · cases h
    exact bfr_ret 2 (fun _ _ => rfl)
  · refine bfr_of 2 (fun K => (if (x2).toInt = 0 then K 40 [some (.ref 0), some (.int x1), some (.int x2)] [] [] (mkC 1 rb 1 re rf rg q1.2) else (if (x2).toInt = 1 then K 50 [some (.ref 0), some (.int x1), some (.int x2)] [] [] (mkC 1 rb 1 re rf rg q1.2) else (if (x2).toInt = 2 then K 63 [some (.ref 0), some (.int x1), some (.int x2)] [] [] (mkC 1 rb 1 re rf rg q1.2) else (if (x2).toInt = 3 then K 72 [some (.ref 0), some (.int x1), some (.int x2)] [] [] (mkC 1 rb 1 re rf rg q1.2) else K 82 [some (.ref 0), some (.int x1), some (.int x2)] [] [] (mkC 1 rb 1 re rf rg q1.2)))))) (fun _ _ => rfl) ?_
    refine bres_if h (fun h => ?_) (fun h => ?_)
    · refine bfr_in (i := x1) (m := 4) 5 (pc1 := 49) (L1 := [some (.ref 0), some (.int x1), some (.int x2)]) (J1 := []) (st1 := [(.int (sA q1.2 3 x1))]) (w1 := mkC 1 rb 1 re rf rg q1.2) (fun _ _ => rfl) h (fun h => ?_)
      cases h
      exact bfr_ret 1 (fun _ _ => rfl)
    refine bres_if h (fun h => ?_) (fun h => ?_)
    · refine bfr_in (i := x1) (m := 4) 5 (pc1 := 59) (L1 := [some (.ref 0), some (.int x1), some (.int x2)]) (J1 := []) (st1 := [(.int (sA q1.2 28 x1))]) (w1 := mkC 1 rb 1 re rf rg q1.2) (fun _ _ => rfl) h (fun h => ?_)
      refine bfr_call 1 (d1 := d + 0) (M1 := M_X11_orNot) (vs := [(.int (sA q1.2 28 x1))]) (w1 := mkC 1 rb 1 re rf rg q1.2) (pc2 := 62) (L2 := [some (.ref 0), some (.int x1), some (.int x2)]) (J2 := []) (rest := []) (fun a => some (.int a.1)) (fun a => mkC 1 rb 1 re rf rg a.2) (fun _ _ => rfl) h (fun a ha => k_cTop_orNot n (d + 0) _ _ _ _ _ _ _ _ _ ha) (fun q2 _ h => ?_)
      cases h
      exact bfr_ret 1 (fun _ _ => rfl)
    refine bres_if h (fun h => ?_) (fun h => ?_)
    · refine bfr_call 4 (d1 := d + 0) (M1 := M_X1_menOn) (vs := [(.ref 27), (.int x1)]) (w1 := mkC 1 rb 1 re rf rg q1.2) (pc2 := 71) (L2 := [some (.ref 0), some (.int x1), some (.int x2)]) (J2 := []) (rest := []) (fun a => some (.int a.1)) (fun a => mkC 1 rb 1 re rf rg a.2) (fun _ _ => rfl) h (fun a ha => k_cGoing_menOn n (d + 0) _ _ _ _ _ _ _ _ ha) (fun q3 _ h => ?_)
      cases h
      exact bfr_ret 1 (fun _ _ => rfl)
    refine bres_if h (fun h => ?_) (fun h => ?_)
    · refine bfr_in (i := x1) (m := 4) 5 (pc1 := 81) (L1 := [some (.ref 0), some (.int x1), some (.int x2)]) (J1 := []) (st1 := [(.int (sA q1.2 29 x1))]) (w1 := mkC 1 rb 1 re rf rg q1.2) (fun _ _ => rfl) h (fun h => ?_)
      cases h
      exact bfr_ret 1 (fun _ _ => rfl)
    cases h
    exact bfr_ret 2 (fun _ _ => rfl)
set_option maxRecDepth 100000 in
theorem k_cTop_man (n d : Nat) (q : (Int32 × bS)) (x1 : Int32) (x2 : Int32) (rb : Nat) (rc : Nat) (re : Nat) (rf : Value) (rg : Value) (σ : bS) (h : cTop_man n x1 x2 σ = some q) : bfr MT (d + 1) M_X11_man 0 [some (.ref 0), some (.int x1), some (.int x2)] [] [] (mkC 1 rb rc re rf rg σ) (some (.int q.1), mkC 1 rb rc re rf rg q.2) := by
  unfold cTop_man at h
  refine bfr_call 3 (d1 := d + 0) (M1 := M_X11_isMan) (vs := [(.ref 0), (.int x1)]) (w1 := mkC 1 rb rc re rf rg σ) (pc2 := 5) (L2 := [some (.ref 0), some (.int x1), some (.int x2)]) (J2 := []) (rest := []) (fun a => some (.int a.1)) (fun a => mkC 1 rb rc re rf rg a.2) (fun _ _ => rfl) h (fun a ha => k_cTop_isMan n (d + 0) _ _ _ _ _ _ _ _ ha) (fun q1 _ h => ?_)
  refine bfr_br 1 (pc1 := 8) (L1 := [some (.ref 0), some (.int x1), some (.int x2)]) (J1 := []) (st1 := []) (w1 := mkC 1 rb rc re rf rg q1.2) (pc2 := 10) (L2 := [some (.ref 0), some (.int x1), some (.int x2)]) (J2 := []) (st2 := []) (w2 := mkC 1 rb rc re rf rg q1.2) (fun _ _ => rfl) h (fun h => ?_) (fun h => ?_)
  · cases h
    exact bfr_ret 2 (fun _ _ => rfl)
  · refine bfr_of 2 (fun K => (if (x2).toInt = 0 then K 48 [some (.ref 0), some (.int x1), some (.int x2)] [] [] (mkC 1 rb rc re rf rg q1.2) else (if (x2).toInt = 1 then K 61 [some (.ref 0), some (.int x1), some (.int x2)] [] [] (mkC 1 rb rc re rf rg q1.2) else (if (x2).toInt = 2 then K 71 [some (.ref 0), some (.int x1), some (.int x2)] [] [] (mkC 1 rb rc re rf rg q1.2) else (if (x2).toInt = 3 then K 81 [some (.ref 0), some (.int x1), some (.int x2)] [] [] (mkC 1 rb rc re rf rg q1.2) else (if (x2).toInt = 4 then K 91 [some (.ref 0), some (.int x1), some (.int x2)] [] [] (mkC 1 rb rc re rf rg q1.2) else (if (x2).toInt = 5 then K 101 [some (.ref 0), some (.int x1), some (.int x2)] [] [] (mkC 1 rb rc re rf rg q1.2) else K 114 [some (.ref 0), some (.int x1), some (.int x2)] [] [] (mkC 1 rb rc re rf rg q1.2)))))))) (fun _ _ => rfl) ?_
    refine bres_if h (fun h => ?_) (fun h => ?_)
    · refine bfr_in (i := x1) (m := 7) 5 (pc1 := 57) (L1 := [some (.ref 0), some (.int x1), some (.int x2)]) (J1 := []) (st1 := [(.int (sA q1.2 30 x1))]) (w1 := mkC 1 rb rc re rf rg q1.2) (fun _ _ => rfl) h (fun h => ?_)
      refine bfr_call 1 (d1 := d + 0) (M1 := M_X11_orNot) (vs := [(.int (sA q1.2 30 x1))]) (w1 := mkC 1 rb rc re rf rg q1.2) (pc2 := 60) (L2 := [some (.ref 0), some (.int x1), some (.int x2)]) (J2 := []) (rest := []) (fun a => some (.int a.1)) (fun a => mkC 1 rb rc re rf rg a.2) (fun _ _ => rfl) h (fun a ha => k_cTop_orNot n (d + 0) _ _ _ _ _ _ _ _ _ ha) (fun q2 _ h => ?_)
      cases h
      exact bfr_ret 1 (fun _ _ => rfl)
    refine bres_if h (fun h => ?_) (fun h => ?_)
    · refine bfr_in (i := x1) (m := 7) 5 (pc1 := 70) (L1 := [some (.ref 0), some (.int x1), some (.int x2)]) (J1 := []) (st1 := [(.int (sA q1.2 6 x1))]) (w1 := mkC 1 rb rc re rf rg q1.2) (fun _ _ => rfl) h (fun h => ?_)
      cases h
      exact bfr_ret 1 (fun _ _ => rfl)
    refine bres_if h (fun h => ?_) (fun h => ?_)
    · refine bfr_in (i := x1) (m := 7) 5 (pc1 := 80) (L1 := [some (.ref 0), some (.int x1), some (.int x2)]) (J1 := []) (st1 := [(.int (sA q1.2 32 x1))]) (w1 := mkC 1 rb rc re rf rg q1.2) (fun _ _ => rfl) h (fun h => ?_)
      cases h
      exact bfr_ret 1 (fun _ _ => rfl)
    refine bres_if h (fun h => ?_) (fun h => ?_)
    · refine bfr_in (i := x1) (m := 7) 5 (pc1 := 90) (L1 := [some (.ref 0), some (.int x1), some (.int x2)]) (J1 := []) (st1 := [(.int (sA q1.2 33 x1))]) (w1 := mkC 1 rb rc re rf rg q1.2) (fun _ _ => rfl) h (fun h => ?_)
      cases h
      exact bfr_ret 1 (fun _ _ => rfl)
    refine bres_if h (fun h => ?_) (fun h => ?_)
    · refine bfr_in (i := x1) (m := 7) 5 (pc1 := 100) (L1 := [some (.ref 0), some (.int x1), some (.int x2)]) (J1 := []) (st1 := [(.int (sA q1.2 34 x1))]) (w1 := mkC 1 rb rc re rf rg q1.2) (fun _ _ => rfl) h (fun h => ?_)
      cases h
      exact bfr_ret 1 (fun _ _ => rfl)
    refine bres_if h (fun h => ?_) (fun h => ?_)
    · refine bfr_in (i := x1) (m := 7) 5 (pc1 := 110) (L1 := [some (.ref 0), some (.int x1), some (.int x2)]) (J1 := []) (st1 := [(.int (sA q1.2 31 x1))]) (w1 := mkC 1 rb rc re rf rg q1.2) (fun _ _ => rfl) h (fun h => ?_)
      refine bfr_call 1 (d1 := d + 0) (M1 := M_X11_orNot) (vs := [(.int (sA q1.2 31 x1))]) (w1 := mkC 1 rb rc re rf rg q1.2) (pc2 := 113) (L2 := [some (.ref 0), some (.int x1), some (.int x2)]) (J2 := []) (rest := []) (fun a => some (.int a.1)) (fun a => mkC 1 rb rc re rf rg a.2) (fun _ _ => rfl) h (fun a ha => k_cTop_orNot n (d + 0) _ _ _ _ _ _ _ _ _ ha) (fun q3 _ h => ?_)
      cases h
      exact bfr_ret 1 (fun _ _ => rfl)
    cases h
    exact bfr_ret 2 (fun _ _ => rfl)
set_option maxRecDepth 100000 in
theorem k_cj_floorMod_b18 (n d : Nat) (q : (Int32 × bS)) (x2 : Int32) (o0 : Option Value) (o1 : Option Value) (ra : Nat) (rb : Nat) (rc : Nat) (re : Nat) (rf : Value) (rg : Value) (σ : bS) (h : cj_floorMod_b18 n x2 σ = some q) : bfr MT (d + 0) M_J9_floorMod_7cf53 18 [o0, o1, some (.int x2)] [] [] (mkC ra rb rc re rf rg σ) (some (.int q.1), mkC ra rb rc re rf rg q.2) := by
  unfold cj_floorMod_b18 at h
  cases h
  exact bfr_ret 2 (fun _ _ => rfl)
set_option maxRecDepth 100000 in
theorem k_cj_floorMod (n d : Nat) (q : (Int32 × bS)) (x0 : Int32) (x1 : Int32) (ra : Nat) (rb : Nat) (rc : Nat) (re : Nat) (rf : Value) (rg : Value) (σ : bS) (h : cj_floorMod n x0 x1 σ = some q) : bfr MT (d + 0) M_J9_floorMod_7cf53 0 [some (.int x0), some (.int x1), none] [] [] (mkC ra rb rc re rf rg σ) (some (.int q.1), mkC ra rb rc re rf rg q.2) := by
  unfold cj_floorMod at h
  refine bfr_chk 3 (pc1 := 3) (L1 := [some (.int x0), some (.int x1), none]) (J1 := []) (st1 := [(.int (brem x0 x1))]) (w1 := mkC ra rb rc re rf rg σ) (fun _ _ => rfl) h (fun h => ?_)
  refine bfr_br 5 (pc1 := 18) (L1 := [some (.int x0), some (.int x1), some (.int (brem x0 x1))]) (J1 := []) (st1 := []) (w1 := mkC ra rb rc re rf rg σ) (pc2 := 10) (L2 := [some (.int x0), some (.int x1), some (.int (brem x0 x1))]) (J2 := []) (st2 := []) (w2 := mkC ra rb rc re rf rg σ) (fun _ _ => rfl) h (fun h => ?_) (fun h => ?_)
  · exact k_cj_floorMod_b18 n d q _ _ _ _ _ _ _ _ _ _ h
  · refine bfr_br 2 (pc1 := 18) (L1 := [some (.int x0), some (.int x1), some (.int (brem x0 x1))]) (J1 := []) (st1 := []) (w1 := mkC ra rb rc re rf rg σ) (pc2 := 14) (L2 := [some (.int x0), some (.int x1), some (.int (brem x0 x1))]) (J2 := []) (st2 := []) (w2 := mkC ra rb rc re rf rg σ) (fun _ _ => rfl) h (fun h => ?_) (fun h => ?_)
    · exact k_cj_floorMod_b18 n d q _ _ _ _ _ _ _ _ _ _ h
    · cases h
      exact bfr_ret 4 (fun _ _ => rfl)
set_option maxRecDepth 100000 in
theorem k_cGoing_look (n d : Nat) (q : bS) (x1 : Int32) (x2 : Int32) (x3 : Int32) (ra : Nat) (rb : Nat) (re : Nat) (rf : Value) (rg : Value) (σ : bS) (h : cGoing_look n x1 x2 x3 σ = some q) : bfr MT (d + 1) M_X1_look 0 [some (.ref 27), some (.int x1), some (.int x2), some (.int x3), none] [] [] (mkC ra rb 1 re rf rg σ) (none, mkC ra rb 1 re rf rg q) := by
  unfold cGoing_look at h
  refine bfr_run 6 14 [some (.ref 27), some (.int x1), some (.int x2), some (.int x3), some (.ref 13)] [] [(.ref 13)] (mkC ra rb 1 re rf rg σ) (fun _ _ => rfl) ?_
  refine bfr_call 4 (d1 := d + 0) (M1 := M_J9_floorMod_7cf53) (vs := [(.int x3), (.int cb_24)]) (w1 := mkC ra rb 1 re rf rg σ) (pc2 := 21) (L2 := [some (.ref 27), some (.int x1), some (.int x2), some (.int x3), some (.ref 13)]) (J2 := []) (rest := [(.int ci_0), (.ref 13)]) (fun a => some (.int a.1)) (fun a => mkC ra rb 1 re rf rg a.2) (fun _ _ => rfl) h (fun a ha => k_cj_floorMod n (d + 0) _ _ _ _ _ _ _ _ _ _ ha) (fun q1 _ h => ?_)
  refine bfr_in (i := ci_0) (m := 8) 1 (pc1 := 22) (L1 := [some (.ref 27), some (.int x1), some (.int x2), some (.int x3), some (.ref 13)]) (J1 := []) (st1 := []) (w1 := ((mkC ra rb 1 re rf rg q1.2).set 13 (.inl (0, 8, upd (q1.2.2.1 13) (ci_0).toNatClampNeg q1.1)))) (fun _ _ => rfl) h (fun h => ?_)
  rw [mkC_A13]
  refine bfr_in (i := ci_1) (m := 8) 4 (pc1 := 27) (L1 := [some (.ref 27), some (.int x1), some (.int x2), some (.int x3), some (.ref 13)]) (J1 := []) (st1 := []) (w1 := ((mkC ra rb 1 re rf rg (uA q1.2 13 ci_0 q1.1)).set 13 (.inl (0, 8, upd ((uA q1.2 13 ci_0 q1.1).2.1 13) (ci_1).toNatClampNeg x2)))) (fun _ _ => rfl) h (fun h => ?_)
  rw [mkC_A13]
  refine bfr_in (i := x1) (m := 7) 6 (pc1 := 36) (L1 := [some (.ref 27), some (.int x1), some (.int x2), some (.int x3), some (.ref 13)]) (J1 := []) (st1 := [(.int (sA (uA (uA q1.2 13 ci_0 q1.1) 13 ci_1 x2) 33 x1)), (.int ci_2), (.ref 13)]) (w1 := mkC ra rb 1 re rf rg (uA (uA q1.2 13 ci_0 q1.1) 13 ci_1 x2)) (fun _ _ => rfl) h (fun h => ?_)
  refine bfr_in (i := ci_2) (m := 8) 1 (pc1 := 37) (L1 := [some (.ref 27), some (.int x1), some (.int x2), some (.int x3), some (.ref 13)]) (J1 := []) (st1 := []) (w1 := ((mkC ra rb 1 re rf rg (uA (uA q1.2 13 ci_0 q1.1) 13 ci_1 x2)).set 13 (.inl (0, 8, upd ((uA (uA q1.2 13 ci_0 q1.1) 13 ci_1 x2).2.1 13) (ci_2).toNatClampNeg (sA (uA (uA q1.2 13 ci_0 q1.1) 13 ci_1 x2) 33 x1))))) (fun _ _ => rfl) h (fun h => ?_)
  rw [mkC_A13]
  refine bfr_in (i := x1) (m := 7) 6 (pc1 := 46) (L1 := [some (.ref 27), some (.int x1), some (.int x2), some (.int x3), some (.ref 13)]) (J1 := []) (st1 := [(.int (sA (uA (uA (uA q1.2 13 ci_0 q1.1) 13 ci_1 x2) 13 ci_2 (sA (uA (uA q1.2 13 ci_0 q1.1) 13 ci_1 x2) 33 x1)) 32 x1)), (.int ci_3), (.ref 13)]) (w1 := mkC ra rb 1 re rf rg (uA (uA (uA q1.2 13 ci_0 q1.1) 13 ci_1 x2) 13 ci_2 (sA (uA (uA q1.2 13 ci_0 q1.1) 13 ci_1 x2) 33 x1))) (fun _ _ => rfl) h (fun h => ?_)
  refine bfr_in (i := ci_3) (m := 8) 1 (pc1 := 47) (L1 := [some (.ref 27), some (.int x1), some (.int x2), some (.int x3), some (.ref 13)]) (J1 := []) (st1 := []) (w1 := ((mkC ra rb 1 re rf rg (uA (uA (uA q1.2 13 ci_0 q1.1) 13 ci_1 x2) 13 ci_2 (sA (uA (uA q1.2 13 ci_0 q1.1) 13 ci_1 x2) 33 x1))).set 13 (.inl (0, 8, upd ((uA (uA (uA q1.2 13 ci_0 q1.1) 13 ci_1 x2) 13 ci_2 (sA (uA (uA q1.2 13 ci_0 q1.1) 13 ci_1 x2) 33 x1)).2.1 13) (ci_3).toNatClampNeg (sA (uA (uA (uA q1.2 13 ci_0 q1.1) 13 ci_1 x2) 13 ci_2 (sA (uA (uA q1.2 13 ci_0 q1.1) 13 ci_1 x2) 33 x1)) 32 x1))))) (fun _ _ => rfl) h (fun h => ?_)
  rw [mkC_A13]
  refine bfr_run 6 58 [some (.ref 27), some (.int x1), some (.int x2), some (.int x3), some (.ref 13)] [] [(.int x1), (.ref 6), (.int ci_4), (.ref 13)] (mkC ra rb 1 re rf rg (uA (uA (uA (uA q1.2 13 ci_0 q1.1) 13 ci_1 x2) 13 ci_2 (sA (uA (uA q1.2 13 ci_0 q1.1) 13 ci_1 x2) 33 x1)) 13 ci_3 (sA (uA (uA (uA q1.2 13 ci_0 q1.1) 13 ci_1 x2) 13 ci_2 (sA (uA (uA q1.2 13 ci_0 q1.1) 13 ci_1 x2) 33 x1)) 32 x1))) (fun _ _ => rfl) ?_
  refine bfr_in (i := x1) (m := 7) 1 (pc1 := 59) (L1 := [some (.ref 27), some (.int x1), some (.int x2), some (.int x3), some (.ref 13)]) (J1 := []) (st1 := [(.int (sA (uA (uA (uA (uA q1.2 13 ci_0 q1.1) 13 ci_1 x2) 13 ci_2 (sA (uA (uA q1.2 13 ci_0 q1.1) 13 ci_1 x2) 33 x1)) 13 ci_3 (sA (uA (uA (uA q1.2 13 ci_0 q1.1) 13 ci_1 x2) 13 ci_2 (sA (uA (uA q1.2 13 ci_0 q1.1) 13 ci_1 x2) 33 x1)) 32 x1)) 6 x1)), (.int ci_4), (.ref 13)]) (w1 := mkC ra rb 1 re rf rg (uA (uA (uA (uA q1.2 13 ci_0 q1.1) 13 ci_1 x2) 13 ci_2 (sA (uA (uA q1.2 13 ci_0 q1.1) 13 ci_1 x2) 33 x1)) 13 ci_3 (sA (uA (uA (uA q1.2 13 ci_0 q1.1) 13 ci_1 x2) 13 ci_2 (sA (uA (uA q1.2 13 ci_0 q1.1) 13 ci_1 x2) 33 x1)) 32 x1))) (fun _ _ => rfl) h (fun h => ?_)
  refine bfr_in (i := ci_4) (m := 8) 1 (pc1 := 60) (L1 := [some (.ref 27), some (.int x1), some (.int x2), some (.int x3), some (.ref 13)]) (J1 := []) (st1 := []) (w1 := ((mkC ra rb 1 re rf rg (uA (uA (uA (uA q1.2 13 ci_0 q1.1) 13 ci_1 x2) 13 ci_2 (sA (uA (uA q1.2 13 ci_0 q1.1) 13 ci_1 x2) 33 x1)) 13 ci_3 (sA (uA (uA (uA q1.2 13 ci_0 q1.1) 13 ci_1 x2) 13 ci_2 (sA (uA (uA q1.2 13 ci_0 q1.1) 13 ci_1 x2) 33 x1)) 32 x1))).set 13 (.inl (0, 8, upd ((uA (uA (uA (uA q1.2 13 ci_0 q1.1) 13 ci_1 x2) 13 ci_2 (sA (uA (uA q1.2 13 ci_0 q1.1) 13 ci_1 x2) 33 x1)) 13 ci_3 (sA (uA (uA (uA q1.2 13 ci_0 q1.1) 13 ci_1 x2) 13 ci_2 (sA (uA (uA q1.2 13 ci_0 q1.1) 13 ci_1 x2) 33 x1)) 32 x1)).2.1 13) (ci_4).toNatClampNeg (sA (uA (uA (uA (uA q1.2 13 ci_0 q1.1) 13 ci_1 x2) 13 ci_2 (sA (uA (uA q1.2 13 ci_0 q1.1) 13 ci_1 x2) 33 x1)) 13 ci_3 (sA (uA (uA (uA q1.2 13 ci_0 q1.1) 13 ci_1 x2) 13 ci_2 (sA (uA (uA q1.2 13 ci_0 q1.1) 13 ci_1 x2) 33 x1)) 32 x1)) 6 x1))))) (fun _ _ => rfl) h (fun h => ?_)
  rw [mkC_A13]
  refine bfr_in (i := ci_5) (m := 8) 4 (pc1 := 65) (L1 := [some (.ref 27), some (.int x1), some (.int x2), some (.int x3), some (.ref 13)]) (J1 := []) (st1 := []) (w1 := ((mkC ra rb 1 re rf rg (uA (uA (uA (uA (uA q1.2 13 ci_0 q1.1) 13 ci_1 x2) 13 ci_2 (sA (uA (uA q1.2 13 ci_0 q1.1) 13 ci_1 x2) 33 x1)) 13 ci_3 (sA (uA (uA (uA q1.2 13 ci_0 q1.1) 13 ci_1 x2) 13 ci_2 (sA (uA (uA q1.2 13 ci_0 q1.1) 13 ci_1 x2) 33 x1)) 32 x1)) 13 ci_4 (sA (uA (uA (uA (uA q1.2 13 ci_0 q1.1) 13 ci_1 x2) 13 ci_2 (sA (uA (uA q1.2 13 ci_0 q1.1) 13 ci_1 x2) 33 x1)) 13 ci_3 (sA (uA (uA (uA q1.2 13 ci_0 q1.1) 13 ci_1 x2) 13 ci_2 (sA (uA (uA q1.2 13 ci_0 q1.1) 13 ci_1 x2) 33 x1)) 32 x1)) 6 x1))).set 13 (.inl (0, 8, upd ((uA (uA (uA (uA (uA q1.2 13 ci_0 q1.1) 13 ci_1 x2) 13 ci_2 (sA (uA (uA q1.2 13 ci_0 q1.1) 13 ci_1 x2) 33 x1)) 13 ci_3 (sA (uA (uA (uA q1.2 13 ci_0 q1.1) 13 ci_1 x2) 13 ci_2 (sA (uA (uA q1.2 13 ci_0 q1.1) 13 ci_1 x2) 33 x1)) 32 x1)) 13 ci_4 (sA (uA (uA (uA (uA q1.2 13 ci_0 q1.1) 13 ci_1 x2) 13 ci_2 (sA (uA (uA q1.2 13 ci_0 q1.1) 13 ci_1 x2) 33 x1)) 13 ci_3 (sA (uA (uA (uA q1.2 13 ci_0 q1.1) 13 ci_1 x2) 13 ci_2 (sA (uA (uA q1.2 13 ci_0 q1.1) 13 ci_1 x2) 33 x1)) 32 x1)) 6 x1)).2.1 13) (ci_5).toNatClampNeg x1)))) (fun _ _ => rfl) h (fun h => ?_)
  rw [mkC_A13]
  refine bfr_in (i := x1) (m := 7) 6 (pc1 := 75) (L1 := [some (.ref 27), some (.int x1), some (.int x2), some (.int x3), some (.ref 13)]) (J1 := []) (st1 := [(.int (sA (uA (uA (uA (uA (uA (uA q1.2 13 ci_0 q1.1) 13 ci_1 x2) 13 ci_2 (sA (uA (uA q1.2 13 ci_0 q1.1) 13 ci_1 x2) 33 x1)) 13 ci_3 (sA (uA (uA (uA q1.2 13 ci_0 q1.1) 13 ci_1 x2) 13 ci_2 (sA (uA (uA q1.2 13 ci_0 q1.1) 13 ci_1 x2) 33 x1)) 32 x1)) 13 ci_4 (sA (uA (uA (uA (uA q1.2 13 ci_0 q1.1) 13 ci_1 x2) 13 ci_2 (sA (uA (uA q1.2 13 ci_0 q1.1) 13 ci_1 x2) 33 x1)) 13 ci_3 (sA (uA (uA (uA q1.2 13 ci_0 q1.1) 13 ci_1 x2) 13 ci_2 (sA (uA (uA q1.2 13 ci_0 q1.1) 13 ci_1 x2) 33 x1)) 32 x1)) 6 x1)) 13 ci_5 x1) 30 x1)), (.int cb_6), (.ref 13)]) (w1 := mkC ra rb 1 re rf rg (uA (uA (uA (uA (uA (uA q1.2 13 ci_0 q1.1) 13 ci_1 x2) 13 ci_2 (sA (uA (uA q1.2 13 ci_0 q1.1) 13 ci_1 x2) 33 x1)) 13 ci_3 (sA (uA (uA (uA q1.2 13 ci_0 q1.1) 13 ci_1 x2) 13 ci_2 (sA (uA (uA q1.2 13 ci_0 q1.1) 13 ci_1 x2) 33 x1)) 32 x1)) 13 ci_4 (sA (uA (uA (uA (uA q1.2 13 ci_0 q1.1) 13 ci_1 x2) 13 ci_2 (sA (uA (uA q1.2 13 ci_0 q1.1) 13 ci_1 x2) 33 x1)) 13 ci_3 (sA (uA (uA (uA q1.2 13 ci_0 q1.1) 13 ci_1 x2) 13 ci_2 (sA (uA (uA q1.2 13 ci_0 q1.1) 13 ci_1 x2) 33 x1)) 32 x1)) 6 x1)) 13 ci_5 x1)) (fun _ _ => rfl) h (fun h => ?_)
  refine bfr_in (i := cb_6) (m := 8) 1 (pc1 := 76) (L1 := [some (.ref 27), some (.int x1), some (.int x2), some (.int x3), some (.ref 13)]) (J1 := []) (st1 := []) (w1 := ((mkC ra rb 1 re rf rg (uA (uA (uA (uA (uA (uA q1.2 13 ci_0 q1.1) 13 ci_1 x2) 13 ci_2 (sA (uA (uA q1.2 13 ci_0 q1.1) 13 ci_1 x2) 33 x1)) 13 ci_3 (sA (uA (uA (uA q1.2 13 ci_0 q1.1) 13 ci_1 x2) 13 ci_2 (sA (uA (uA q1.2 13 ci_0 q1.1) 13 ci_1 x2) 33 x1)) 32 x1)) 13 ci_4 (sA (uA (uA (uA (uA q1.2 13 ci_0 q1.1) 13 ci_1 x2) 13 ci_2 (sA (uA (uA q1.2 13 ci_0 q1.1) 13 ci_1 x2) 33 x1)) 13 ci_3 (sA (uA (uA (uA q1.2 13 ci_0 q1.1) 13 ci_1 x2) 13 ci_2 (sA (uA (uA q1.2 13 ci_0 q1.1) 13 ci_1 x2) 33 x1)) 32 x1)) 6 x1)) 13 ci_5 x1)).set 13 (.inl (0, 8, upd ((uA (uA (uA (uA (uA (uA q1.2 13 ci_0 q1.1) 13 ci_1 x2) 13 ci_2 (sA (uA (uA q1.2 13 ci_0 q1.1) 13 ci_1 x2) 33 x1)) 13 ci_3 (sA (uA (uA (uA q1.2 13 ci_0 q1.1) 13 ci_1 x2) 13 ci_2 (sA (uA (uA q1.2 13 ci_0 q1.1) 13 ci_1 x2) 33 x1)) 32 x1)) 13 ci_4 (sA (uA (uA (uA (uA q1.2 13 ci_0 q1.1) 13 ci_1 x2) 13 ci_2 (sA (uA (uA q1.2 13 ci_0 q1.1) 13 ci_1 x2) 33 x1)) 13 ci_3 (sA (uA (uA (uA q1.2 13 ci_0 q1.1) 13 ci_1 x2) 13 ci_2 (sA (uA (uA q1.2 13 ci_0 q1.1) 13 ci_1 x2) 33 x1)) 32 x1)) 6 x1)) 13 ci_5 x1).2.1 13) (cb_6).toNatClampNeg (sA (uA (uA (uA (uA (uA (uA q1.2 13 ci_0 q1.1) 13 ci_1 x2) 13 ci_2 (sA (uA (uA q1.2 13 ci_0 q1.1) 13 ci_1 x2) 33 x1)) 13 ci_3 (sA (uA (uA (uA q1.2 13 ci_0 q1.1) 13 ci_1 x2) 13 ci_2 (sA (uA (uA q1.2 13 ci_0 q1.1) 13 ci_1 x2) 33 x1)) 32 x1)) 13 ci_4 (sA (uA (uA (uA (uA q1.2 13 ci_0 q1.1) 13 ci_1 x2) 13 ci_2 (sA (uA (uA q1.2 13 ci_0 q1.1) 13 ci_1 x2) 33 x1)) 13 ci_3 (sA (uA (uA (uA q1.2 13 ci_0 q1.1) 13 ci_1 x2) 13 ci_2 (sA (uA (uA q1.2 13 ci_0 q1.1) 13 ci_1 x2) 33 x1)) 32 x1)) 6 x1)) 13 ci_5 x1) 30 x1))))) (fun _ _ => rfl) h (fun h => ?_)
  rw [mkC_A13]
  refine bfr_in (i := x1) (m := 7) 6 (pc1 := 86) (L1 := [some (.ref 27), some (.int x1), some (.int x2), some (.int x3), some (.ref 13)]) (J1 := []) (st1 := [(.int (sA (uA (uA (uA (uA (uA (uA (uA q1.2 13 ci_0 q1.1) 13 ci_1 x2) 13 ci_2 (sA (uA (uA q1.2 13 ci_0 q1.1) 13 ci_1 x2) 33 x1)) 13 ci_3 (sA (uA (uA (uA q1.2 13 ci_0 q1.1) 13 ci_1 x2) 13 ci_2 (sA (uA (uA q1.2 13 ci_0 q1.1) 13 ci_1 x2) 33 x1)) 32 x1)) 13 ci_4 (sA (uA (uA (uA (uA q1.2 13 ci_0 q1.1) 13 ci_1 x2) 13 ci_2 (sA (uA (uA q1.2 13 ci_0 q1.1) 13 ci_1 x2) 33 x1)) 13 ci_3 (sA (uA (uA (uA q1.2 13 ci_0 q1.1) 13 ci_1 x2) 13 ci_2 (sA (uA (uA q1.2 13 ci_0 q1.1) 13 ci_1 x2) 33 x1)) 32 x1)) 6 x1)) 13 ci_5 x1) 13 cb_6 (sA (uA (uA (uA (uA (uA (uA q1.2 13 ci_0 q1.1) 13 ci_1 x2) 13 ci_2 (sA (uA (uA q1.2 13 ci_0 q1.1) 13 ci_1 x2) 33 x1)) 13 ci_3 (sA (uA (uA (uA q1.2 13 ci_0 q1.1) 13 ci_1 x2) 13 ci_2 (sA (uA (uA q1.2 13 ci_0 q1.1) 13 ci_1 x2) 33 x1)) 32 x1)) 13 ci_4 (sA (uA (uA (uA (uA q1.2 13 ci_0 q1.1) 13 ci_1 x2) 13 ci_2 (sA (uA (uA q1.2 13 ci_0 q1.1) 13 ci_1 x2) 33 x1)) 13 ci_3 (sA (uA (uA (uA q1.2 13 ci_0 q1.1) 13 ci_1 x2) 13 ci_2 (sA (uA (uA q1.2 13 ci_0 q1.1) 13 ci_1 x2) 33 x1)) 32 x1)) 6 x1)) 13 ci_5 x1) 30 x1)) 34 x1)), (.int cb_7), (.ref 13)]) (w1 := mkC ra rb 1 re rf rg (uA (uA (uA (uA (uA (uA (uA q1.2 13 ci_0 q1.1) 13 ci_1 x2) 13 ci_2 (sA (uA (uA q1.2 13 ci_0 q1.1) 13 ci_1 x2) 33 x1)) 13 ci_3 (sA (uA (uA (uA q1.2 13 ci_0 q1.1) 13 ci_1 x2) 13 ci_2 (sA (uA (uA q1.2 13 ci_0 q1.1) 13 ci_1 x2) 33 x1)) 32 x1)) 13 ci_4 (sA (uA (uA (uA (uA q1.2 13 ci_0 q1.1) 13 ci_1 x2) 13 ci_2 (sA (uA (uA q1.2 13 ci_0 q1.1) 13 ci_1 x2) 33 x1)) 13 ci_3 (sA (uA (uA (uA q1.2 13 ci_0 q1.1) 13 ci_1 x2) 13 ci_2 (sA (uA (uA q1.2 13 ci_0 q1.1) 13 ci_1 x2) 33 x1)) 32 x1)) 6 x1)) 13 ci_5 x1) 13 cb_6 (sA (uA (uA (uA (uA (uA (uA q1.2 13 ci_0 q1.1) 13 ci_1 x2) 13 ci_2 (sA (uA (uA q1.2 13 ci_0 q1.1) 13 ci_1 x2) 33 x1)) 13 ci_3 (sA (uA (uA (uA q1.2 13 ci_0 q1.1) 13 ci_1 x2) 13 ci_2 (sA (uA (uA q1.2 13 ci_0 q1.1) 13 ci_1 x2) 33 x1)) 32 x1)) 13 ci_4 (sA (uA (uA (uA (uA q1.2 13 ci_0 q1.1) 13 ci_1 x2) 13 ci_2 (sA (uA (uA q1.2 13 ci_0 q1.1) 13 ci_1 x2) 33 x1)) 13 ci_3 (sA (uA (uA (uA q1.2 13 ci_0 q1.1) 13 ci_1 x2) 13 ci_2 (sA (uA (uA q1.2 13 ci_0 q1.1) 13 ci_1 x2) 33 x1)) 32 x1)) 6 x1)) 13 ci_5 x1) 30 x1))) (fun _ _ => rfl) h (fun h => ?_)
  refine bfr_in (i := cb_7) (m := 8) 1 (pc1 := 87) (L1 := [some (.ref 27), some (.int x1), some (.int x2), some (.int x3), some (.ref 13)]) (J1 := []) (st1 := []) (w1 := ((mkC ra rb 1 re rf rg (uA (uA (uA (uA (uA (uA (uA q1.2 13 ci_0 q1.1) 13 ci_1 x2) 13 ci_2 (sA (uA (uA q1.2 13 ci_0 q1.1) 13 ci_1 x2) 33 x1)) 13 ci_3 (sA (uA (uA (uA q1.2 13 ci_0 q1.1) 13 ci_1 x2) 13 ci_2 (sA (uA (uA q1.2 13 ci_0 q1.1) 13 ci_1 x2) 33 x1)) 32 x1)) 13 ci_4 (sA (uA (uA (uA (uA q1.2 13 ci_0 q1.1) 13 ci_1 x2) 13 ci_2 (sA (uA (uA q1.2 13 ci_0 q1.1) 13 ci_1 x2) 33 x1)) 13 ci_3 (sA (uA (uA (uA q1.2 13 ci_0 q1.1) 13 ci_1 x2) 13 ci_2 (sA (uA (uA q1.2 13 ci_0 q1.1) 13 ci_1 x2) 33 x1)) 32 x1)) 6 x1)) 13 ci_5 x1) 13 cb_6 (sA (uA (uA (uA (uA (uA (uA q1.2 13 ci_0 q1.1) 13 ci_1 x2) 13 ci_2 (sA (uA (uA q1.2 13 ci_0 q1.1) 13 ci_1 x2) 33 x1)) 13 ci_3 (sA (uA (uA (uA q1.2 13 ci_0 q1.1) 13 ci_1 x2) 13 ci_2 (sA (uA (uA q1.2 13 ci_0 q1.1) 13 ci_1 x2) 33 x1)) 32 x1)) 13 ci_4 (sA (uA (uA (uA (uA q1.2 13 ci_0 q1.1) 13 ci_1 x2) 13 ci_2 (sA (uA (uA q1.2 13 ci_0 q1.1) 13 ci_1 x2) 33 x1)) 13 ci_3 (sA (uA (uA (uA q1.2 13 ci_0 q1.1) 13 ci_1 x2) 13 ci_2 (sA (uA (uA q1.2 13 ci_0 q1.1) 13 ci_1 x2) 33 x1)) 32 x1)) 6 x1)) 13 ci_5 x1) 30 x1))).set 13 (.inl (0, 8, upd ((uA (uA (uA (uA (uA (uA (uA q1.2 13 ci_0 q1.1) 13 ci_1 x2) 13 ci_2 (sA (uA (uA q1.2 13 ci_0 q1.1) 13 ci_1 x2) 33 x1)) 13 ci_3 (sA (uA (uA (uA q1.2 13 ci_0 q1.1) 13 ci_1 x2) 13 ci_2 (sA (uA (uA q1.2 13 ci_0 q1.1) 13 ci_1 x2) 33 x1)) 32 x1)) 13 ci_4 (sA (uA (uA (uA (uA q1.2 13 ci_0 q1.1) 13 ci_1 x2) 13 ci_2 (sA (uA (uA q1.2 13 ci_0 q1.1) 13 ci_1 x2) 33 x1)) 13 ci_3 (sA (uA (uA (uA q1.2 13 ci_0 q1.1) 13 ci_1 x2) 13 ci_2 (sA (uA (uA q1.2 13 ci_0 q1.1) 13 ci_1 x2) 33 x1)) 32 x1)) 6 x1)) 13 ci_5 x1) 13 cb_6 (sA (uA (uA (uA (uA (uA (uA q1.2 13 ci_0 q1.1) 13 ci_1 x2) 13 ci_2 (sA (uA (uA q1.2 13 ci_0 q1.1) 13 ci_1 x2) 33 x1)) 13 ci_3 (sA (uA (uA (uA q1.2 13 ci_0 q1.1) 13 ci_1 x2) 13 ci_2 (sA (uA (uA q1.2 13 ci_0 q1.1) 13 ci_1 x2) 33 x1)) 32 x1)) 13 ci_4 (sA (uA (uA (uA (uA q1.2 13 ci_0 q1.1) 13 ci_1 x2) 13 ci_2 (sA (uA (uA q1.2 13 ci_0 q1.1) 13 ci_1 x2) 33 x1)) 13 ci_3 (sA (uA (uA (uA q1.2 13 ci_0 q1.1) 13 ci_1 x2) 13 ci_2 (sA (uA (uA q1.2 13 ci_0 q1.1) 13 ci_1 x2) 33 x1)) 32 x1)) 6 x1)) 13 ci_5 x1) 30 x1)).2.1 13) (cb_7).toNatClampNeg (sA (uA (uA (uA (uA (uA (uA (uA q1.2 13 ci_0 q1.1) 13 ci_1 x2) 13 ci_2 (sA (uA (uA q1.2 13 ci_0 q1.1) 13 ci_1 x2) 33 x1)) 13 ci_3 (sA (uA (uA (uA q1.2 13 ci_0 q1.1) 13 ci_1 x2) 13 ci_2 (sA (uA (uA q1.2 13 ci_0 q1.1) 13 ci_1 x2) 33 x1)) 32 x1)) 13 ci_4 (sA (uA (uA (uA (uA q1.2 13 ci_0 q1.1) 13 ci_1 x2) 13 ci_2 (sA (uA (uA q1.2 13 ci_0 q1.1) 13 ci_1 x2) 33 x1)) 13 ci_3 (sA (uA (uA (uA q1.2 13 ci_0 q1.1) 13 ci_1 x2) 13 ci_2 (sA (uA (uA q1.2 13 ci_0 q1.1) 13 ci_1 x2) 33 x1)) 32 x1)) 6 x1)) 13 ci_5 x1) 13 cb_6 (sA (uA (uA (uA (uA (uA (uA q1.2 13 ci_0 q1.1) 13 ci_1 x2) 13 ci_2 (sA (uA (uA q1.2 13 ci_0 q1.1) 13 ci_1 x2) 33 x1)) 13 ci_3 (sA (uA (uA (uA q1.2 13 ci_0 q1.1) 13 ci_1 x2) 13 ci_2 (sA (uA (uA q1.2 13 ci_0 q1.1) 13 ci_1 x2) 33 x1)) 32 x1)) 13 ci_4 (sA (uA (uA (uA (uA q1.2 13 ci_0 q1.1) 13 ci_1 x2) 13 ci_2 (sA (uA (uA q1.2 13 ci_0 q1.1) 13 ci_1 x2) 33 x1)) 13 ci_3 (sA (uA (uA (uA q1.2 13 ci_0 q1.1) 13 ci_1 x2) 13 ci_2 (sA (uA (uA q1.2 13 ci_0 q1.1) 13 ci_1 x2) 33 x1)) 32 x1)) 6 x1)) 13 ci_5 x1) 30 x1)) 34 x1))))) (fun _ _ => rfl) h (fun h => ?_)
  rw [mkC_A13]
  cases h
  exact bfr_ret 1 (fun _ _ => rfl)
set_option maxRecDepth 100000 in
theorem k_cj_max_b10 (n d : Nat) (q : (Int32 × bS)) (s0 : Int32) (o0 : Option Value) (o1 : Option Value) (ra : Nat) (rb : Nat) (rc : Nat) (re : Nat) (rf : Value) (rg : Value) (σ : bS) (h : cj_max_b10 n s0 σ = some q) : bfr MT (d + 0) M_J9_max_7cf53 10 [o0, o1] [] [(.int s0)] (mkC ra rb rc re rf rg σ) (some (.int q.1), mkC ra rb rc re rf rg q.2) := by
  unfold cj_max_b10 at h
  cases h
  exact bfr_ret 1 (fun _ _ => rfl)
set_option maxRecDepth 100000 in
theorem k_cj_max (n d : Nat) (q : (Int32 × bS)) (x0 : Int32) (x1 : Int32) (ra : Nat) (rb : Nat) (rc : Nat) (re : Nat) (rf : Value) (rg : Value) (σ : bS) (h : cj_max n x0 x1 σ = some q) : bfr MT (d + 0) M_J9_max_7cf53 0 [some (.int x0), some (.int x1)] [] [] (mkC ra rb rc re rf rg σ) (some (.int q.1), mkC ra rb rc re rf rg q.2) := by
  unfold cj_max at h
  refine bfr_br 3 (pc1 := 9) (L1 := [some (.int x0), some (.int x1)]) (J1 := []) (st1 := []) (w1 := mkC ra rb rc re rf rg σ) (pc2 := 5) (L2 := [some (.int x0), some (.int x1)]) (J2 := []) (st2 := []) (w2 := mkC ra rb rc re rf rg σ) (fun _ _ => rfl) h (fun h => ?_) (fun h => ?_)
  · refine bfr_run 1 10 [some (.int x0), some (.int x1)] [] [(.int x1)] (mkC ra rb rc re rf rg σ) (fun _ _ => rfl) ?_
    exact k_cj_max_b10 n d q _ _ _ _ _ _ _ _ _ _ h
  · refine bfr_run 2 10 [some (.int x0), some (.int x1)] [] [(.int x0)] (mkC ra rb rc re rf rg σ) (fun _ _ => rfl) ?_
    exact k_cj_max_b10 n d q _ _ _ _ _ _ _ _ _ _ h
set_option maxRecDepth 100000 in
theorem k_cLaws_valueOf_b263 (n d : Nat) (r8 : Int32 → Int32 → bS → Option (Int32 × bS)) (q : (Int32 × bS)) (hr8 : ∀ (x2 : Int32) (x3 : Int32) (o1 : Option Value) (o4 : Option Value) (o5 : Option Value) (o6 : Option Value) (o7 : Option Value) (ra : Nat) (rb : Nat) (rc : Nat) (re : Nat) (rf : Value) (rg : Value) (σ : bS), r8 x2 x3 σ = some q → bfr MT (d + 1) M_X2_valueOf 8 [some (.ref 10), o1, some (.int x2), some (.int x3), o4, o5, o6, o7] [] [] (mkC ra rb rc re rf rg σ) (some (.int q.1), mkC ra rb rc re rf rg q.2)) (x2 : Int32) (x3 : Int32) (o1 : Option Value) (o4 : Option Value) (o5 : Option Value) (o6 : Option Value) (o7 : Option Value) (ra : Nat) (rb : Nat) (rc : Nat) (re : Nat) (rf : Value) (rg : Value) (σ : bS) (h : cLaws_valueOf_b263 n r8 x2 x3 σ = some q) : bfr MT (d + 1) M_X2_valueOf 263 [some (.ref 10), o1, some (.int x2), some (.int x3), o4, o5, o6, o7] [] [] (mkC ra rb rc re rf rg σ) (some (.int q.1), mkC ra rb rc re rf rg q.2) := by
  unfold cLaws_valueOf_b263 at h
  refine bfr_run 1 266 [some (.ref 10), o1, some (.int x2), some (.int (x3 + ci_1)), o4, o5, o6, o7] [] [] (mkC ra rb rc re rf rg σ) (fun _ _ => rfl) ?_
  refine bfr_run 1 8 [some (.ref 10), o1, some (.int x2), some (.int (x3 + ci_1)), o4, o5, o6, o7] [] [] (mkC ra rb rc re rf rg σ) (fun _ _ => rfl) ?_
  exact hr8 _ _ _ _ _ _ _ _ _ _ _ _ _ _ h
set_option maxRecDepth 100000 in
theorem k_cLaws_valueOf_b260 (n d : Nat) (r8 : Int32 → Int32 → bS → Option (Int32 × bS)) (q : (Int32 × bS)) (hr8 : ∀ (x2 : Int32) (x3 : Int32) (o1 : Option Value) (o4 : Option Value) (o5 : Option Value) (o6 : Option Value) (o7 : Option Value) (ra : Nat) (rb : Nat) (rc : Nat) (re : Nat) (rf : Value) (rg : Value) (σ : bS), r8 x2 x3 σ = some q → bfr MT (d + 1) M_X2_valueOf 8 [some (.ref 10), o1, some (.int x2), some (.int x3), o4, o5, o6, o7] [] [] (mkC ra rb rc re rf rg σ) (some (.int q.1), mkC ra rb rc re rf rg q.2)) (x2 : Int32) (x3 : Int32) (o1 : Option Value) (o4 : Option Value) (o5 : Option Value) (o6 : Option Value) (o7 : Option Value) (ra : Nat) (rb : Nat) (rc : Nat) (re : Nat) (rf : Value) (rg : Value) (σ : bS) (h : cLaws_valueOf_b260 n r8 x2 x3 σ = some q) : bfr MT (d + 1) M_X2_valueOf 260 [some (.ref 10), o1, some (.int x2), some (.int x3), o4, o5, o6, o7] [] [] (mkC ra rb rc re rf rg σ) (some (.int q.1), mkC ra rb rc re rf rg q.2) := by
  unfold cLaws_valueOf_b260 at h
  refine bfr_run 1 263 [some (.ref 10), o1, some (.int (x2 + ci_1)), some (.int x3), o4, o5, o6, o7] [] [] (mkC ra rb rc re rf rg σ) (fun _ _ => rfl) ?_
  exact k_cLaws_valueOf_b263 n d _ q hr8 _ _ _ _ _ _ _ _ _ _ _ _ _ _ h
set_option maxRecDepth 100000 in
theorem k_cLaws_valueOf_b224 (n d : Nat) (r8 : Int32 → Int32 → bS → Option (Int32 × bS)) (q : (Int32 × bS)) (hr8 : ∀ (x2 : Int32) (x3 : Int32) (o1 : Option Value) (o4 : Option Value) (o5 : Option Value) (o6 : Option Value) (o7 : Option Value) (ra : Nat) (rb : Nat) (rc : Nat) (re : Nat) (rf : Value) (rg : Value) (σ : bS), r8 x2 x3 σ = some q → bfr MT (d + 1) M_X2_valueOf 8 [some (.ref 10), o1, some (.int x2), some (.int x3), o4, o5, o6, o7] [] [] (mkC ra rb rc re rf rg σ) (some (.int q.1), mkC ra rb rc re rf rg q.2)) (x2 : Int32) (x3 : Int32) (s1 : Int32) (s2 : Int32) (o1 : Option Value) (o4 : Option Value) (o5 : Option Value) (o6 : Option Value) (o7 : Option Value) (ra : Nat) (rb : Nat) (rc : Nat) (re : Nat) (rf : Value) (rg : Value) (σ : bS) (h : cLaws_valueOf_b224 n r8 x2 x3 s1 s2 σ = some q) : bfr MT (d + 1) M_X2_valueOf 224 [some (.ref 10), o1, some (.int x2), some (.int x3), o4, o5, o6, o7] [] [(.int s2), (.int s1), (.ref 12)] (mkC ra rb rc re rf rg σ) (some (.int q.1), mkC ra rb rc re rf rg q.2) := by
  unfold cLaws_valueOf_b224 at h
  refine bfr_in (i := s1) (m := 32) 1 (pc1 := 225) (L1 := [some (.ref 10), o1, some (.int x2), some (.int x3), o4, o5, o6, o7]) (J1 := []) (st1 := []) (w1 := ((mkC ra rb rc re rf rg σ).set 12 (.inl (0, 32, upd (σ.2.1 12) (s1).toNatClampNeg s2)))) (fun _ _ => rfl) h (fun h => ?_)
  rw [mkC_A12]
  refine bfr_run 1 260 [some (.ref 10), o1, some (.int x2), some (.int x3), o4, o5, o6, o7] [] [] (mkC ra rb rc re rf rg (uA σ 12 s1 s2)) (fun _ _ => rfl) ?_
  exact k_cLaws_valueOf_b260 n d _ q hr8 _ _ _ _ _ _ _ _ _ _ _ _ _ _ h
set_option maxRecDepth 100000 in
theorem k_cLaws_valueOf_b169 (n d : Nat) (r8 : Int32 → Int32 → bS → Option (Int32 × bS)) (q : (Int32 × bS)) (hr8 : ∀ (x2 : Int32) (x3 : Int32) (o1 : Option Value) (o4 : Option Value) (o5 : Option Value) (o6 : Option Value) (o7 : Option Value) (ra : Nat) (rb : Nat) (rc : Nat) (re : Nat) (rf : Value) (rg : Value) (σ : bS), r8 x2 x3 σ = some q → bfr MT (d + 1) M_X2_valueOf 8 [some (.ref 10), o1, some (.int x2), some (.int x3), o4, o5, o6, o7] [] [] (mkC ra rb rc re rf rg σ) (some (.int q.1), mkC ra rb rc re rf rg q.2)) (x2 : Int32) (s0 : Int32) (o1 : Option Value) (o3 : Option Value) (o4 : Option Value) (o5 : Option Value) (o6 : Option Value) (o7 : Option Value) (ra : Nat) (rb : Nat) (rc : Nat) (re : Nat) (rf : Value) (rg : Value) (σ : bS) (h : cLaws_valueOf_b169 n r8 x2 s0 σ = some q) : bfr MT (d + 1) M_X2_valueOf 169 [some (.ref 10), o1, some (.int x2), o3, o4, o5, o6, o7] [] [(.int s0)] (mkC ra rb rc re rf rg σ) (some (.int q.1), mkC ra rb rc re rf rg q.2) := by
  unfold cLaws_valueOf_b169 at h
  refine bfr_run 2 263 [some (.ref 10), o1, some (.int x2), some (.int s0), o4, o5, o6, o7] [] [] (mkC ra rb rc re rf rg σ) (fun _ _ => rfl) ?_
  exact k_cLaws_valueOf_b263 n d _ q hr8 _ _ _ _ _ _ _ _ _ _ _ _ _ _ h
set_option maxRecDepth 100000 in
theorem k_cLaws_valueOf_b166 (n d : Nat) (r8 : Int32 → Int32 → bS → Option (Int32 × bS)) (q : (Int32 × bS)) (hr8 : ∀ (x2 : Int32) (x3 : Int32) (o1 : Option Value) (o4 : Option Value) (o5 : Option Value) (o6 : Option Value) (o7 : Option Value) (ra : Nat) (rb : Nat) (rc : Nat) (re : Nat) (rf : Value) (rg : Value) (σ : bS), r8 x2 x3 σ = some q → bfr MT (d + 1) M_X2_valueOf 8 [some (.ref 10), o1, some (.int x2), some (.int x3), o4, o5, o6, o7] [] [] (mkC ra rb rc re rf rg σ) (some (.int q.1), mkC ra rb rc re rf rg q.2)) (x2 : Int32) (s0 : Int32) (s1 : Int32) (o1 : Option Value) (o3 : Option Value) (o4 : Option Value) (o5 : Option Value) (o6 : Option Value) (o7 : Option Value) (ra : Nat) (rb : Nat) (rc : Nat) (re : Nat) (rf : Value) (rg : Value) (σ : bS) (h : cLaws_valueOf_b166 n r8 x2 s0 s1 σ = some q) : bfr MT (d + 1) M_X2_valueOf 166 [some (.ref 10), o1, some (.int x2), o3, o4, o5, o6, o7] [] [(.int s1), (.int s0)] (mkC ra rb rc re rf rg σ) (some (.int q.1), mkC ra rb rc re rf rg q.2) := by
  unfold cLaws_valueOf_b166 at h
  refine bfr_call 1 (d1 := d + 0) (M1 := M_J9_max_7cf53) (vs := [(.int s0), (.int s1)]) (w1 := mkC ra rb rc re rf rg σ) (pc2 := 169) (L2 := [some (.ref 10), o1, some (.int x2), o3, o4, o5, o6, o7]) (J2 := []) (rest := []) (fun a => some (.int a.1)) (fun a => mkC ra rb rc re rf rg a.2) (fun _ _ => rfl) h (fun a ha => k_cj_max n (d + 0) _ _ _ _ _ _ _ _ _ _ ha) (fun q1 _ h => ?_)
  exact k_cLaws_valueOf_b169 n d _ q hr8 _ _ _ _ _ _ _ _ _ _ _ _ _ _ _ h
set_option maxRecDepth 100000 in
theorem k_cLaws_valueOf_b125 (n d : Nat) (r8 : Int32 → Int32 → bS → Option (Int32 × bS)) (q : (Int32 × bS)) (hr8 : ∀ (x2 : Int32) (x3 : Int32) (o1 : Option Value) (o4 : Option Value) (o5 : Option Value) (o6 : Option Value) (o7 : Option Value) (ra : Nat) (rb : Nat) (rc : Nat) (re : Nat) (rf : Value) (rg : Value) (σ : bS), r8 x2 x3 σ = some q → bfr MT (d + 1) M_X2_valueOf 8 [some (.ref 10), o1, some (.int x2), some (.int x3), o4, o5, o6, o7] [] [] (mkC ra rb rc re rf rg σ) (some (.int q.1), mkC ra rb rc re rf rg q.2)) (x2 : Int32) (x3 : Int32) (x4 : Int32) (x5 : Int32) (o1 : Option Value) (o6 : Option Value) (o7 : Option Value) (ra : Nat) (rb : Nat) (rc : Nat) (re : Nat) (rf : Value) (rg : Value) (σ : bS) (h : cLaws_valueOf_b125 n r8 x2 x3 x4 x5 σ = some q) : bfr MT (d + 1) M_X2_valueOf 125 [some (.ref 10), o1, some (.int x2), some (.int x3), some (.int x4), some (.int x5), o6, o7] [] [] (mkC ra rb rc re rf rg σ) (some (.int q.1), mkC ra rb rc re rf rg q.2) := by
  unfold cLaws_valueOf_b125 at h
  refine bfr_in (i := x2) (m := 32) 4 (pc1 := 131) (L1 := [some (.ref 10), o1, some (.int x2), some (.int x3), some (.int x4), some (.int x5), o6, o7]) (J1 := []) (st1 := [(.int (sA σ 12 x2))]) (w1 := mkC ra rb rc re rf rg σ) (fun _ _ => rfl) h (fun h => ?_)
  refine bfr_run 6 140 [some (.ref 10), o1, some (.int x2), some (.int x3), some (.int x4), some (.int x5), some (.int (sA σ 12 x2)), o7] [] [(.int (x2 + ci_1)), (.ref 12)] (mkC ra rb rc re rf rg σ) (fun _ _ => rfl) ?_
  refine bfr_in (i := (x2 + ci_1)) (m := 32) 1 (pc1 := 141) (L1 := [some (.ref 10), o1, some (.int x2), some (.int x3), some (.int x4), some (.int x5), some (.int (sA σ 12 x2)), o7]) (J1 := []) (st1 := [(.int (sA σ 12 (x2 + ci_1)))]) (w1 := mkC ra rb rc re rf rg σ) (fun _ _ => rfl) h (fun h => ?_)
  refine bfr_br 4 (pc1 := 150) (L1 := [some (.ref 10), o1, some (.int x2), some (.int x3), some (.int x4), some (.int x5), some (.int (sA σ 12 x2)), some (.int (sA σ 12 (x2 + ci_1)))]) (J1 := []) (st1 := []) (w1 := mkC ra rb rc re rf rg σ) (pc2 := 173) (L2 := [some (.ref 10), o1, some (.int x2), some (.int x3), some (.int x4), some (.int x5), some (.int (sA σ 12 x2)), some (.int (sA σ 12 (x2 + ci_1)))]) (J2 := []) (st2 := []) (w2 := mkC ra rb rc re rf rg σ) (fun _ _ => rfl) h (fun h => ?_) (fun h => ?_)
  · refine bfr_br 3 (pc1 := 161) (L1 := [some (.ref 10), o1, some (.int x2), some (.int x3), some (.int x4), some (.int x5), some (.int (sA σ 12 x2)), some (.int (sA σ 12 (x2 + ci_1)))]) (J1 := []) (st1 := []) (w1 := mkC ra rb rc re rf rg σ) (pc2 := 157) (L2 := [some (.ref 10), o1, some (.int x2), some (.int x3), some (.int x4), some (.int x5), some (.int (sA σ 12 x2)), some (.int (sA σ 12 (x2 + ci_1)))]) (J2 := []) (st2 := []) (w2 := mkC ra rb rc re rf rg σ) (fun _ _ => rfl) h (fun h => ?_) (fun h => ?_)
    · refine bfr_run 4 166 [some (.ref 10), o1, some (.int x2), some (.int x3), some (.int x4), some (.int x5), some (.int (sA σ 12 x2)), some (.int (sA σ 12 (x2 + ci_1)))] [] [(.int (x5 - ci_1)), (.int x3)] (mkC ra rb rc re rf rg σ) (fun _ _ => rfl) ?_
      exact k_cLaws_valueOf_b166 n d _ q hr8 _ _ _ _ _ _ _ _ _ _ _ _ _ _ _ _ h
    · refine bfr_run 2 169 [some (.ref 10), o1, some (.int x2), some (.int x3), some (.int x4), some (.int x5), some (.int (sA σ 12 x2)), some (.int (sA σ 12 (x2 + ci_1)))] [] [(.int x3)] (mkC ra rb rc re rf rg σ) (fun _ _ => rfl) ?_
      exact k_cLaws_valueOf_b169 n d _ q hr8 _ _ _ _ _ _ _ _ _ _ _ _ _ _ _ h
  · refine bfr_of 2 (fun K => (if (x4).toInt = 2 then K 200 [some (.ref 10), o1, some (.int x2), some (.int x3), some (.int x4), some (.int x5), some (.int (sA σ 12 x2)), some (.int (sA σ 12 (x2 + ci_1)))] [] [] (mkC ra rb rc re rf rg σ) else (if (x4).toInt = 3 then K 214 [some (.ref 10), o1, some (.int x2), some (.int x3), some (.int x4), some (.int x5), some (.int (sA σ 12 x2)), some (.int (sA σ 12 (x2 + ci_1)))] [] [] (mkC ra rb rc re rf rg σ) else (if (x4).toInt = 4 then K 228 [some (.ref 10), o1, some (.int x2), some (.int x3), some (.int x4), some (.int x5), some (.int (sA σ 12 x2)), some (.int (sA σ 12 (x2 + ci_1)))] [] [] (mkC ra rb rc re rf rg σ) else K 242 [some (.ref 10), o1, some (.int x2), some (.int x3), some (.int x4), some (.int x5), some (.int (sA σ 12 x2)), some (.int (sA σ 12 (x2 + ci_1)))] [] [] (mkC ra rb rc re rf rg σ))))) (fun _ _ => rfl) ?_
    refine bres_if h (fun h => ?_) (fun h => ?_)
    · refine bfr_run 6 210 [some (.ref 10), o1, some (.int x2), some (.int x3), some (.int x4), some (.int x5), some (.int (sA σ 12 x2)), some (.int (sA σ 12 (x2 + ci_1)))] [] [(.int ((sA σ 12 x2) + (sA σ 12 (x2 + ci_1)))), (.int x2), (.ref 12)] (mkC ra rb rc re rf rg σ) (fun _ _ => rfl) ?_
      refine bfr_in (i := x2) (m := 32) 1 (pc1 := 211) (L1 := [some (.ref 10), o1, some (.int x2), some (.int x3), some (.int x4), some (.int x5), some (.int (sA σ 12 x2)), some (.int (sA σ 12 (x2 + ci_1)))]) (J1 := []) (st1 := []) (w1 := ((mkC ra rb rc re rf rg σ).set 12 (.inl (0, 32, upd (σ.2.1 12) (x2).toNatClampNeg ((sA σ 12 x2) + (sA σ 12 (x2 + ci_1))))))) (fun _ _ => rfl) h (fun h => ?_)
      rw [mkC_A12]
      refine bfr_run 1 260 [some (.ref 10), o1, some (.int x2), some (.int x3), some (.int x4), some (.int x5), some (.int (sA σ 12 x2)), some (.int (sA σ 12 (x2 + ci_1)))] [] [] (mkC ra rb rc re rf rg (uA σ 12 x2 ((sA σ 12 x2) + (sA σ 12 (x2 + ci_1))))) (fun _ _ => rfl) ?_
      exact k_cLaws_valueOf_b260 n d _ q hr8 _ _ _ _ _ _ _ _ _ _ _ _ _ _ h
    refine bres_if h (fun h => ?_) (fun h => ?_)
    · refine bfr_run 6 224 [some (.ref 10), o1, some (.int x2), some (.int x3), some (.int x4), some (.int x5), some (.int (sA σ 12 x2)), some (.int (sA σ 12 (x2 + ci_1)))] [] [(.int ((sA σ 12 x2) - (sA σ 12 (x2 + ci_1)))), (.int x2), (.ref 12)] (mkC ra rb rc re rf rg σ) (fun _ _ => rfl) ?_
      exact k_cLaws_valueOf_b224 n d _ q hr8 _ _ _ _ _ _ _ _ _ _ _ _ _ _ _ _ h
    refine bres_if h (fun h => ?_) (fun h => ?_)
    · refine bfr_run 6 238 [some (.ref 10), o1, some (.int x2), some (.int x3), some (.int x4), some (.int x5), some (.int (sA σ 12 x2)), some (.int (sA σ 12 (x2 + ci_1)))] [] [(.int ((sA σ 12 x2) * (sA σ 12 (x2 + ci_1)))), (.int x2), (.ref 12)] (mkC ra rb rc re rf rg σ) (fun _ _ => rfl) ?_
      refine bfr_in (i := x2) (m := 32) 1 (pc1 := 239) (L1 := [some (.ref 10), o1, some (.int x2), some (.int x3), some (.int x4), some (.int x5), some (.int (sA σ 12 x2)), some (.int (sA σ 12 (x2 + ci_1)))]) (J1 := []) (st1 := []) (w1 := ((mkC ra rb rc re rf rg σ).set 12 (.inl (0, 32, upd (σ.2.1 12) (x2).toNatClampNeg ((sA σ 12 x2) * (sA σ 12 (x2 + ci_1))))))) (fun _ _ => rfl) h (fun h => ?_)
      rw [mkC_A12]
      refine bfr_run 1 260 [some (.ref 10), o1, some (.int x2), some (.int x3), some (.int x4), some (.int x5), some (.int (sA σ 12 x2)), some (.int (sA σ 12 (x2 + ci_1)))] [] [] (mkC ra rb rc re rf rg (uA σ 12 x2 ((sA σ 12 x2) * (sA σ 12 (x2 + ci_1))))) (fun _ _ => rfl) ?_
      exact k_cLaws_valueOf_b260 n d _ q hr8 _ _ _ _ _ _ _ _ _ _ _ _ _ _ h
    refine bfr_br 2 (pc1 := 247) (L1 := [some (.ref 10), o1, some (.int x2), some (.int x3), some (.int x4), some (.int x5), some (.int (sA σ 12 x2)), some (.int (sA σ 12 (x2 + ci_1)))]) (J1 := []) (st1 := []) (w1 := mkC ra rb rc re rf rg σ) (pc2 := 249) (L2 := [some (.ref 10), o1, some (.int x2), some (.int x3), some (.int x4), some (.int x5), some (.int (sA σ 12 x2)), some (.int (sA σ 12 (x2 + ci_1)))]) (J2 := []) (st2 := []) (w2 := mkC ra rb rc re rf rg σ) (fun _ _ => rfl) h (fun h => ?_) (fun h => ?_)
    · cases h
      exact bfr_ret 2 (fun _ _ => rfl)
    · refine bfr_chk 6 (pc1 := 259) (L1 := [some (.ref 10), o1, some (.int x2), some (.int x3), some (.int x4), some (.int x5), some (.int (sA σ 12 x2)), some (.int (sA σ 12 (x2 + ci_1)))]) (J1 := []) (st1 := [(.int ((sA σ 12 x2) / (sA σ 12 (x2 + ci_1)))), (.int x2), (.ref 12)]) (w1 := mkC ra rb rc re rf rg σ) (fun _ _ => rfl) h (fun h => ?_)
      refine bfr_in (i := x2) (m := 32) 1 (pc1 := 260) (L1 := [some (.ref 10), o1, some (.int x2), some (.int x3), some (.int x4), some (.int x5), some (.int (sA σ 12 x2)), some (.int (sA σ 12 (x2 + ci_1)))]) (J1 := []) (st1 := []) (w1 := ((mkC ra rb rc re rf rg σ).set 12 (.inl (0, 32, upd (σ.2.1 12) (x2).toNatClampNeg ((sA σ 12 x2) / (sA σ 12 (x2 + ci_1))))))) (fun _ _ => rfl) h (fun h => ?_)
      rw [mkC_A12]
      exact k_cLaws_valueOf_b260 n d _ q hr8 _ _ _ _ _ _ _ _ _ _ _ _ _ _ h
set_option maxRecDepth 100000 in
theorem k_cLaws_valueOf_b108 (n d : Nat) (r8 : Int32 → Int32 → bS → Option (Int32 × bS)) (q : (Int32 × bS)) (hr8 : ∀ (x2 : Int32) (x3 : Int32) (o1 : Option Value) (o4 : Option Value) (o5 : Option Value) (o6 : Option Value) (o7 : Option Value) (ra : Nat) (rb : Nat) (rc : Nat) (re : Nat) (rf : Value) (rg : Value) (σ : bS), r8 x2 x3 σ = some q → bfr MT (d + 1) M_X2_valueOf 8 [some (.ref 10), o1, some (.int x2), some (.int x3), o4, o5, o6, o7] [] [] (mkC ra rb rc re rf rg σ) (some (.int q.1), mkC ra rb rc re rf rg q.2)) (x2 : Int32) (x3 : Int32) (s1 : Int32) (s2 : Int32) (o1 : Option Value) (o4 : Option Value) (o5 : Option Value) (o6 : Option Value) (o7 : Option Value) (ra : Nat) (rb : Nat) (rc : Nat) (re : Nat) (rf : Value) (rg : Value) (σ : bS) (h : cLaws_valueOf_b108 n r8 x2 x3 s1 s2 σ = some q) : bfr MT (d + 1) M_X2_valueOf 108 [some (.ref 10), o1, some (.int x2), some (.int x3), o4, o5, o6, o7] [] [(.int s2), (.int s1), (.ref 12)] (mkC ra rb rc re rf rg σ) (some (.int q.1), mkC ra rb rc re rf rg q.2) := by
  unfold cLaws_valueOf_b108 at h
  refine bfr_in (i := s1) (m := 32) 1 (pc1 := 109) (L1 := [some (.ref 10), o1, some (.int x2), some (.int x3), o4, o5, o6, o7]) (J1 := []) (st1 := []) (w1 := ((mkC ra rb rc re rf rg σ).set 12 (.inl (0, 32, upd (σ.2.1 12) (s1).toNatClampNeg s2)))) (fun _ _ => rfl) h (fun h => ?_)
  rw [mkC_A12]
  refine bfr_run 1 112 [some (.ref 10), o1, some (.int (x2 + ci_1)), some (.int x3), o4, o5, o6, o7] [] [] (mkC ra rb rc re rf rg (uA σ 12 s1 s2)) (fun _ _ => rfl) ?_
  refine bfr_run 1 263 [some (.ref 10), o1, some (.int (x2 + ci_1)), some (.int x3), o4, o5, o6, o7] [] [] (mkC ra rb rc re rf rg (uA σ 12 s1 s2)) (fun _ _ => rfl) ?_
  exact k_cLaws_valueOf_b263 n d _ q hr8 _ _ _ _ _ _ _ _ _ _ _ _ _ _ h
set_option maxRecDepth 100000 in
theorem k_cLaws_valueOf_b72 (n d : Nat) (r8 : Int32 → Int32 → bS → Option (Int32 × bS)) (q : (Int32 × bS)) (hr8 : ∀ (x2 : Int32) (x3 : Int32) (o1 : Option Value) (o4 : Option Value) (o5 : Option Value) (o6 : Option Value) (o7 : Option Value) (ra : Nat) (rb : Nat) (rc : Nat) (re : Nat) (rf : Value) (rg : Value) (σ : bS), r8 x2 x3 σ = some q → bfr MT (d + 1) M_X2_valueOf 8 [some (.ref 10), o1, some (.int x2), some (.int x3), o4, o5, o6, o7] [] [] (mkC ra rb rc re rf rg σ) (some (.int q.1), mkC ra rb rc re rf rg q.2)) (x2 : Int32) (x3 : Int32) (x4 : Int32) (x5 : Int32) (o1 : Option Value) (o6 : Option Value) (o7 : Option Value) (ra : Nat) (rb : Nat) (rc : Nat) (re : Nat) (rf : Value) (rg : Value) (σ : bS) (h : cLaws_valueOf_b72 n r8 x2 x3 x4 x5 σ = some q) : bfr MT (d + 1) M_X2_valueOf 72 [some (.ref 10), o1, some (.int x2), some (.int x3), some (.int x4), some (.int x5), o6, o7] [] [] (mkC ra rb rc re rf rg σ) (some (.int q.1), mkC ra rb rc re rf rg q.2) := by
  unfold cLaws_valueOf_b72 at h
  refine bfr_br 5 (pc1 := 83) (L1 := [some (.ref 10), o1, some (.int x2), some (.int x3), some (.int x4), some (.int x5), o6, o7]) (J1 := []) (st1 := []) (w1 := mkC ra rb rc re rf rg σ) (pc2 := 81) (L2 := [some (.ref 10), o1, some (.int x2), some (.int x3), some (.int x4), some (.int x5), o6, o7]) (J2 := []) (st2 := []) (w2 := mkC ra rb rc re rf rg σ) (fun _ _ => rfl) h (fun h => ?_) (fun h => ?_)
  · refine bfr_br 5 (pc1 := 93) (L1 := [some (.ref 10), o1, some (.int x2), some (.int x3), some (.int x4), some (.int x5), o6, o7]) (J1 := []) (st1 := [(.int x2), (.ref 12)]) (w1 := mkC ra rb rc re rf rg σ) (pc2 := 98) (L2 := [some (.ref 10), o1, some (.int x2), some (.int x3), some (.int x4), some (.int x5), o6, o7]) (J2 := []) (st2 := [(.int x2), (.ref 12)]) (w2 := mkC ra rb rc re rf rg σ) (fun _ _ => rfl) h (fun h => ?_) (fun h => ?_)
    · refine bfr_run 2 108 [some (.ref 10), o1, some (.int x2), some (.int x3), some (.int x4), some (.int x5), o6, o7] [] [(.int x5), (.int x2), (.ref 12)] (mkC ra rb rc re rf rg σ) (fun _ _ => rfl) ?_
      exact k_cLaws_valueOf_b108 n d _ q hr8 _ _ _ _ _ _ _ _ _ _ _ _ _ _ _ _ h
    · refine bfr_in (i := (x5 &&& cb_7)) (m := 8) 6 (pc1 := 108) (L1 := [some (.ref 10), o1, some (.int x2), some (.int x3), some (.int x4), some (.int x5), o6, o7]) (J1 := []) (st1 := [(.int (sA σ 13 (x5 &&& cb_7))), (.int x2), (.ref 12)]) (w1 := mkC ra rb rc re rf rg σ) (fun _ _ => rfl) h (fun h => ?_)
      exact k_cLaws_valueOf_b108 n d _ q hr8 _ _ _ _ _ _ _ _ _ _ _ _ _ _ _ _ h
  · cases h
    exact bfr_ret 2 (fun _ _ => rfl)
set_option maxRecDepth 100000 in
theorem k_cLaws_valueOf_b60 (n d : Nat) (r8 : Int32 → Int32 → bS → Option (Int32 × bS)) (q : (Int32 × bS)) (hr8 : ∀ (x2 : Int32) (x3 : Int32) (o1 : Option Value) (o4 : Option Value) (o5 : Option Value) (o6 : Option Value) (o7 : Option Value) (ra : Nat) (rb : Nat) (rc : Nat) (re : Nat) (rf : Value) (rg : Value) (σ : bS), r8 x2 x3 σ = some q → bfr MT (d + 1) M_X2_valueOf 8 [some (.ref 10), o1, some (.int x2), some (.int x3), o4, o5, o6, o7] [] [] (mkC ra rb rc re rf rg σ) (some (.int q.1), mkC ra rb rc re rf rg q.2)) (s0 : Int32) (o0 : Option Value) (o1 : Option Value) (o2 : Option Value) (o3 : Option Value) (o4 : Option Value) (o5 : Option Value) (o6 : Option Value) (o7 : Option Value) (ra : Nat) (rb : Nat) (rc : Nat) (re : Nat) (rf : Value) (rg : Value) (σ : bS) (h : cLaws_valueOf_b60 n r8 s0 σ = some q) : bfr MT (d + 1) M_X2_valueOf 60 [o0, o1, o2, o3, o4, o5, o6, o7] [] [(.int s0)] (mkC ra rb rc re rf rg σ) (some (.int q.1), mkC ra rb rc re rf rg q.2) := by
  unfold cLaws_valueOf_b60 at h
  cases h
  exact bfr_ret 1 (fun _ _ => rfl)
set_option maxRecDepth 100000 in
theorem k_cLaws_valueOf_b55 (n d : Nat) (r8 : Int32 → Int32 → bS → Option (Int32 × bS)) (q : (Int32 × bS)) (hr8 : ∀ (x2 : Int32) (x3 : Int32) (o1 : Option Value) (o4 : Option Value) (o5 : Option Value) (o6 : Option Value) (o7 : Option Value) (ra : Nat) (rb : Nat) (rc : Nat) (re : Nat) (rf : Value) (rg : Value) (σ : bS), r8 x2 x3 σ = some q → bfr MT (d + 1) M_X2_valueOf 8 [some (.ref 10), o1, some (.int x2), some (.int x3), o4, o5, o6, o7] [] [] (mkC ra rb rc re rf rg σ) (some (.int q.1), mkC ra rb rc re rf rg q.2)) (s1 : Int32) (o0 : Option Value) (o1 : Option Value) (o2 : Option Value) (o3 : Option Value) (o4 : Option Value) (o5 : Option Value) (o6 : Option Value) (o7 : Option Value) (ra : Nat) (rb : Nat) (rc : Nat) (re : Nat) (rf : Value) (rg : Value) (σ : bS) (h : cLaws_valueOf_b55 n r8 s1 σ = some q) : bfr MT (d + 1) M_X2_valueOf 55 [o0, o1, o2, o3, o4, o5, o6, o7] [] [(.int s1), (.ref 12)] (mkC ra rb rc re rf rg σ) (some (.int q.1), mkC ra rb rc re rf rg q.2) := by
  unfold cLaws_valueOf_b55 at h
  refine bfr_in (i := s1) (m := 32) 1 (pc1 := 56) (L1 := [o0, o1, o2, o3, o4, o5, o6, o7]) (J1 := []) (st1 := [(.int (sA σ 12 s1))]) (w1 := mkC ra rb rc re rf rg σ) (fun _ _ => rfl) h (fun h => ?_)
  refine bfr_run 1 60 [o0, o1, o2, o3, o4, o5, o6, o7] [] [(.int (sA σ 12 s1))] (mkC ra rb rc re rf rg σ) (fun _ _ => rfl) ?_
  exact k_cLaws_valueOf_b60 n d _ q hr8 _ _ _ _ _ _ _ _ _ _ _ _ _ _ _ _ h
set_option maxRecDepth 100000 in
theorem k_cLaws_valueOf_b8 (n d : Nat) (q : (Int32 × bS)) : ∀ (k : Nat) (x2 : Int32) (x3 : Int32) (o1 : Option Value) (o4 : Option Value) (o5 : Option Value) (o6 : Option Value) (o7 : Option Value) (ra : Nat) (rb : Nat) (rc : Nat) (re : Nat) (rf : Value) (rg : Value) (σ : bS), cLaws_valueOf_b8 n k x2 x3 σ = some q → bfr MT (d + 1) M_X2_valueOf 8 [some (.ref 10), o1, some (.int x2), some (.int x3), o4, o5, o6, o7] [] [] (mkC ra rb rc re rf rg σ) (some (.int q.1), mkC ra rb rc re rf rg q.2) := by
  intro k
  induction k with
  | zero => intro x2 x3 o1 o4 o5 o6 o7 ra rb rc re rf rg σ h; exact bno h
  | succ k ih =>
    intro x2 x3 o1 o4 o5 o6 o7 ra rb rc re rf rg σ h
    unfold cLaws_valueOf_b8 at h
    refine bfr_br 4 (pc1 := 269) (L1 := [some (.ref 10), o1, some (.int x2), some (.int x3), o4, o5, o6, o7]) (J1 := []) (st1 := []) (w1 := mkC ra rb rc re rf rg σ) (pc2 := 16) (L2 := [some (.ref 10), o1, some (.int x2), some (.int x3), o4, o5, o6, o7]) (J2 := []) (st2 := []) (w2 := mkC ra rb rc re rf rg σ) (fun _ _ => rfl) h (fun h => ?_) (fun h => ?_)
    · cases h
      exact bfr_ret 2 (fun _ _ => rfl)
    · refine bfr_in (i := x3) (m := 402) 4 (pc1 := 22) (L1 := [some (.ref 10), o1, some (.int x2), some (.int x3), o4, o5, o6, o7]) (J1 := []) (st1 := [(.int (sA σ 11 x3))]) (w1 := mkC ra rb rc re rf rg σ) (fun _ _ => rfl) h (fun h => ?_)
      refine bfr_run 6 32 [some (.ref 10), o1, some (.int x2), some (.int x3), some (.int ((sA σ 11 x3) &&& cb_7)), o5, o6, o7] [] [(.int x3), (.ref 11)] (mkC ra rb rc re rf rg σ) (fun _ _ => rfl) ?_
      refine bfr_in (i := x3) (m := 402) 1 (pc1 := 33) (L1 := [some (.ref 10), o1, some (.int x2), some (.int x3), some (.int ((sA σ 11 x3) &&& cb_7)), o5, o6, o7]) (J1 := []) (st1 := [(.int (sA σ 11 x3))]) (w1 := mkC ra rb rc re rf rg σ) (fun _ _ => rfl) h (fun h => ?_)
      refine bfr_br 6 (pc1 := 44) (L1 := [some (.ref 10), o1, some (.int x2), some (.int x3), some (.int ((sA σ 11 x3) &&& cb_7)), some (.int ((sA σ 11 x3) >>> (ci_3 &&& 31))), o6, o7]) (J1 := []) (st1 := []) (w1 := mkC ra rb rc re rf rg σ) (pc2 := 61) (L2 := [some (.ref 10), o1, some (.int x2), some (.int x3), some (.int ((sA σ 11 x3) &&& cb_7)), some (.int ((sA σ 11 x3) >>> (ci_3 &&& 31))), o6, o7]) (J2 := []) (st2 := []) (w2 := mkC ra rb rc re rf rg σ) (fun _ _ => rfl) h (fun h => ?_) (fun h => ?_)
      · refine bfr_br 2 (pc1 := 59) (L1 := [some (.ref 10), o1, some (.int x2), some (.int x3), some (.int ((sA σ 11 x3) &&& cb_7)), some (.int ((sA σ 11 x3) >>> (ci_3 &&& 31))), o6, o7]) (J1 := []) (st1 := []) (w1 := mkC ra rb rc re rf rg σ) (pc2 := 48) (L2 := [some (.ref 10), o1, some (.int x2), some (.int x3), some (.int ((sA σ 11 x3) &&& cb_7)), some (.int ((sA σ 11 x3) >>> (ci_3 &&& 31))), o6, o7]) (J2 := []) (st2 := []) (w2 := mkC ra rb rc re rf rg σ) (fun _ _ => rfl) h (fun h => ?_) (fun h => ?_)
        · refine bfr_run 1 60 [some (.ref 10), o1, some (.int x2), some (.int x3), some (.int ((sA σ 11 x3) &&& cb_7)), some (.int ((sA σ 11 x3) >>> (ci_3 &&& 31))), o6, o7] [] [(.int ci_0)] (mkC ra rb rc re rf rg σ) (fun _ _ => rfl) ?_
          exact k_cLaws_valueOf_b60 n d _ q (ih) _ _ _ _ _ _ _ _ _ _ _ _ _ _ _ _ h
        · refine bfr_run 5 55 [some (.ref 10), o1, some (.int x2), some (.int x3), some (.int ((sA σ 11 x3) &&& cb_7)), some (.int ((sA σ 11 x3) >>> (ci_3 &&& 31))), o6, o7] [] [(.int (x2 - ci_1)), (.ref 12)] (mkC ra rb rc re rf rg σ) (fun _ _ => rfl) ?_
          exact k_cLaws_valueOf_b55 n d _ q (ih) _ _ _ _ _ _ _ _ _ _ _ _ _ _ _ _ h
      · refine bfr_br 2 (pc1 := 72) (L1 := [some (.ref 10), o1, some (.int x2), some (.int x3), some (.int ((sA σ 11 x3) &&& cb_7)), some (.int ((sA σ 11 x3) >>> (ci_3 &&& 31))), o6, o7]) (J1 := []) (st1 := []) (w1 := mkC ra rb rc re rf rg σ) (pc2 := 66) (L2 := [some (.ref 10), o1, some (.int x2), some (.int x3), some (.int ((sA σ 11 x3) &&& cb_7)), some (.int ((sA σ 11 x3) >>> (ci_3 &&& 31))), o6, o7]) (J2 := []) (st2 := []) (w2 := mkC ra rb rc re rf rg σ) (fun _ _ => rfl) h (fun h => ?_) (fun h => ?_)
        · exact k_cLaws_valueOf_b72 n d _ q (ih) _ _ _ _ _ _ _ _ _ _ _ _ _ _ h
        · refine bfr_br 3 (pc1 := 72) (L1 := [some (.ref 10), o1, some (.int x2), some (.int x3), some (.int ((sA σ 11 x3) &&& cb_7)), some (.int ((sA σ 11 x3) >>> (ci_3 &&& 31))), o6, o7]) (J1 := []) (st1 := []) (w1 := mkC ra rb rc re rf rg σ) (pc2 := 115) (L2 := [some (.ref 10), o1, some (.int x2), some (.int x3), some (.int ((sA σ 11 x3) &&& cb_7)), some (.int ((sA σ 11 x3) >>> (ci_3 &&& 31))), o6, o7]) (J2 := []) (st2 := []) (w2 := mkC ra rb rc re rf rg σ) (fun _ _ => rfl) h (fun h => ?_) (fun h => ?_)
          · exact k_cLaws_valueOf_b72 n d _ q (ih) _ _ _ _ _ _ _ _ _ _ _ _ _ _ h
          · refine bfr_br 3 (pc1 := 122) (L1 := [some (.ref 10), o1, some (.int x2), some (.int x3), some (.int ((sA σ 11 x3) &&& cb_7)), some (.int ((sA σ 11 x3) >>> (ci_3 &&& 31))), o6, o7]) (J1 := []) (st1 := []) (w1 := mkC ra rb rc re rf rg σ) (pc2 := 120) (L2 := [some (.ref 10), o1, some (.int x2), some (.int x3), some (.int ((sA σ 11 x3) &&& cb_7)), some (.int ((sA σ 11 x3) >>> (ci_3 &&& 31))), o6, o7]) (J2 := []) (st2 := []) (w2 := mkC ra rb rc re rf rg σ) (fun _ _ => rfl) h (fun h => ?_) (fun h => ?_)
            · refine bfr_run 1 125 [some (.ref 10), o1, some (.int (x2 + ci_m2)), some (.int x3), some (.int ((sA σ 11 x3) &&& cb_7)), some (.int ((sA σ 11 x3) >>> (ci_3 &&& 31))), o6, o7] [] [] (mkC ra rb rc re rf rg σ) (fun _ _ => rfl) ?_
              exact k_cLaws_valueOf_b125 n d _ q (ih) _ _ _ _ _ _ _ _ _ _ _ _ _ _ h
            · cases h
              exact bfr_ret 2 (fun _ _ => rfl)
set_option maxRecDepth 100000 in
theorem k_cLaws_valueOf (n d : Nat) (q : (Int32 × bS)) (x1 : Int32) (ra : Nat) (rb : Nat) (rc : Nat) (re : Nat) (rf : Value) (rg : Value) (σ : bS) (h : cLaws_valueOf n x1 σ = some q) : bfr MT (d + 1) M_X2_valueOf 0 [some (.ref 10), some (.int x1), none, none, none, none, none, none] [] [] (mkC ra rb rc re rf rg σ) (some (.int q.1), mkC ra rb rc re rf rg q.2) := by
  unfold cLaws_valueOf at h
  refine bfr_call 5 (d1 := d + 0) (M1 := M_J9_max_7cf53) (vs := [(.int x1), (.int ci_0)]) (w1 := mkC ra rb rc re rf rg σ) (pc2 := 7) (L2 := [some (.ref 10), some (.int x1), some (.int ci_0), none, none, none, none, none]) (J2 := []) (rest := []) (fun a => some (.int a.1)) (fun a => mkC ra rb rc re rf rg a.2) (fun _ _ => rfl) h (fun a ha => k_cj_max n (d + 0) _ _ _ _ _ _ _ _ _ _ ha) (fun q2 _ h => ?_)
  refine bfr_run 1 8 [some (.ref 10), some (.int x1), some (.int ci_0), some (.int q2.1), none, none, none, none] [] [] (mkC ra rb rc re rf rg q2.2) (fun _ _ => rfl) ?_
  exact k_cLaws_valueOf_b8 n d q _ _ _ _ _ _ _ _ _ _ _ _ _ _ _ h
set_option maxRecDepth 100000 in
theorem k_cGoing_wishAs_b79 (n d : Nat) (q : (Int32 × bS)) (s0 : Int32) (o0 : Option Value) (o1 : Option Value) (o2 : Option Value) (o3 : Option Value) (o4 : Option Value) (ra : Nat) (rb : Nat) (re : Nat) (rf : Value) (rg : Value) (σ : bS) (h : cGoing_wishAs_b79 n s0 σ = some q) : bfr MT (d + 2) M_X1_wishAs 79 [o0, o1, o2, o3, o4] [] [(.int s0)] (mkC ra rb 1 re rf rg σ) (some (.int q.1), mkC ra rb 1 re rf rg q.2) := by
  unfold cGoing_wishAs_b79 at h
  cases h
  exact bfr_ret 1 (fun _ _ => rfl)
set_option maxRecDepth 100000 in
theorem k_cGoing_wishAs_b65 (n d : Nat) (q : (Int32 × bS)) (o0 : Option Value) (o1 : Option Value) (o2 : Option Value) (o3 : Option Value) (o4 : Option Value) (ra : Nat) (rb : Nat) (re : Nat) (rf : Value) (rg : Value) (σ : bS) (h : cGoing_wishAs_b65 n σ = some q) : bfr MT (d + 2) M_X1_wishAs 65 [o0, o1, o2, o3, o4] [] [] (mkC ra rb 1 re rf rg σ) (some (.int q.1), mkC ra rb 1 re rf rg q.2) := by
  unfold cGoing_wishAs_b65 at h
  refine bfr_run 2 79 [o0, o1, o2, o3, o4] [] [(.int ci_m1)] (mkC ra rb 1 re rf rg σ) (fun _ _ => rfl) ?_
  exact k_cGoing_wishAs_b79 n d q _ _ _ _ _ _ _ _ _ _ _ _ h
set_option maxRecDepth 100000 in
theorem k_cGoing_wishAs (n d : Nat) (q : (Int32 × bS)) (x1 : Int32) (x2 : Int32) (x3 : Int32) (ra : Nat) (rb : Nat) (re : Nat) (rf : Value) (rg : Value) (σ : bS) (h : cGoing_wishAs n x1 x2 x3 σ = some q) : bfr MT (d + 2) M_X1_wishAs 0 [some (.ref 27), some (.int x1), some (.int x2), some (.int x3), none] [] [] (mkC ra rb 1 re rf rg σ) (some (.int q.1), mkC ra rb 1 re rf rg q.2) := by
  unfold cGoing_wishAs at h
  refine bfr_in (i := x1) (m := 7) 5 (pc1 := 9) (L1 := [some (.ref 27), some (.int x1), some (.int x2), some (.int x3), none]) (J1 := []) (st1 := [(.int (sA σ 8 x1))]) (w1 := mkC ra rb 1 re rf rg σ) (fun _ _ => rfl) h (fun h => ?_)
  refine bfr_br 1 (pc1 := 22) (L1 := [some (.ref 27), some (.int x1), some (.int x2), some (.int x3), none]) (J1 := []) (st1 := []) (w1 := mkC ra rb 1 re rf rg σ) (pc2 := 12) (L2 := [some (.ref 27), some (.int x1), some (.int x2), some (.int x3), none]) (J2 := []) (st2 := []) (w2 := mkC ra rb 1 re rf rg σ) (fun _ _ => rfl) h (fun h => ?_) (fun h => ?_)
  · refine bfr_call 5 (d1 := d + 1) (M1 := M_X1_look) (vs := [(.ref 27), (.int x1), (.int x2), (.int x3)]) (w1 := mkC ra rb 1 re rf rg σ) (pc2 := 29) (L2 := [some (.ref 27), some (.int x1), some (.int x2), some (.int x3), none]) (J2 := []) (rest := []) (fun _ => none) (fun a => mkC ra rb 1 re rf rg a) (fun _ _ => rfl) h (fun a ha => k_cGoing_look n (d + 0) _ _ _ _ _ _ _ _ _ _ ha) (fun q1 _ h => ?_)
    refine bfr_run 6 43 [some (.ref 27), some (.int x1), some (.int x2), some (.int x3), none] [] [(.ref 8), (.ref 10)] (mkC ra rb 1 re rf rg q1) (fun _ _ => rfl) ?_
    refine bfr_in (i := x1) (m := 7) 2 (pc1 := 45) (L1 := [some (.ref 27), some (.int x1), some (.int x2), some (.int x3), none]) (J1 := []) (st1 := [(.int (sA q1 8 x1)), (.ref 10)]) (w1 := mkC ra rb 1 re rf rg q1) (fun _ _ => rfl) h (fun h => ?_)
    refine bfr_call 1 (d1 := d + 1) (M1 := M_X2_valueOf) (vs := [(.ref 10), (.int (sA q1 8 x1))]) (w1 := mkC ra rb 1 re rf rg q1) (pc2 := 48) (L2 := [some (.ref 27), some (.int x1), some (.int x2), some (.int x3), none]) (J2 := []) (rest := []) (fun a => some (.int a.1)) (fun a => mkC ra rb 1 re rf rg a.2) (fun _ _ => rfl) h (fun a ha => k_cLaws_valueOf n (d + 0) _ _ _ _ _ _ _ _ _ ha) (fun q2 _ h => ?_)
    refine bfr_br 3 (pc1 := 65) (L1 := [some (.ref 27), some (.int x1), some (.int x2), some (.int x3), some (.int q2.1)]) (J1 := []) (st1 := []) (w1 := mkC ra rb 1 re rf rg q2.2) (pc2 := 55) (L2 := [some (.ref 27), some (.int x1), some (.int x2), some (.int x3), some (.int q2.1)]) (J2 := []) (st2 := []) (w2 := mkC ra rb 1 re rf rg q2.2) (fun _ _ => rfl) h (fun h => ?_) (fun h => ?_)
    · exact k_cGoing_wishAs_b65 n d q _ _ _ _ _ _ _ _ _ _ _ h
    · refine bfr_br 4 (pc1 := 65) (L1 := [some (.ref 27), some (.int x1), some (.int x2), some (.int x3), some (.int q2.1)]) (J1 := []) (st1 := []) (w1 := mkC ra rb 1 re rf rg q2.2) (pc2 := 69) (L2 := [some (.ref 27), some (.int x1), some (.int x2), some (.int x3), some (.int q2.1)]) (J2 := []) (st2 := []) (w2 := mkC ra rb 1 re rf rg q2.2) (fun _ _ => rfl) h (fun h => ?_) (fun h => ?_)
      · exact k_cGoing_wishAs_b65 n d q _ _ _ _ _ _ _ _ _ _ _ h
      · refine bfr_chk 5 (pc1 := 79) (L1 := [some (.ref 27), some (.int x1), some (.int x2), some (.int x3), some (.int q2.1)]) (J1 := []) (st1 := [(.int (brem q2.1 (sI q2.2 1 0)))]) (w1 := mkC ra rb 1 re rf rg q2.2) (fun _ _ => rfl) h (fun h => ?_)
        exact k_cGoing_wishAs_b79 n d q _ _ _ _ _ _ _ _ _ _ _ _ h
  · refine bfr_in (i := x1) (m := 7) 5 (pc1 := 21) (L1 := [some (.ref 27), some (.int x1), some (.int x2), some (.int x3), none]) (J1 := []) (st1 := [(.int (sA σ 6 x1))]) (w1 := mkC ra rb 1 re rf rg σ) (fun _ _ => rfl) h (fun h => ?_)
    cases h
    exact bfr_ret 1 (fun _ _ => rfl)
set_option maxRecDepth 100000 in
theorem k_cGoing_wishNow (n d : Nat) (q : (Int32 × bS)) (x1 : Int32) (x2 : Int32) (ra : Nat) (rb : Nat) (re : Nat) (rf : Value) (rg : Value) (σ : bS) (h : cGoing_wishNow n x1 x2 σ = some q) : bfr MT (d + 3) M_X1_wishNow 0 [some (.ref 27), some (.int x1), some (.int x2)] [] [] (mkC ra rb 1 re rf rg σ) (some (.int q.1), mkC ra rb 1 re rf rg q.2) := by
  unfold cGoing_wishNow at h
  refine bfr_in (i := x2) (m := 4) 6 (pc1 := 8) (L1 := [some (.ref 27), some (.int x1), some (.int x2)]) (J1 := []) (st1 := [(.int (sA σ 28 x2)), (.int x1), (.ref 27)]) (w1 := mkC ra rb 1 re rf rg σ) (fun _ _ => rfl) h (fun h => ?_)
  refine bfr_call 3 (d1 := d + 2) (M1 := M_X1_wishAs) (vs := [(.ref 27), (.int x1), (.int (sA σ 28 x2)), (.int (sI σ 27 2))]) (w1 := mkC ra rb 1 re rf rg σ) (pc2 := 15) (L2 := [some (.ref 27), some (.int x1), some (.int x2)]) (J2 := []) (rest := []) (fun a => some (.int a.1)) (fun a => mkC ra rb 1 re rf rg a.2) (fun _ _ => rfl) h (fun a ha => k_cGoing_wishAs n (d + 0) _ _ _ _ _ _ _ _ _ _ ha) (fun q1 _ h => ?_)
  cases h
  exact bfr_ret 1 (fun _ _ => rfl)
set_option maxRecDepth 100000 in
theorem k_cTop_wish_b47 (n d : Nat) (q : (Int32 × bS)) (s0 : Int32) (o0 : Option Value) (o1 : Option Value) (o2 : Option Value) (rb : Nat) (re : Nat) (rf : Value) (rg : Value) (σ : bS) (h : cTop_wish_b47 n s0 σ = some q) : bfr MT (d + 4) M_X11_wish 47 [o0, o1, o2] [] [(.int s0)] (mkC 1 rb 1 re rf rg σ) (some (.int q.1), mkC 1 rb 1 re rf rg q.2) := by
  unfold cTop_wish_b47 at h
  cases h
  exact bfr_ret 1 (fun _ _ => rfl)
set_option maxRecDepth 100000 in
theorem k_cTop_wish_b16 (n d : Nat) (q : (Int32 × bS)) (o0 : Option Value) (o1 : Option Value) (o2 : Option Value) (rb : Nat) (re : Nat) (rf : Value) (rg : Value) (σ : bS) (h : cTop_wish_b16 n σ = some q) : bfr MT (d + 4) M_X11_wish 16 [o0, o1, o2] [] [] (mkC 1 rb 1 re rf rg σ) (some (.int q.1), mkC 1 rb 1 re rf rg q.2) := by
  unfold cTop_wish_b16 at h
  cases h
  exact bfr_ret 2 (fun _ _ => rfl)
set_option maxRecDepth 100000 in
theorem k_cTop_wish (n d : Nat) (q : (Int32 × bS)) (x1 : Int32) (x2 : Int32) (rb : Nat) (re : Nat) (rf : Value) (rg : Value) (σ : bS) (h : cTop_wish n x1 x2 σ = some q) : bfr MT (d + 4) M_X11_wish 0 [some (.ref 0), some (.int x1), some (.int x2)] [] [] (mkC 1 rb 1 re rf rg σ) (some (.int q.1), mkC 1 rb 1 re rf rg q.2) := by
  unfold cTop_wish at h
  refine bfr_call 3 (d1 := d + 3) (M1 := M_X11_isMan) (vs := [(.ref 0), (.int x1)]) (w1 := mkC 1 rb 1 re rf rg σ) (pc2 := 5) (L2 := [some (.ref 0), some (.int x1), some (.int x2)]) (J2 := []) (rest := []) (fun a => some (.int a.1)) (fun a => mkC 1 rb 1 re rf rg a.2) (fun _ _ => rfl) h (fun a ha => k_cTop_isMan n (d + 3) _ _ _ _ _ _ _ _ ha) (fun q1 _ h => ?_)
  refine bfr_br 1 (pc1 := 16) (L1 := [some (.ref 0), some (.int x1), some (.int x2)]) (J1 := []) (st1 := []) (w1 := mkC 1 rb 1 re rf rg q1.2) (pc2 := 8) (L2 := [some (.ref 0), some (.int x1), some (.int x2)]) (J2 := []) (st2 := []) (w2 := mkC 1 rb 1 re rf rg q1.2) (fun _ _ => rfl) h (fun h => ?_) (fun h => ?_)
  · exact k_cTop_wish_b16 n d q _ _ _ _ _ _ _ _ h
  · refine bfr_call 3 (d1 := d + 3) (M1 := M_X11_isBridge) (vs := [(.ref 0), (.int x2)]) (w1 := mkC 1 rb 1 re rf rg q1.2) (pc2 := 13) (L2 := [some (.ref 0), some (.int x1), some (.int x2)]) (J2 := []) (rest := []) (fun a => some (.int a.1)) (fun a => mkC 1 rb 1 re rf rg a.2) (fun _ _ => rfl) h (fun a ha => k_cTop_isBridge n (d + 3) _ _ _ _ _ _ _ _ ha) (fun q2 _ h => ?_)
    refine bfr_br 1 (pc1 := 16) (L1 := [some (.ref 0), some (.int x1), some (.int x2)]) (J1 := []) (st1 := []) (w1 := mkC 1 rb 1 re rf rg q2.2) (pc2 := 18) (L2 := [some (.ref 0), some (.int x1), some (.int x2)]) (J2 := []) (st2 := []) (w2 := mkC 1 rb 1 re rf rg q2.2) (fun _ _ => rfl) h (fun h => ?_) (fun h => ?_)
    · exact k_cTop_wish_b16 n d q _ _ _ _ _ _ _ _ h
    · refine bfr_in (i := x1) (m := 7) 5 (pc1 := 27) (L1 := [some (.ref 0), some (.int x1), some (.int x2)]) (J1 := []) (st1 := [(.int (sA q2.2 30 x1))]) (w1 := mkC 1 rb 1 re rf rg q2.2) (fun _ _ => rfl) h (fun h => ?_)
      refine bfr_br 1 (pc1 := 35) (L1 := [some (.ref 0), some (.int x1), some (.int x2)]) (J1 := []) (st1 := []) (w1 := mkC 1 rb 1 re rf rg q2.2) (pc2 := 30) (L2 := [some (.ref 0), some (.int x1), some (.int x2)]) (J2 := []) (st2 := []) (w2 := mkC 1 rb 1 re rf rg q2.2) (fun _ _ => rfl) h (fun h => ?_) (fun h => ?_)
      · refine bfr_call 5 (d1 := d + 3) (M1 := M_X1_wishNow) (vs := [(.ref 27), (.int x1), (.int x2)]) (w1 := mkC 1 rb 1 re rf rg q2.2) (pc2 := 44) (L2 := [some (.ref 0), some (.int x1), some (.int x2)]) (J2 := []) (rest := []) (fun a => some (.int a.1)) (fun a => mkC 1 rb 1 re rf rg a.2) (fun _ _ => rfl) h (fun a ha => k_cGoing_wishNow n (d + 0) _ _ _ _ _ _ _ _ _ ha) (fun q3 _ h => ?_)
        refine bfr_call 1 (d1 := d + 3) (M1 := M_X11_orNot) (vs := [(.int q3.1)]) (w1 := mkC 1 rb 1 re rf rg q3.2) (pc2 := 47) (L2 := [some (.ref 0), some (.int x1), some (.int x2)]) (J2 := []) (rest := []) (fun a => some (.int a.1)) (fun a => mkC 1 rb 1 re rf rg a.2) (fun _ _ => rfl) h (fun a ha => k_cTop_orNot n (d + 3) _ _ _ _ _ _ _ _ _ ha) (fun q4 _ h => ?_)
        exact k_cTop_wish_b47 n d q _ _ _ _ _ _ _ _ _ h
      · refine bfr_run 2 47 [some (.ref 0), some (.int x1), some (.int x2)] [] [(.int cb_m2)] (mkC 1 rb 1 re rf rg q2.2) (fun _ _ => rfl) ?_
        exact k_cTop_wish_b47 n d q _ _ _ _ _ _ _ _ _ h
set_option maxRecDepth 100000 in
theorem k_cj_min_b10 (n d : Nat) (q : (Int32 × bS)) (s0 : Int32) (o0 : Option Value) (o1 : Option Value) (ra : Nat) (rb : Nat) (rc : Nat) (re : Nat) (rf : Value) (rg : Value) (σ : bS) (h : cj_min_b10 n s0 σ = some q) : bfr MT (d + 0) M_J9_min_7cf53 10 [o0, o1] [] [(.int s0)] (mkC ra rb rc re rf rg σ) (some (.int q.1), mkC ra rb rc re rf rg q.2) := by
  unfold cj_min_b10 at h
  cases h
  exact bfr_ret 1 (fun _ _ => rfl)
set_option maxRecDepth 100000 in
theorem k_cj_min (n d : Nat) (q : (Int32 × bS)) (x0 : Int32) (x1 : Int32) (ra : Nat) (rb : Nat) (rc : Nat) (re : Nat) (rf : Value) (rg : Value) (σ : bS) (h : cj_min n x0 x1 σ = some q) : bfr MT (d + 0) M_J9_min_7cf53 0 [some (.int x0), some (.int x1)] [] [] (mkC ra rb rc re rf rg σ) (some (.int q.1), mkC ra rb rc re rf rg q.2) := by
  unfold cj_min at h
  refine bfr_br 3 (pc1 := 9) (L1 := [some (.int x0), some (.int x1)]) (J1 := []) (st1 := []) (w1 := mkC ra rb rc re rf rg σ) (pc2 := 5) (L2 := [some (.int x0), some (.int x1)]) (J2 := []) (st2 := []) (w2 := mkC ra rb rc re rf rg σ) (fun _ _ => rfl) h (fun h => ?_) (fun h => ?_)
  · refine bfr_run 1 10 [some (.int x0), some (.int x1)] [] [(.int x1)] (mkC ra rb rc re rf rg σ) (fun _ _ => rfl) ?_
    exact k_cj_min_b10 n d q _ _ _ _ _ _ _ _ _ _ h
  · refine bfr_run 2 10 [some (.int x0), some (.int x1)] [] [(.int x0)] (mkC ra rb rc re rf rg σ) (fun _ _ => rfl) ?_
    exact k_cj_min_b10 n d q _ _ _ _ _ _ _ _ _ _ h
set_option maxRecDepth 100000 in
theorem k_cGoing_held (n d : Nat) (q : (Int32 × bS)) (x0 : Int32) (x1 : Int32) (x2 : Int32) (ra : Nat) (rb : Nat) (rc : Nat) (re : Nat) (rf : Value) (rg : Value) (σ : bS) (h : cGoing_held n x0 x1 x2 σ = some q) : bfr MT (d + 1) M_X1_held 0 [some (.int x0), some (.int x1), some (.int x2)] [] [] (mkC ra rb rc re rf rg σ) (some (.int q.1), mkC ra rb rc re rf rg q.2) := by
  unfold cGoing_held at h
  refine bfr_call 4 (d1 := d + 0) (M1 := M_J9_min_7cf53) (vs := [(.int x2), (.int x0)]) (w1 := mkC ra rb rc re rf rg σ) (pc2 := 6) (L2 := [some (.int x0), some (.int x1), some (.int x2)]) (J2 := []) (rest := [(.int x1)]) (fun a => some (.int a.1)) (fun a => mkC ra rb rc re rf rg a.2) (fun _ _ => rfl) h (fun a ha => k_cj_min n (d + 0) _ _ _ _ _ _ _ _ _ _ ha) (fun q1 _ h => ?_)
  refine bfr_call 1 (d1 := d + 0) (M1 := M_J9_max_7cf53) (vs := [(.int x1), (.int q1.1)]) (w1 := mkC ra rb rc re rf rg q1.2) (pc2 := 9) (L2 := [some (.int x0), some (.int x1), some (.int x2)]) (J2 := []) (rest := []) (fun a => some (.int a.1)) (fun a => mkC ra rb rc re rf rg a.2) (fun _ _ => rfl) h (fun a ha => k_cj_max n (d + 0) _ _ _ _ _ _ _ _ _ _ ha) (fun q2 _ h => ?_)
  cases h
  exact bfr_ret 1 (fun _ _ => rfl)
set_option maxRecDepth 100000 in
theorem k_cGoing_tollNow (n d : Nat) (q : (Int32 × bS)) (x1 : Int32) (x2 : Int32) (ra : Nat) (rb : Nat) (re : Nat) (rf : Value) (rg : Value) (σ : bS) (h : cGoing_tollNow n x1 x2 σ = some q) : bfr MT (d + 2) M_X1_tollNow 0 [some (.ref 27), some (.int x1), some (.int x2)] [] [] (mkC ra rb 1 re rf rg σ) (some (.int q.1), mkC ra rb 1 re rf rg q.2) := by
  unfold cGoing_tollNow at h
  refine bfr_in (i := x2) (m := 4) 5 (pc1 := 9) (L1 := [some (.ref 27), some (.int x1), some (.int x2)]) (J1 := []) (st1 := [(.int (sA σ 9 x2))]) (w1 := mkC ra rb 1 re rf rg σ) (fun _ _ => rfl) h (fun h => ?_)
  refine bfr_br 1 (pc1 := 14) (L1 := [some (.ref 27), some (.int x1), some (.int x2)]) (J1 := []) (st1 := []) (w1 := mkC ra rb 1 re rf rg σ) (pc2 := 12) (L2 := [some (.ref 27), some (.int x1), some (.int x2)]) (J2 := []) (st2 := []) (w2 := mkC ra rb 1 re rf rg σ) (fun _ _ => rfl) h (fun h => ?_) (fun h => ?_)
  · refine bfr_in (i := x2) (m := 4) 6 (pc1 := 22) (L1 := [some (.ref 27), some (.int x1), some (.int x2)]) (J1 := []) (st1 := [(.int (sA σ 28 x2)), (.int x1), (.ref 27)]) (w1 := mkC ra rb 1 re rf rg σ) (fun _ _ => rfl) h (fun h => ?_)
    refine bfr_call 3 (d1 := d + 1) (M1 := M_X1_look) (vs := [(.ref 27), (.int x1), (.int (sA σ 28 x2)), (.int (sI σ 27 2))]) (w1 := mkC ra rb 1 re rf rg σ) (pc2 := 29) (L2 := [some (.ref 27), some (.int x1), some (.int x2)]) (J2 := []) (rest := []) (fun _ => none) (fun a => mkC ra rb 1 re rf rg a) (fun _ _ => rfl) h (fun a ha => k_cGoing_look n (d + 0) _ _ _ _ _ _ _ _ _ _ ha) (fun q1 _ h => ?_)
    refine bfr_run 6 43 [some (.ref 27), some (.int x1), some (.int x2)] [] [(.ref 9), (.ref 10)] (mkC ra rb 1 re rf rg q1) (fun _ _ => rfl) ?_
    refine bfr_in (i := x2) (m := 4) 2 (pc1 := 45) (L1 := [some (.ref 27), some (.int x1), some (.int x2)]) (J1 := []) (st1 := [(.int (sA q1 9 x2)), (.ref 10)]) (w1 := mkC ra rb 1 re rf rg q1) (fun _ _ => rfl) h (fun h => ?_)
    refine bfr_call 1 (d1 := d + 1) (M1 := M_X2_valueOf) (vs := [(.ref 10), (.int (sA q1 9 x2))]) (w1 := mkC ra rb 1 re rf rg q1) (pc2 := 48) (L2 := [some (.ref 27), some (.int x1), some (.int x2)]) (J2 := []) (rest := []) (fun a => some (.int a.1)) (fun a => mkC ra rb 1 re rf rg a.2) (fun _ _ => rfl) h (fun a ha => k_cLaws_valueOf n (d + 0) _ _ _ _ _ _ _ _ _ ha) (fun q2 _ h => ?_)
    refine bfr_call 3 (d1 := d + 1) (M1 := M_X1_held) (vs := [(.int q2.1), (.int ci_0), (.int cb_99)]) (w1 := mkC ra rb 1 re rf rg q2.2) (pc2 := 54) (L2 := [some (.ref 27), some (.int x1), some (.int x2)]) (J2 := []) (rest := []) (fun a => some (.int a.1)) (fun a => mkC ra rb 1 re rf rg a.2) (fun _ _ => rfl) h (fun a ha => k_cGoing_held n (d + 0) _ _ _ _ _ _ _ _ _ _ _ ha) (fun q3 _ h => ?_)
    cases h
    exact bfr_ret 1 (fun _ _ => rfl)
  · cases h
    exact bfr_ret 2 (fun _ _ => rfl)
set_option maxRecDepth 100000 in
theorem k_cTop_toll_b44 (n d : Nat) (q : (Int32 × bS)) (s0 : Int32) (o0 : Option Value) (o1 : Option Value) (o2 : Option Value) (rb : Nat) (re : Nat) (rf : Value) (rg : Value) (σ : bS) (h : cTop_toll_b44 n s0 σ = some q) : bfr MT (d + 3) M_X11_toll 44 [o0, o1, o2] [] [(.int s0)] (mkC 1 rb 1 re rf rg σ) (some (.int q.1), mkC 1 rb 1 re rf rg q.2) := by
  unfold cTop_toll_b44 at h
  cases h
  exact bfr_ret 1 (fun _ _ => rfl)
set_option maxRecDepth 100000 in
theorem k_cTop_toll_b16 (n d : Nat) (q : (Int32 × bS)) (o0 : Option Value) (o1 : Option Value) (o2 : Option Value) (rb : Nat) (re : Nat) (rf : Value) (rg : Value) (σ : bS) (h : cTop_toll_b16 n σ = some q) : bfr MT (d + 3) M_X11_toll 16 [o0, o1, o2] [] [] (mkC 1 rb 1 re rf rg σ) (some (.int q.1), mkC 1 rb 1 re rf rg q.2) := by
  unfold cTop_toll_b16 at h
  cases h
  exact bfr_ret 2 (fun _ _ => rfl)
set_option maxRecDepth 100000 in
theorem k_cTop_toll (n d : Nat) (q : (Int32 × bS)) (x1 : Int32) (x2 : Int32) (rb : Nat) (re : Nat) (rf : Value) (rg : Value) (σ : bS) (h : cTop_toll n x1 x2 σ = some q) : bfr MT (d + 3) M_X11_toll 0 [some (.ref 0), some (.int x1), some (.int x2)] [] [] (mkC 1 rb 1 re rf rg σ) (some (.int q.1), mkC 1 rb 1 re rf rg q.2) := by
  unfold cTop_toll at h
  refine bfr_call 3 (d1 := d + 2) (M1 := M_X11_isMan) (vs := [(.ref 0), (.int x1)]) (w1 := mkC 1 rb 1 re rf rg σ) (pc2 := 5) (L2 := [some (.ref 0), some (.int x1), some (.int x2)]) (J2 := []) (rest := []) (fun a => some (.int a.1)) (fun a => mkC 1 rb 1 re rf rg a.2) (fun _ _ => rfl) h (fun a ha => k_cTop_isMan n (d + 2) _ _ _ _ _ _ _ _ ha) (fun q1 _ h => ?_)
  refine bfr_br 1 (pc1 := 16) (L1 := [some (.ref 0), some (.int x1), some (.int x2)]) (J1 := []) (st1 := []) (w1 := mkC 1 rb 1 re rf rg q1.2) (pc2 := 8) (L2 := [some (.ref 0), some (.int x1), some (.int x2)]) (J2 := []) (st2 := []) (w2 := mkC 1 rb 1 re rf rg q1.2) (fun _ _ => rfl) h (fun h => ?_) (fun h => ?_)
  · exact k_cTop_toll_b16 n d q _ _ _ _ _ _ _ _ h
  · refine bfr_call 3 (d1 := d + 2) (M1 := M_X11_isBridge) (vs := [(.ref 0), (.int x2)]) (w1 := mkC 1 rb 1 re rf rg q1.2) (pc2 := 13) (L2 := [some (.ref 0), some (.int x1), some (.int x2)]) (J2 := []) (rest := []) (fun a => some (.int a.1)) (fun a => mkC 1 rb 1 re rf rg a.2) (fun _ _ => rfl) h (fun a ha => k_cTop_isBridge n (d + 2) _ _ _ _ _ _ _ _ ha) (fun q2 _ h => ?_)
    refine bfr_br 1 (pc1 := 16) (L1 := [some (.ref 0), some (.int x1), some (.int x2)]) (J1 := []) (st1 := []) (w1 := mkC 1 rb 1 re rf rg q2.2) (pc2 := 18) (L2 := [some (.ref 0), some (.int x1), some (.int x2)]) (J2 := []) (st2 := []) (w2 := mkC 1 rb 1 re rf rg q2.2) (fun _ _ => rfl) h (fun h => ?_) (fun h => ?_)
    · exact k_cTop_toll_b16 n d q _ _ _ _ _ _ _ _ h
    · refine bfr_in (i := x1) (m := 7) 5 (pc1 := 27) (L1 := [some (.ref 0), some (.int x1), some (.int x2)]) (J1 := []) (st1 := [(.int (sA q2.2 30 x1))]) (w1 := mkC 1 rb 1 re rf rg q2.2) (fun _ _ => rfl) h (fun h => ?_)
      refine bfr_br 1 (pc1 := 35) (L1 := [some (.ref 0), some (.int x1), some (.int x2)]) (J1 := []) (st1 := []) (w1 := mkC 1 rb 1 re rf rg q2.2) (pc2 := 30) (L2 := [some (.ref 0), some (.int x1), some (.int x2)]) (J2 := []) (st2 := []) (w2 := mkC 1 rb 1 re rf rg q2.2) (fun _ _ => rfl) h (fun h => ?_) (fun h => ?_)
      · refine bfr_call 5 (d1 := d + 2) (M1 := M_X1_tollNow) (vs := [(.ref 27), (.int x1), (.int x2)]) (w1 := mkC 1 rb 1 re rf rg q2.2) (pc2 := 44) (L2 := [some (.ref 0), some (.int x1), some (.int x2)]) (J2 := []) (rest := []) (fun a => some (.int a.1)) (fun a => mkC 1 rb 1 re rf rg a.2) (fun _ _ => rfl) h (fun a ha => k_cGoing_tollNow n (d + 0) _ _ _ _ _ _ _ _ _ ha) (fun q3 _ h => ?_)
        exact k_cTop_toll_b44 n d q _ _ _ _ _ _ _ _ _ h
      · refine bfr_run 2 44 [some (.ref 0), some (.int x1), some (.int x2)] [] [(.int cb_m2)] (mkC 1 rb 1 re rf rg q2.2) (fun _ _ => rfl) ?_
        exact k_cTop_toll_b44 n d q _ _ _ _ _ _ _ _ _ h
set_option maxRecDepth 100000 in
theorem k_cGoing_couldCross_b38 (n d : Nat) (q : (Int32 × bS)) (s0 : Int32) (o0 : Option Value) (o1 : Option Value) (o2 : Option Value) (ra : Nat) (rb : Nat) (re : Nat) (rf : Value) (rg : Value) (σ : bS) (h : cGoing_couldCross_b38 n s0 σ = some q) : bfr MT (d + 3) M_X1_couldCross 38 [o0, o1, o2] [] [(.int s0)] (mkC ra rb 1 re rf rg σ) (some (.int q.1), mkC ra rb 1 re rf rg q.2) := by
  unfold cGoing_couldCross_b38 at h
  exact bfr_bz (mk := mkC ra rb 1 re rf rg) 1 (fun _ _ => rfl) h
set_option maxRecDepth 100000 in
theorem k_cGoing_couldCross_b37 (n d : Nat) (q : (Int32 × bS)) (o0 : Option Value) (o1 : Option Value) (o2 : Option Value) (ra : Nat) (rb : Nat) (re : Nat) (rf : Value) (rg : Value) (σ : bS) (h : cGoing_couldCross_b37 n σ = some q) : bfr MT (d + 3) M_X1_couldCross 37 [o0, o1, o2] [] [] (mkC ra rb 1 re rf rg σ) (some (.int q.1), mkC ra rb 1 re rf rg q.2) := by
  unfold cGoing_couldCross_b37 at h
  refine bfr_run 1 38 [o0, o1, o2] [] [(.int ci_0)] (mkC ra rb 1 re rf rg σ) (fun _ _ => rfl) ?_
  exact k_cGoing_couldCross_b38 n d q _ _ _ _ _ _ _ _ _ _ h
set_option maxRecDepth 100000 in
theorem k_cGoing_couldCross (n d : Nat) (q : (Int32 × bS)) (x1 : Int32) (x2 : Int32) (ra : Nat) (rb : Nat) (re : Nat) (rf : Value) (rg : Value) (σ : bS) (h : cGoing_couldCross n x1 x2 σ = some q) : bfr MT (d + 3) M_X1_couldCross 0 [some (.ref 27), some (.int x1), some (.int x2)] [] [] (mkC ra rb 1 re rf rg σ) (some (.int q.1), mkC ra rb 1 re rf rg q.2) := by
  unfold cGoing_couldCross at h
  refine bfr_in (i := x1) (m := 7) 4 (pc1 := 6) (L1 := [some (.ref 27), some (.int x1), some (.int x2)]) (J1 := []) (st1 := [(.int (sA σ 30 x1))]) (w1 := mkC ra rb 1 re rf rg σ) (fun _ _ => rfl) h (fun h => ?_)
  refine bfr_in (i := x2) (m := 4) 5 (pc1 := 15) (L1 := [some (.ref 27), some (.int x1), some (.int x2)]) (J1 := []) (st1 := [(.int (sA σ 3 x2)), (.int (sA σ 30 x1))]) (w1 := mkC ra rb 1 re rf rg σ) (fun _ _ => rfl) h (fun h => ?_)
  refine bfr_br 1 (pc1 := 18) (L1 := [some (.ref 27), some (.int x1), some (.int x2)]) (J1 := []) (st1 := []) (w1 := mkC ra rb 1 re rf rg σ) (pc2 := 37) (L2 := [some (.ref 27), some (.int x1), some (.int x2)]) (J2 := []) (st2 := []) (w2 := mkC ra rb 1 re rf rg σ) (fun _ _ => rfl) h (fun h => ?_) (fun h => ?_)
  · refine bfr_call 4 (d1 := d + 2) (M1 := M_X1_tollNow) (vs := [(.ref 27), (.int x1), (.int x2)]) (w1 := mkC ra rb 1 re rf rg σ) (pc2 := 24) (L2 := [some (.ref 27), some (.int x1), some (.int x2)]) (J2 := []) (rest := []) (fun a => some (.int a.1)) (fun a => mkC ra rb 1 re rf rg a.2) (fun _ _ => rfl) h (fun a ha => k_cGoing_tollNow n (d + 0) _ _ _ _ _ _ _ _ _ ha) (fun q1 _ h => ?_)
    refine bfr_in (i := x1) (m := 7) 4 (pc1 := 30) (L1 := [some (.ref 27), some (.int x1), some (.int x2)]) (J1 := []) (st1 := [(.int (sA q1.2 32 x1)), (.int q1.1)]) (w1 := mkC ra rb 1 re rf rg q1.2) (fun _ _ => rfl) h (fun h => ?_)
    refine bfr_br 1 (pc1 := 37) (L1 := [some (.ref 27), some (.int x1), some (.int x2)]) (J1 := []) (st1 := []) (w1 := mkC ra rb 1 re rf rg q1.2) (pc2 := 33) (L2 := [some (.ref 27), some (.int x1), some (.int x2)]) (J2 := []) (st2 := []) (w2 := mkC ra rb 1 re rf rg q1.2) (fun _ _ => rfl) h (fun h => ?_) (fun h => ?_)
    · exact k_cGoing_couldCross_b37 n d q _ _ _ _ _ _ _ _ _ h
    · refine bfr_run 2 38 [some (.ref 27), some (.int x1), some (.int x2)] [] [(.int ci_1)] (mkC ra rb 1 re rf rg q1.2) (fun _ _ => rfl) ?_
      exact k_cGoing_couldCross_b38 n d q _ _ _ _ _ _ _ _ _ _ h
  · exact k_cGoing_couldCross_b37 n d q _ _ _ _ _ _ _ _ _ h
set_option maxRecDepth 100000 in
theorem k_cGoing_putInto_55 (n d : Nat) (q : bS) (x2 : Int32) (ra : Nat) (rb : Nat) (rc : Nat) (re : Nat) (rf : Value) (rg : Value) (σ : bS) (h : cGoing_putInto_55 n x2 σ = some q) : bfr MT (d + 1) M_X1_putInto 0 [some (.ref 27), some (.ref 55), some (.int x2), none] [] [] (mkC ra rb rc re rf rg σ) (none, mkC ra rb rc re rf rg q) := by
  unfold cGoing_putInto_55 at h
  refine bfr_in (i := x2) (m := 1978) 5 (pc1 := 7) (L1 := [some (.ref 27), some (.ref 55), some (.int x2), none]) (J1 := []) (st1 := []) (w1 := ((mkC ra rb rc re rf rg σ).set 55 (.inl (0, 1978, upd (σ.2.1 55) (x2).toNatClampNeg (sI σ 27 2))))) (fun _ _ => rfl) h (fun h => ?_)
  rw [mkC_A55]
  refine bfr_run 6 15 [some (.ref 27), some (.ref 55), some (.int x2), none] [] [(.int (sI (uA σ 55 x2 (sI σ 27 2)) 27 3)), (.int (x2 + ci_1)), (.ref 55)] (mkC ra rb rc re rf rg (uA σ 55 x2 (sI σ 27 2))) (fun _ _ => rfl) ?_
  refine bfr_in (i := (x2 + ci_1)) (m := 1978) 1 (pc1 := 16) (L1 := [some (.ref 27), some (.ref 55), some (.int x2), none]) (J1 := []) (st1 := []) (w1 := ((mkC ra rb rc re rf rg (uA σ 55 x2 (sI σ 27 2))).set 55 (.inl (0, 1978, upd ((uA σ 55 x2 (sI σ 27 2)).2.1 55) ((x2 + ci_1)).toNatClampNeg (sI (uA σ 55 x2 (sI σ 27 2)) 27 3))))) (fun _ _ => rfl) h (fun h => ?_)
  rw [mkC_A55]
  refine bfr_run 6 24 [some (.ref 27), some (.ref 55), some (.int x2), none] [] [(.int (sI (uA (uA σ 55 x2 (sI σ 27 2)) 55 (x2 + ci_1) (sI (uA σ 55 x2 (sI σ 27 2)) 27 3)) 27 4)), (.int (x2 + ci_2)), (.ref 55)] (mkC ra rb rc re rf rg (uA (uA σ 55 x2 (sI σ 27 2)) 55 (x2 + ci_1) (sI (uA σ 55 x2 (sI σ 27 2)) 27 3))) (fun _ _ => rfl) ?_
  refine bfr_in (i := (x2 + ci_2)) (m := 1978) 1 (pc1 := 25) (L1 := [some (.ref 27), some (.ref 55), some (.int x2), none]) (J1 := []) (st1 := []) (w1 := ((mkC ra rb rc re rf rg (uA (uA σ 55 x2 (sI σ 27 2)) 55 (x2 + ci_1) (sI (uA σ 55 x2 (sI σ 27 2)) 27 3))).set 55 (.inl (0, 1978, upd ((uA (uA σ 55 x2 (sI σ 27 2)) 55 (x2 + ci_1) (sI (uA σ 55 x2 (sI σ 27 2)) 27 3)).2.1 55) ((x2 + ci_2)).toNatClampNeg (sI (uA (uA σ 55 x2 (sI σ 27 2)) 55 (x2 + ci_1) (sI (uA σ 55 x2 (sI σ 27 2)) 27 3)) 27 4))))) (fun _ _ => rfl) h (fun h => ?_)
  rw [mkC_A55]
  refine bfr_run 6 33 [some (.ref 27), some (.ref 55), some (.int x2), some (.int (x2 + ci_3))] [] [(.ref 28)] (mkC ra rb rc re rf rg (uA (uA (uA σ 55 x2 (sI σ 27 2)) 55 (x2 + ci_1) (sI (uA σ 55 x2 (sI σ 27 2)) 27 3)) 55 (x2 + ci_2) (sI (uA (uA σ 55 x2 (sI σ 27 2)) 55 (x2 + ci_1) (sI (uA σ 55 x2 (sI σ 27 2)) 27 3)) 27 4))) (fun _ _ => rfl) ?_
  refine bfr_chk 5 (pc1 := 40) (L1 := [some (.ref 27), some (.ref 55), some (.int x2), some (.int (x2 + ci_3))]) (J1 := []) (st1 := []) (w1 := ((mkC ra rb rc re rf rg (uA (uA (uA σ 55 x2 (sI σ 27 2)) 55 (x2 + ci_1) (sI (uA σ 55 x2 (sI σ 27 2)) 27 3)) 55 (x2 + ci_2) (sI (uA (uA σ 55 x2 (sI σ 27 2)) 55 (x2 + ci_1) (sI (uA σ 55 x2 (sI σ 27 2)) 27 3)) 27 4))).set 55 (.inl (0, 1978, va_cpy ((uA (uA (uA σ 55 x2 (sI σ 27 2)) 55 (x2 + ci_1) (sI (uA σ 55 x2 (sI σ 27 2)) 27 3)) 55 (x2 + ci_2) (sI (uA (uA σ 55 x2 (sI σ 27 2)) 55 (x2 + ci_1) (sI (uA σ 55 x2 (sI σ 27 2)) 27 3)) 27 4)).2.1 28) ((uA (uA (uA σ 55 x2 (sI σ 27 2)) 55 (x2 + ci_1) (sI (uA σ 55 x2 (sI σ 27 2)) 27 3)) 55 (x2 + ci_2) (sI (uA (uA σ 55 x2 (sI σ 27 2)) 55 (x2 + ci_1) (sI (uA σ 55 x2 (sI σ 27 2)) 27 3)) 27 4)).2.1 55) (ci_0).toNatClampNeg ((x2 + ci_3)).toNatClampNeg (ci_4).toNatClampNeg)))) (fun _ _ => rfl) h (fun h => ?_)
  rw [mkC_C55]
  refine bfr_run 6 48 [some (.ref 27), some (.ref 55), some (.int x2), some (.int (x2 + ci_3))] [] [(.int ci_4), (.int (x2 + ci_3)), (.ref 55), (.int ci_0), (.ref 29)] (mkC ra rb rc re rf rg (uC (uA (uA (uA σ 55 x2 (sI σ 27 2)) 55 (x2 + ci_1) (sI (uA σ 55 x2 (sI σ 27 2)) 27 3)) 55 (x2 + ci_2) (sI (uA (uA σ 55 x2 (sI σ 27 2)) 55 (x2 + ci_1) (sI (uA σ 55 x2 (sI σ 27 2)) 27 3)) 27 4)) 28 55 ci_0 (x2 + ci_3) ci_4)) (fun _ _ => rfl) ?_
  refine bfr_chk 3 (pc1 := 53) (L1 := [some (.ref 27), some (.ref 55), some (.int x2), some (.int (x2 + ci_3))]) (J1 := []) (st1 := []) (w1 := ((mkC ra rb rc re rf rg (uC (uA (uA (uA σ 55 x2 (sI σ 27 2)) 55 (x2 + ci_1) (sI (uA σ 55 x2 (sI σ 27 2)) 27 3)) 55 (x2 + ci_2) (sI (uA (uA σ 55 x2 (sI σ 27 2)) 55 (x2 + ci_1) (sI (uA σ 55 x2 (sI σ 27 2)) 27 3)) 27 4)) 28 55 ci_0 (x2 + ci_3) ci_4)).set 55 (.inl (0, 1978, va_cpy ((uC (uA (uA (uA σ 55 x2 (sI σ 27 2)) 55 (x2 + ci_1) (sI (uA σ 55 x2 (sI σ 27 2)) 27 3)) 55 (x2 + ci_2) (sI (uA (uA σ 55 x2 (sI σ 27 2)) 55 (x2 + ci_1) (sI (uA σ 55 x2 (sI σ 27 2)) 27 3)) 27 4)) 28 55 ci_0 (x2 + ci_3) ci_4).2.1 29) ((uC (uA (uA (uA σ 55 x2 (sI σ 27 2)) 55 (x2 + ci_1) (sI (uA σ 55 x2 (sI σ 27 2)) 27 3)) 55 (x2 + ci_2) (sI (uA (uA σ 55 x2 (sI σ 27 2)) 55 (x2 + ci_1) (sI (uA σ 55 x2 (sI σ 27 2)) 27 3)) 27 4)) 28 55 ci_0 (x2 + ci_3) ci_4).2.1 55) (ci_0).toNatClampNeg (((x2 + ci_3) + ci_4)).toNatClampNeg (ci_4).toNatClampNeg)))) (fun _ _ => rfl) h (fun h => ?_)
  rw [mkC_C55]
  refine bfr_run 1 56 [some (.ref 27), some (.ref 55), some (.int x2), some (.int ((x2 + ci_3) + ci_8))] [] [] (mkC ra rb rc re rf rg (uC (uC (uA (uA (uA σ 55 x2 (sI σ 27 2)) 55 (x2 + ci_1) (sI (uA σ 55 x2 (sI σ 27 2)) 27 3)) 55 (x2 + ci_2) (sI (uA (uA σ 55 x2 (sI σ 27 2)) 55 (x2 + ci_1) (sI (uA σ 55 x2 (sI σ 27 2)) 27 3)) 27 4)) 28 55 ci_0 (x2 + ci_3) ci_4) 29 55 ci_0 ((x2 + ci_3) + ci_4) ci_4)) (fun _ _ => rfl) ?_
  refine bfr_run 6 65 [some (.ref 27), some (.ref 55), some (.int x2), some (.int ((x2 + ci_3) + ci_8))] [] [(.int cb_7), (.int ((x2 + ci_3) + ci_8)), (.ref 55), (.int ci_0), (.ref 30)] (mkC ra rb rc re rf rg (uC (uC (uA (uA (uA σ 55 x2 (sI σ 27 2)) 55 (x2 + ci_1) (sI (uA σ 55 x2 (sI σ 27 2)) 27 3)) 55 (x2 + ci_2) (sI (uA (uA σ 55 x2 (sI σ 27 2)) 55 (x2 + ci_1) (sI (uA σ 55 x2 (sI σ 27 2)) 27 3)) 27 4)) 28 55 ci_0 (x2 + ci_3) ci_4) 29 55 ci_0 ((x2 + ci_3) + ci_4) ci_4)) (fun _ _ => rfl) ?_
  refine bfr_chk 1 (pc1 := 68) (L1 := [some (.ref 27), some (.ref 55), some (.int x2), some (.int ((x2 + ci_3) + ci_8))]) (J1 := []) (st1 := []) (w1 := ((mkC ra rb rc re rf rg (uC (uC (uA (uA (uA σ 55 x2 (sI σ 27 2)) 55 (x2 + ci_1) (sI (uA σ 55 x2 (sI σ 27 2)) 27 3)) 55 (x2 + ci_2) (sI (uA (uA σ 55 x2 (sI σ 27 2)) 55 (x2 + ci_1) (sI (uA σ 55 x2 (sI σ 27 2)) 27 3)) 27 4)) 28 55 ci_0 (x2 + ci_3) ci_4) 29 55 ci_0 ((x2 + ci_3) + ci_4) ci_4)).set 55 (.inl (0, 1978, va_cpy ((uC (uC (uA (uA (uA σ 55 x2 (sI σ 27 2)) 55 (x2 + ci_1) (sI (uA σ 55 x2 (sI σ 27 2)) 27 3)) 55 (x2 + ci_2) (sI (uA (uA σ 55 x2 (sI σ 27 2)) 55 (x2 + ci_1) (sI (uA σ 55 x2 (sI σ 27 2)) 27 3)) 27 4)) 28 55 ci_0 (x2 + ci_3) ci_4) 29 55 ci_0 ((x2 + ci_3) + ci_4) ci_4).2.1 30) ((uC (uC (uA (uA (uA σ 55 x2 (sI σ 27 2)) 55 (x2 + ci_1) (sI (uA σ 55 x2 (sI σ 27 2)) 27 3)) 55 (x2 + ci_2) (sI (uA (uA σ 55 x2 (sI σ 27 2)) 55 (x2 + ci_1) (sI (uA σ 55 x2 (sI σ 27 2)) 27 3)) 27 4)) 28 55 ci_0 (x2 + ci_3) ci_4) 29 55 ci_0 ((x2 + ci_3) + ci_4) ci_4).2.1 55) (ci_0).toNatClampNeg (((x2 + ci_3) + ci_8)).toNatClampNeg (cb_7).toNatClampNeg)))) (fun _ _ => rfl) h (fun h => ?_)
  rw [mkC_C55]
  refine bfr_run 6 77 [some (.ref 27), some (.ref 55), some (.int x2), some (.int ((x2 + ci_3) + ci_8))] [] [(.int cb_7), (.int ((x2 + ci_3) + ci_8)), (.ref 55), (.int ci_0), (.ref 31)] (mkC ra rb rc re rf rg (uC (uC (uC (uA (uA (uA σ 55 x2 (sI σ 27 2)) 55 (x2 + ci_1) (sI (uA σ 55 x2 (sI σ 27 2)) 27 3)) 55 (x2 + ci_2) (sI (uA (uA σ 55 x2 (sI σ 27 2)) 55 (x2 + ci_1) (sI (uA σ 55 x2 (sI σ 27 2)) 27 3)) 27 4)) 28 55 ci_0 (x2 + ci_3) ci_4) 29 55 ci_0 ((x2 + ci_3) + ci_4) ci_4) 30 55 ci_0 ((x2 + ci_3) + ci_8) cb_7)) (fun _ _ => rfl) ?_
  refine bfr_chk 3 (pc1 := 83) (L1 := [some (.ref 27), some (.ref 55), some (.int x2), some (.int ((x2 + ci_3) + ci_8))]) (J1 := []) (st1 := []) (w1 := ((mkC ra rb rc re rf rg (uC (uC (uC (uA (uA (uA σ 55 x2 (sI σ 27 2)) 55 (x2 + ci_1) (sI (uA σ 55 x2 (sI σ 27 2)) 27 3)) 55 (x2 + ci_2) (sI (uA (uA σ 55 x2 (sI σ 27 2)) 55 (x2 + ci_1) (sI (uA σ 55 x2 (sI σ 27 2)) 27 3)) 27 4)) 28 55 ci_0 (x2 + ci_3) ci_4) 29 55 ci_0 ((x2 + ci_3) + ci_4) ci_4) 30 55 ci_0 ((x2 + ci_3) + ci_8) cb_7)).set 55 (.inl (0, 1978, va_cpy ((uC (uC (uC (uA (uA (uA σ 55 x2 (sI σ 27 2)) 55 (x2 + ci_1) (sI (uA σ 55 x2 (sI σ 27 2)) 27 3)) 55 (x2 + ci_2) (sI (uA (uA σ 55 x2 (sI σ 27 2)) 55 (x2 + ci_1) (sI (uA σ 55 x2 (sI σ 27 2)) 27 3)) 27 4)) 28 55 ci_0 (x2 + ci_3) ci_4) 29 55 ci_0 ((x2 + ci_3) + ci_4) ci_4) 30 55 ci_0 ((x2 + ci_3) + ci_8) cb_7).2.1 31) ((uC (uC (uC (uA (uA (uA σ 55 x2 (sI σ 27 2)) 55 (x2 + ci_1) (sI (uA σ 55 x2 (sI σ 27 2)) 27 3)) 55 (x2 + ci_2) (sI (uA (uA σ 55 x2 (sI σ 27 2)) 55 (x2 + ci_1) (sI (uA σ 55 x2 (sI σ 27 2)) 27 3)) 27 4)) 28 55 ci_0 (x2 + ci_3) ci_4) 29 55 ci_0 ((x2 + ci_3) + ci_4) ci_4) 30 55 ci_0 ((x2 + ci_3) + ci_8) cb_7).2.1 55) (ci_0).toNatClampNeg ((((x2 + ci_3) + ci_8) + cb_7)).toNatClampNeg (cb_7).toNatClampNeg)))) (fun _ _ => rfl) h (fun h => ?_)
  rw [mkC_C55]
  refine bfr_run 6 92 [some (.ref 27), some (.ref 55), some (.int x2), some (.int ((x2 + ci_3) + ci_8))] [] [(.int cb_14), (.int ((x2 + ci_3) + ci_8)), (.ref 55), (.int ci_0), (.ref 32)] (mkC ra rb rc re rf rg (uC (uC (uC (uC (uA (uA (uA σ 55 x2 (sI σ 27 2)) 55 (x2 + ci_1) (sI (uA σ 55 x2 (sI σ 27 2)) 27 3)) 55 (x2 + ci_2) (sI (uA (uA σ 55 x2 (sI σ 27 2)) 55 (x2 + ci_1) (sI (uA σ 55 x2 (sI σ 27 2)) 27 3)) 27 4)) 28 55 ci_0 (x2 + ci_3) ci_4) 29 55 ci_0 ((x2 + ci_3) + ci_4) ci_4) 30 55 ci_0 ((x2 + ci_3) + ci_8) cb_7) 31 55 ci_0 (((x2 + ci_3) + ci_8) + cb_7) cb_7)) (fun _ _ => rfl) ?_
  refine bfr_chk 3 (pc1 := 98) (L1 := [some (.ref 27), some (.ref 55), some (.int x2), some (.int ((x2 + ci_3) + ci_8))]) (J1 := []) (st1 := []) (w1 := ((mkC ra rb rc re rf rg (uC (uC (uC (uC (uA (uA (uA σ 55 x2 (sI σ 27 2)) 55 (x2 + ci_1) (sI (uA σ 55 x2 (sI σ 27 2)) 27 3)) 55 (x2 + ci_2) (sI (uA (uA σ 55 x2 (sI σ 27 2)) 55 (x2 + ci_1) (sI (uA σ 55 x2 (sI σ 27 2)) 27 3)) 27 4)) 28 55 ci_0 (x2 + ci_3) ci_4) 29 55 ci_0 ((x2 + ci_3) + ci_4) ci_4) 30 55 ci_0 ((x2 + ci_3) + ci_8) cb_7) 31 55 ci_0 (((x2 + ci_3) + ci_8) + cb_7) cb_7)).set 55 (.inl (0, 1978, va_cpy ((uC (uC (uC (uC (uA (uA (uA σ 55 x2 (sI σ 27 2)) 55 (x2 + ci_1) (sI (uA σ 55 x2 (sI σ 27 2)) 27 3)) 55 (x2 + ci_2) (sI (uA (uA σ 55 x2 (sI σ 27 2)) 55 (x2 + ci_1) (sI (uA σ 55 x2 (sI σ 27 2)) 27 3)) 27 4)) 28 55 ci_0 (x2 + ci_3) ci_4) 29 55 ci_0 ((x2 + ci_3) + ci_4) ci_4) 30 55 ci_0 ((x2 + ci_3) + ci_8) cb_7) 31 55 ci_0 (((x2 + ci_3) + ci_8) + cb_7) cb_7).2.1 32) ((uC (uC (uC (uC (uA (uA (uA σ 55 x2 (sI σ 27 2)) 55 (x2 + ci_1) (sI (uA σ 55 x2 (sI σ 27 2)) 27 3)) 55 (x2 + ci_2) (sI (uA (uA σ 55 x2 (sI σ 27 2)) 55 (x2 + ci_1) (sI (uA σ 55 x2 (sI σ 27 2)) 27 3)) 27 4)) 28 55 ci_0 (x2 + ci_3) ci_4) 29 55 ci_0 ((x2 + ci_3) + ci_4) ci_4) 30 55 ci_0 ((x2 + ci_3) + ci_8) cb_7) 31 55 ci_0 (((x2 + ci_3) + ci_8) + cb_7) cb_7).2.1 55) (ci_0).toNatClampNeg ((((x2 + ci_3) + ci_8) + cb_14)).toNatClampNeg (cb_7).toNatClampNeg)))) (fun _ _ => rfl) h (fun h => ?_)
  rw [mkC_C55]
  refine bfr_run 6 107 [some (.ref 27), some (.ref 55), some (.int x2), some (.int ((x2 + ci_3) + ci_8))] [] [(.int cb_21), (.int ((x2 + ci_3) + ci_8)), (.ref 55), (.int ci_0), (.ref 33)] (mkC ra rb rc re rf rg (uC (uC (uC (uC (uC (uA (uA (uA σ 55 x2 (sI σ 27 2)) 55 (x2 + ci_1) (sI (uA σ 55 x2 (sI σ 27 2)) 27 3)) 55 (x2 + ci_2) (sI (uA (uA σ 55 x2 (sI σ 27 2)) 55 (x2 + ci_1) (sI (uA σ 55 x2 (sI σ 27 2)) 27 3)) 27 4)) 28 55 ci_0 (x2 + ci_3) ci_4) 29 55 ci_0 ((x2 + ci_3) + ci_4) ci_4) 30 55 ci_0 ((x2 + ci_3) + ci_8) cb_7) 31 55 ci_0 (((x2 + ci_3) + ci_8) + cb_7) cb_7) 32 55 ci_0 (((x2 + ci_3) + ci_8) + cb_14) cb_7)) (fun _ _ => rfl) ?_
  refine bfr_chk 3 (pc1 := 113) (L1 := [some (.ref 27), some (.ref 55), some (.int x2), some (.int ((x2 + ci_3) + ci_8))]) (J1 := []) (st1 := []) (w1 := ((mkC ra rb rc re rf rg (uC (uC (uC (uC (uC (uA (uA (uA σ 55 x2 (sI σ 27 2)) 55 (x2 + ci_1) (sI (uA σ 55 x2 (sI σ 27 2)) 27 3)) 55 (x2 + ci_2) (sI (uA (uA σ 55 x2 (sI σ 27 2)) 55 (x2 + ci_1) (sI (uA σ 55 x2 (sI σ 27 2)) 27 3)) 27 4)) 28 55 ci_0 (x2 + ci_3) ci_4) 29 55 ci_0 ((x2 + ci_3) + ci_4) ci_4) 30 55 ci_0 ((x2 + ci_3) + ci_8) cb_7) 31 55 ci_0 (((x2 + ci_3) + ci_8) + cb_7) cb_7) 32 55 ci_0 (((x2 + ci_3) + ci_8) + cb_14) cb_7)).set 55 (.inl (0, 1978, va_cpy ((uC (uC (uC (uC (uC (uA (uA (uA σ 55 x2 (sI σ 27 2)) 55 (x2 + ci_1) (sI (uA σ 55 x2 (sI σ 27 2)) 27 3)) 55 (x2 + ci_2) (sI (uA (uA σ 55 x2 (sI σ 27 2)) 55 (x2 + ci_1) (sI (uA σ 55 x2 (sI σ 27 2)) 27 3)) 27 4)) 28 55 ci_0 (x2 + ci_3) ci_4) 29 55 ci_0 ((x2 + ci_3) + ci_4) ci_4) 30 55 ci_0 ((x2 + ci_3) + ci_8) cb_7) 31 55 ci_0 (((x2 + ci_3) + ci_8) + cb_7) cb_7) 32 55 ci_0 (((x2 + ci_3) + ci_8) + cb_14) cb_7).2.1 33) ((uC (uC (uC (uC (uC (uA (uA (uA σ 55 x2 (sI σ 27 2)) 55 (x2 + ci_1) (sI (uA σ 55 x2 (sI σ 27 2)) 27 3)) 55 (x2 + ci_2) (sI (uA (uA σ 55 x2 (sI σ 27 2)) 55 (x2 + ci_1) (sI (uA σ 55 x2 (sI σ 27 2)) 27 3)) 27 4)) 28 55 ci_0 (x2 + ci_3) ci_4) 29 55 ci_0 ((x2 + ci_3) + ci_4) ci_4) 30 55 ci_0 ((x2 + ci_3) + ci_8) cb_7) 31 55 ci_0 (((x2 + ci_3) + ci_8) + cb_7) cb_7) 32 55 ci_0 (((x2 + ci_3) + ci_8) + cb_14) cb_7).2.1 55) (ci_0).toNatClampNeg ((((x2 + ci_3) + ci_8) + cb_21)).toNatClampNeg (cb_7).toNatClampNeg)))) (fun _ _ => rfl) h (fun h => ?_)
  rw [mkC_C55]
  refine bfr_run 6 122 [some (.ref 27), some (.ref 55), some (.int x2), some (.int ((x2 + ci_3) + ci_8))] [] [(.int cb_28), (.int ((x2 + ci_3) + ci_8)), (.ref 55), (.int ci_0), (.ref 34)] (mkC ra rb rc re rf rg (uC (uC (uC (uC (uC (uC (uA (uA (uA σ 55 x2 (sI σ 27 2)) 55 (x2 + ci_1) (sI (uA σ 55 x2 (sI σ 27 2)) 27 3)) 55 (x2 + ci_2) (sI (uA (uA σ 55 x2 (sI σ 27 2)) 55 (x2 + ci_1) (sI (uA σ 55 x2 (sI σ 27 2)) 27 3)) 27 4)) 28 55 ci_0 (x2 + ci_3) ci_4) 29 55 ci_0 ((x2 + ci_3) + ci_4) ci_4) 30 55 ci_0 ((x2 + ci_3) + ci_8) cb_7) 31 55 ci_0 (((x2 + ci_3) + ci_8) + cb_7) cb_7) 32 55 ci_0 (((x2 + ci_3) + ci_8) + cb_14) cb_7) 33 55 ci_0 (((x2 + ci_3) + ci_8) + cb_21) cb_7)) (fun _ _ => rfl) ?_
  refine bfr_chk 3 (pc1 := 128) (L1 := [some (.ref 27), some (.ref 55), some (.int x2), some (.int ((x2 + ci_3) + ci_8))]) (J1 := []) (st1 := []) (w1 := ((mkC ra rb rc re rf rg (uC (uC (uC (uC (uC (uC (uA (uA (uA σ 55 x2 (sI σ 27 2)) 55 (x2 + ci_1) (sI (uA σ 55 x2 (sI σ 27 2)) 27 3)) 55 (x2 + ci_2) (sI (uA (uA σ 55 x2 (sI σ 27 2)) 55 (x2 + ci_1) (sI (uA σ 55 x2 (sI σ 27 2)) 27 3)) 27 4)) 28 55 ci_0 (x2 + ci_3) ci_4) 29 55 ci_0 ((x2 + ci_3) + ci_4) ci_4) 30 55 ci_0 ((x2 + ci_3) + ci_8) cb_7) 31 55 ci_0 (((x2 + ci_3) + ci_8) + cb_7) cb_7) 32 55 ci_0 (((x2 + ci_3) + ci_8) + cb_14) cb_7) 33 55 ci_0 (((x2 + ci_3) + ci_8) + cb_21) cb_7)).set 55 (.inl (0, 1978, va_cpy ((uC (uC (uC (uC (uC (uC (uA (uA (uA σ 55 x2 (sI σ 27 2)) 55 (x2 + ci_1) (sI (uA σ 55 x2 (sI σ 27 2)) 27 3)) 55 (x2 + ci_2) (sI (uA (uA σ 55 x2 (sI σ 27 2)) 55 (x2 + ci_1) (sI (uA σ 55 x2 (sI σ 27 2)) 27 3)) 27 4)) 28 55 ci_0 (x2 + ci_3) ci_4) 29 55 ci_0 ((x2 + ci_3) + ci_4) ci_4) 30 55 ci_0 ((x2 + ci_3) + ci_8) cb_7) 31 55 ci_0 (((x2 + ci_3) + ci_8) + cb_7) cb_7) 32 55 ci_0 (((x2 + ci_3) + ci_8) + cb_14) cb_7) 33 55 ci_0 (((x2 + ci_3) + ci_8) + cb_21) cb_7).2.1 34) ((uC (uC (uC (uC (uC (uC (uA (uA (uA σ 55 x2 (sI σ 27 2)) 55 (x2 + ci_1) (sI (uA σ 55 x2 (sI σ 27 2)) 27 3)) 55 (x2 + ci_2) (sI (uA (uA σ 55 x2 (sI σ 27 2)) 55 (x2 + ci_1) (sI (uA σ 55 x2 (sI σ 27 2)) 27 3)) 27 4)) 28 55 ci_0 (x2 + ci_3) ci_4) 29 55 ci_0 ((x2 + ci_3) + ci_4) ci_4) 30 55 ci_0 ((x2 + ci_3) + ci_8) cb_7) 31 55 ci_0 (((x2 + ci_3) + ci_8) + cb_7) cb_7) 32 55 ci_0 (((x2 + ci_3) + ci_8) + cb_14) cb_7) 33 55 ci_0 (((x2 + ci_3) + ci_8) + cb_21) cb_7).2.1 55) (ci_0).toNatClampNeg ((((x2 + ci_3) + ci_8) + cb_28)).toNatClampNeg (cb_7).toNatClampNeg)))) (fun _ _ => rfl) h (fun h => ?_)
  rw [mkC_C55]
  cases h
  exact bfr_ret 1 (fun _ _ => rfl)
