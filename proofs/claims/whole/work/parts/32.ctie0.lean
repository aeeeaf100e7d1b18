set_option maxRecDepth 100000 in
theorem k_cTop_putBytes_b46 (n d : Nat) (q : bS) (o0 : Option Value) (o1 : Option Value) (o2 : Option Value) (ra : Nat) (rb : Nat) (rc : Nat) (re : Nat) (rf : Value) (rg : Value) (σ : bS) (h : cTop_putBytes_b46 n σ = some q) : bfr MT (d + 0) M_X11_putBytes 46 [o0, o1, o2] [] [] (mkC ra rb rc re rf rg σ) (none, mkC ra rb rc re rf rg q) := by
  unfold cTop_putBytes_b46 at h
  cases h
  exact bfr_ret 1 (fun _ _ => rfl)
set_option maxRecDepth 100000 in
theorem k_cTop_putBytes_b43 (n d : Nat) (r3 : Int32 → Int32 → bS → Option bS) (q : bS) (hr3 : ∀ (x1 : Int32) (x2 : Int32) (ra : Nat) (rb : Nat) (rc : Nat) (re : Nat) (rf : Value) (rg : Value) (σ : bS), r3 x1 x2 σ = some q → bfr MT (d + 0) M_X11_putBytes 3 [some (.ref 0), some (.int x1), some (.int x2)] [] [] (mkC ra rb rc re rf rg σ) (none, mkC ra rb rc re rf rg q)) (x1 : Int32) (x2 : Int32) (ra : Nat) (rb : Nat) (rc : Nat) (re : Nat) (rf : Value) (rg : Value) (σ : bS) (h : cTop_putBytes_b43 n r3 x1 x2 σ = some q) : bfr MT (d + 0) M_X11_putBytes 43 [some (.ref 0), some (.int x1), some (.int x2)] [] [] (mkC ra rb rc re rf rg σ) (none, mkC ra rb rc re rf rg q) := by
  unfold cTop_putBytes_b43 at h
  refine bfr_run 1 3 [some (.ref 0), some (.int x1), some (.int x2)] [] [] (mkC ra rb rc re rf rg σ) (fun _ _ => rfl) ?_
  exact hr3 _ _ _ _ _ _ _ _ _ h
set_option maxRecDepth 100000 in
theorem k_cTop_putBytes_b3 (n d : Nat) (q : bS) : ∀ (k : Nat) (x1 : Int32) (x2 : Int32) (ra : Nat) (rb : Nat) (rc : Nat) (re : Nat) (rf : Value) (rg : Value) (σ : bS), cTop_putBytes_b3 n k x1 x2 σ = some q → bfr MT (d + 0) M_X11_putBytes 3 [some (.ref 0), some (.int x1), some (.int x2)] [] [] (mkC ra rb rc re rf rg σ) (none, mkC ra rb rc re rf rg q) := by
  intro k
  induction k with
  | zero => intro x1 x2 ra rb rc re rf rg σ h; exact bno h
  | succ k ih =>
    intro x1 x2 ra rb rc re rf rg σ h
    unfold cTop_putBytes_b3 at h
    refine bfr_br 2 (pc1 := 46) (L1 := [some (.ref 0), some (.int x1), some (.int x2)]) (J1 := []) (st1 := []) (w1 := mkC ra rb rc re rf rg σ) (pc2 := 7) (L2 := [some (.ref 0), some (.int x1), some (.int x2)]) (J2 := []) (st2 := []) (w2 := mkC ra rb rc re rf rg σ) (fun _ _ => rfl) h (fun h => ?_) (fun h => ?_)
    · exact k_cTop_putBytes_b46 n d q _ _ _ _ _ _ _ _ _ _ h
    · refine bfr_br 4 (pc1 := 46) (L1 := [some (.ref 0), some (.int x1), some (.int x2)]) (J1 := []) (st1 := []) (w1 := mkC ra rb rc re rf rg σ) (pc2 := 17) (L2 := [some (.ref 0), some (.int x1), some (.int x2)]) (J2 := []) (st2 := []) (w2 := mkC ra rb rc re rf rg σ) (fun _ _ => rfl) h (fun h => ?_) (fun h => ?_)
      · exact k_cTop_putBytes_b46 n d q _ _ _ _ _ _ _ _ _ _ h
      · refine bfr_run 6 27 [some (.ref 0), some (.int x1), some (.int x2)] [] [(.int x2), (.int x1), (.int (sI σ 0 1)), (.ref 43)] (mkC ra rb rc re rf rg σ) (fun _ _ => rfl) ?_
        refine bfr_in (i := (sI σ 0 1)) (m := 2000) 3 (pc1 := 30) (L1 := [some (.ref 0), some (.int x1), some (.int x2)]) (J1 := []) (st1 := []) (w1 := ((mkC ra rb rc re rf rg σ).set 43 (.inl (1, 2000, upd (σ.2.1 43) ((sI σ 0 1)).toNatClampNeg (vp_nar .byte ((bush x1 x2)).toInt8.toInt32))))) (fun _ _ => rfl) h (fun h => ?_)
        rw [mkC_A43]
        refine bfr_run 6 40 [some (.ref 0), some (.int x1), some (.int x2)] [] [] ((mkC ra rb rc re rf rg (uA σ 43 (sI σ 0 1) (vp_nar .byte ((bush x1 x2)).toInt8.toInt32))).set 0 (.inr (.inr (11, (mkC_0  ra rb rc re rf rg (uA σ 43 (sI σ 0 1) (vp_nar .byte ((bush x1 x2)).toInt8.toInt32))).set 1 (.int ((sI (uA σ 43 (sI σ 0 1) (vp_nar .byte ((bush x1 x2)).toInt8.toInt32)) 0 1) + ci_1)))))) (fun _ _ => rfl) ?_
        rw [mkC_I0_1]
        refine bfr_run 1 43 [some (.ref 0), some (.int x1), some (.int (x2 + ci_m8))] [] [] (mkC ra rb rc re rf rg (uI (uA σ 43 (sI σ 0 1) (vp_nar .byte ((bush x1 x2)).toInt8.toInt32)) 0 1 ((sI (uA σ 43 (sI σ 0 1) (vp_nar .byte ((bush x1 x2)).toInt8.toInt32)) 0 1) + ci_1))) (fun _ _ => rfl) ?_
        exact k_cTop_putBytes_b43 n d _ q (ih) _ _ _ _ _ _ _ _ _ h
set_option maxRecDepth 100000 in
theorem k_cTop_putBytes (n d : Nat) (q : bS) (x1 : Int32) (ra : Nat) (rb : Nat) (rc : Nat) (re : Nat) (rf : Value) (rg : Value) (σ : bS) (h : cTop_putBytes n x1 σ = some q) : bfr MT (d + 0) M_X11_putBytes 0 [some (.ref 0), some (.int x1), none] [] [] (mkC ra rb rc re rf rg σ) (none, mkC ra rb rc re rf rg q) := by
  unfold cTop_putBytes at h
  refine bfr_run 2 3 [some (.ref 0), some (.int x1), some (.int cb_24)] [] [] (mkC ra rb rc re rf rg σ) (fun _ _ => rfl) ?_
  exact k_cTop_putBytes_b3 n d q _ _ _ _ _ _ _ _ _ _ h
set_option maxRecDepth 100000 in
theorem k_cTop_feed (n d : Nat) (q : (Int32 × bS)) (x1 : Int32) (x2 : Int32) (x3 : Int32) (x4 : Int32) (x5 : Int32) (ra : Nat) (rb : Nat) (rc : Nat) (re : Nat) (rf : Value) (rg : Value) (σ : bS) (h : cTop_feed n x1 x2 x3 x4 x5 σ = some q) : bfr MT (d + 1) M_X11_feed 0 [some (.ref 0), some (.int x1), some (.int x2), some (.int x3), some (.int x4), some (.int x5)] [] [] (mkC ra rb rc re rf rg σ) (some (.int q.1), mkC ra rb rc re rf rg q.2) := by
  unfold cTop_feed at h
  refine bfr_br 4 (pc1 := 12) (L1 := [some (.ref 0), some (.int x1), some (.int x2), some (.int x3), some (.int x4), some (.int x5)]) (J1 := []) (st1 := []) (w1 := mkC ra rb rc re rf rg σ) (pc2 := 10) (L2 := [some (.ref 0), some (.int x1), some (.int x2), some (.int x3), some (.int x4), some (.int x5)]) (J2 := []) (st2 := []) (w2 := mkC ra rb rc re rf rg σ) (fun _ _ => rfl) h (fun h => ?_) (fun h => ?_)
  · refine bfr_call 3 (d1 := d + 0) (M1 := M_X11_putBytes) (vs := [(.ref 0), (.int x1)]) (w1 := mkC ra rb rc re rf rg σ) (pc2 := 17) (L2 := [some (.ref 0), some (.int x1), some (.int x2), some (.int x3), some (.int x4), some (.int x5)]) (J2 := []) (rest := []) (fun _ => none) (fun a => mkC ra rb rc re rf rg a) (fun _ _ => rfl) h (fun a ha => k_cTop_putBytes n (d + 0) _ _ _ _ _ _ _ _ _ ha) (fun q1 _ h => ?_)
    refine bfr_call 3 (d1 := d + 0) (M1 := M_X11_putBytes) (vs := [(.ref 0), (.int x2)]) (w1 := mkC ra rb rc re rf rg q1) (pc2 := 22) (L2 := [some (.ref 0), some (.int x1), some (.int x2), some (.int x3), some (.int x4), some (.int x5)]) (J2 := []) (rest := []) (fun _ => none) (fun a => mkC ra rb rc re rf rg a) (fun _ _ => rfl) h (fun a ha => k_cTop_putBytes n (d + 0) _ _ _ _ _ _ _ _ _ ha) (fun q2 _ h => ?_)
    refine bfr_call 3 (d1 := d + 0) (M1 := M_X11_putBytes) (vs := [(.ref 0), (.int x3)]) (w1 := mkC ra rb rc re rf rg q2) (pc2 := 27) (L2 := [some (.ref 0), some (.int x1), some (.int x2), some (.int x3), some (.int x4), some (.int x5)]) (J2 := []) (rest := []) (fun _ => none) (fun a => mkC ra rb rc re rf rg a) (fun _ _ => rfl) h (fun a ha => k_cTop_putBytes n (d + 0) _ _ _ _ _ _ _ _ _ ha) (fun q3 _ h => ?_)
    refine bfr_call 3 (d1 := d + 0) (M1 := M_X11_putBytes) (vs := [(.ref 0), (.int x4)]) (w1 := mkC ra rb rc re rf rg q3) (pc2 := 33) (L2 := [some (.ref 0), some (.int x1), some (.int x2), some (.int x3), some (.int x4), some (.int x5)]) (J2 := []) (rest := []) (fun _ => none) (fun a => mkC ra rb rc re rf rg a) (fun _ _ => rfl) h (fun a ha => k_cTop_putBytes n (d + 0) _ _ _ _ _ _ _ _ _ ha) (fun q4 _ h => ?_)
    refine bfr_call 3 (d1 := d + 0) (M1 := M_X11_putBytes) (vs := [(.ref 0), (.int x5)]) (w1 := mkC ra rb rc re rf rg q4) (pc2 := 39) (L2 := [some (.ref 0), some (.int x1), some (.int x2), some (.int x3), some (.int x4), some (.int x5)]) (J2 := []) (rest := []) (fun _ => none) (fun a => mkC ra rb rc re rf rg a) (fun _ _ => rfl) h (fun a ha => k_cTop_putBytes n (d + 0) _ _ _ _ _ _ _ _ _ ha) (fun q5 _ h => ?_)
    cases h
    exact bfr_ret 3 (fun _ _ => rfl)
  · cases h
    exact bfr_ret 2 (fun _ _ => rfl)
set_option maxRecDepth 100000 in
theorem k_cTop_back_b21 (n d : Nat) (q : (Int32 × bS)) (s1 : Int32) (o1 : Option Value) (ra : Nat) (rb : Nat) (rc : Nat) (re : Nat) (rf : Value) (rg : Value) (σ : bS) (h : cTop_back_b21 n s1 σ = some q) : bfr MT (d + 0) M_X11_back 21 [some (.ref 0), o1] [] [(.int s1), (.ref 0)] (mkC ra rb rc re rf rg σ) (some (.int q.1), mkC ra rb rc re rf rg q.2) := by
  unfold cTop_back_b21 at h
  refine bfr_run 1 24 [some (.ref 0), o1] [] [] ((mkC ra rb rc re rf rg σ).set 0 (.inr (.inr (11, (mkC_0  ra rb rc re rf rg σ).set 1 (.int s1))))) (fun _ _ => rfl) ?_
  rw [mkC_I0_1]
  cases h
  exact bfr_ret 3 (fun _ _ => rfl)
set_option maxRecDepth 100000 in
theorem k_cTop_back_b12 (n d : Nat) (q : (Int32 × bS)) (o0 : Option Value) (o1 : Option Value) (ra : Nat) (rb : Nat) (rc : Nat) (re : Nat) (rf : Value) (rg : Value) (σ : bS) (h : cTop_back_b12 n σ = some q) : bfr MT (d + 0) M_X11_back 12 [o0, o1] [] [] (mkC ra rb rc re rf rg σ) (some (.int q.1), mkC ra rb rc re rf rg q.2) := by
  unfold cTop_back_b12 at h
  cases h
  exact bfr_ret 2 (fun _ _ => rfl)
set_option maxRecDepth 100000 in
theorem k_cTop_back (n d : Nat) (q : (Int32 × bS)) (x1 : Int32) (ra : Nat) (rb : Nat) (rc : Nat) (re : Nat) (rf : Value) (rg : Value) (σ : bS) (h : cTop_back n x1 σ = some q) : bfr MT (d + 0) M_X11_back 0 [some (.ref 0), some (.int x1)] [] [] (mkC ra rb rc re rf rg σ) (some (.int q.1), mkC ra rb rc re rf rg q.2) := by
  unfold cTop_back at h
  refine bfr_br 2 (pc1 := 12) (L1 := [some (.ref 0), some (.int x1)]) (J1 := []) (st1 := []) (w1 := mkC ra rb rc re rf rg σ) (pc2 := 4) (L2 := [some (.ref 0), some (.int x1)]) (J2 := []) (st2 := []) (w2 := mkC ra rb rc re rf rg σ) (fun _ _ => rfl) h (fun h => ?_) (fun h => ?_)
  · exact k_cTop_back_b12 n d q _ _ _ _ _ _ _ _ _ h
  · refine bfr_br 4 (pc1 := 14) (L1 := [some (.ref 0), some (.int x1)]) (J1 := []) (st1 := []) (w1 := mkC ra rb rc re rf rg σ) (pc2 := 12) (L2 := [some (.ref 0), some (.int x1)]) (J2 := []) (st2 := []) (w2 := mkC ra rb rc re rf rg σ) (fun _ _ => rfl) h (fun h => ?_) (fun h => ?_)
    · refine bfr_run 5 21 [some (.ref 0), some (.int x1)] [] [(.int ((sI σ 0 1) - x1)), (.ref 0)] (mkC ra rb rc re rf rg σ) (fun _ _ => rfl) ?_
      exact k_cTop_back_b21 n d q _ _ _ _ _ _ _ _ _ h
    · exact k_cTop_back_b12 n d q _ _ _ _ _ _ _ _ _ h
set_option maxRecDepth 100000 in
theorem k_cj_min_b10 (n d : Nat) (q : (Int32 × bS)) (s0 : Int32) (o0 : Option Value) (o1 : Option Value) (ra : Nat) (rb : Nat) (rc : Nat) (re : Nat) (rf : Value) (rg : Value) (σ : bS) (h : cj_min_b10 n s0 σ = some q) : bfr MT (d + 0) M_J9_min_7cf53 10 [o0, o1] [] [(.int s0)] (mkC ra rb rc re rf rg σ) (some (.int q.1), mkC ra rb rc re rf rg q.2) := by
  unfold cj_min_b10 at h
  cases h
  exact bfr_ret 1 (fun _ _ => rfl)
set_option maxRecDepth 100000 in
theorem k_cj_min (n d : Nat) (q : (Int32 × bS)) (x0 : Int32) (x1 : Int32) (ra : Nat) (rb : Nat) (rc : Nat) (re : Nat) (rf : Value) (rg : Value) (σ : bS) (h : cj_min n x0 x1 σ = some q) : bfr MT (d + 0) M_J9_min_7cf53 0 [some (.int x0), some (.int x1)] [] [] (mkC ra rb rc re rf rg σ) (some (.int q.1), mkC ra rb rc re rf rg q.2) := by
  unfold cj_min at h
  refine bfr_br 3 (pc1 := 9) (L1 := [some (.int x0), some (.int x1)]) (J1 := []) (st1 := []) (w1 := mkC ra rb rc re rf rg σ) (pc2 := 5) (L2 := [some (.int x0), some (.int x1)]) (J2 := []) (st2 := []) (w2 := mkC ra rb rc re rf rg σ) (fun _ _ => rfl) h (fun h => ?_) (fun h => ?_)
  · refine bfr_run 1 10 [some (.int x0), some (.int x1)] [] [(.int x1)] (mkC ra rb rc re rf rg σ) (fun _ _ => rfl) ?_
    exact k_cj_min_b10 n d q _ _ _ _ _ _ _ _ _ _ h
  · refine bfr_run 2 10 [some (.int x0), some (.int x1)] [] [(.int x0)] (mkC ra rb rc re rf rg σ) (fun _ _ => rfl) ?_
    exact k_cj_min_b10 n d q _ _ _ _ _ _ _ _ _ _ h
set_option maxRecDepth 100000 in
theorem k_cTokens_isBlank_b29 (n d : Nat) (q : (Int32 × bS)) (s0 : Int32) (o0 : Option Value) (ra : Nat) (rb : Nat) (rc : Nat) (re : Nat) (rf : Value) (rg : Value) (σ : bS) (h : cTokens_isBlank_b29 n s0 σ = some q) : bfr MT (d + 0) M_X8_isBlank 29 [o0] [] [(.int s0)] (mkC ra rb rc re rf rg σ) (some (.int q.1), mkC ra rb rc re rf rg q.2) := by
  unfold cTokens_isBlank_b29 at h
  exact bfr_bz (mk := mkC ra rb rc re rf rg) 1 (fun _ _ => rfl) h
set_option maxRecDepth 100000 in
theorem k_cTokens_isBlank_b24 (n d : Nat) (q : (Int32 × bS)) (o0 : Option Value) (ra : Nat) (rb : Nat) (rc : Nat) (re : Nat) (rf : Value) (rg : Value) (σ : bS) (h : cTokens_isBlank_b24 n σ = some q) : bfr MT (d + 0) M_X8_isBlank 24 [o0] [] [] (mkC ra rb rc re rf rg σ) (some (.int q.1), mkC ra rb rc re rf rg q.2) := by
  unfold cTokens_isBlank_b24 at h
  refine bfr_run 2 29 [o0] [] [(.int ci_1)] (mkC ra rb rc re rf rg σ) (fun _ _ => rfl) ?_
  exact k_cTokens_isBlank_b29 n d q _ _ _ _ _ _ _ _ _ h
set_option maxRecDepth 100000 in
theorem k_cTokens_isBlank (n d : Nat) (q : (Int32 × bS)) (x0 : Int32) (ra : Nat) (rb : Nat) (rc : Nat) (re : Nat) (rf : Value) (rg : Value) (σ : bS) (h : cTokens_isBlank n x0 σ = some q) : bfr MT (d + 0) M_X8_isBlank 0 [some (.int x0)] [] [] (mkC ra rb rc re rf rg σ) (some (.int q.1), mkC ra rb rc re rf rg q.2) := by
  unfold cTokens_isBlank at h
  refine bfr_br 3 (pc1 := 24) (L1 := [some (.int x0)]) (J1 := []) (st1 := []) (w1 := mkC ra rb rc re rf rg σ) (pc2 := 6) (L2 := [some (.int x0)]) (J2 := []) (st2 := []) (w2 := mkC ra rb rc re rf rg σ) (fun _ _ => rfl) h (fun h => ?_) (fun h => ?_)
  · exact k_cTokens_isBlank_b24 n d q _ _ _ _ _ _ _ _ h
  · refine bfr_br 3 (pc1 := 24) (L1 := [some (.int x0)]) (J1 := []) (st1 := []) (w1 := mkC ra rb rc re rf rg σ) (pc2 := 12) (L2 := [some (.int x0)]) (J2 := []) (st2 := []) (w2 := mkC ra rb rc re rf rg σ) (fun _ _ => rfl) h (fun h => ?_) (fun h => ?_)
    · exact k_cTokens_isBlank_b24 n d q _ _ _ _ _ _ _ _ h
    · refine bfr_br 3 (pc1 := 24) (L1 := [some (.int x0)]) (J1 := []) (st1 := []) (w1 := mkC ra rb rc re rf rg σ) (pc2 := 18) (L2 := [some (.int x0)]) (J2 := []) (st2 := []) (w2 := mkC ra rb rc re rf rg σ) (fun _ _ => rfl) h (fun h => ?_) (fun h => ?_)
      · exact k_cTokens_isBlank_b24 n d q _ _ _ _ _ _ _ _ h
      · refine bfr_br 3 (pc1 := 24) (L1 := [some (.int x0)]) (J1 := []) (st1 := []) (w1 := mkC ra rb rc re rf rg σ) (pc2 := 28) (L2 := [some (.int x0)]) (J2 := []) (st2 := []) (w2 := mkC ra rb rc re rf rg σ) (fun _ _ => rfl) h (fun h => ?_) (fun h => ?_)
        · exact k_cTokens_isBlank_b24 n d q _ _ _ _ _ _ _ _ h
        · refine bfr_run 1 29 [some (.int x0)] [] [(.int ci_0)] (mkC ra rb rc re rf rg σ) (fun _ _ => rfl) ?_
          exact k_cTokens_isBlank_b29 n d q _ _ _ _ _ _ _ _ _ h
set_option maxRecDepth 100000 in
theorem k_cTokens_pastBlanks_43_b25 (n d : Nat) (q : (Int32 × bS)) (x3 : Int32) (o0 : Option Value) (o1 : Option Value) (o2 : Option Value) (ra : Nat) (rb : Nat) (rc : Nat) (re : Nat) (rf : Value) (rg : Value) (σ : bS) (h : cTokens_pastBlanks_43_b25 n x3 σ = some q) : bfr MT (d + 1) M_X8_pastBlanks 25 [o0, o1, o2, some (.int x3)] [] [] (mkC ra rb rc re rf rg σ) (some (.int q.1), mkC ra rb rc re rf rg q.2) := by
  unfold cTokens_pastBlanks_43_b25 at h
  cases h
  exact bfr_ret 2 (fun _ _ => rfl)
set_option maxRecDepth 100000 in
theorem k_cTokens_pastBlanks_43_b2 (n d : Nat) (q : (Int32 × bS)) : ∀ (k : Nat) (x3 : Int32) (o2 : Option Value) (ra : Nat) (rb : Nat) (rc : Nat) (re : Nat) (rf : Value) (rg : Value) (σ : bS), cTokens_pastBlanks_43_b2 n k x3 σ = some q → bfr MT (d + 1) M_X8_pastBlanks 2 [some (.ref 49), some (.ref 43), o2, some (.int x3)] [] [] (mkC ra rb rc re rf rg σ) (some (.int q.1), mkC ra rb rc re rf rg q.2) := by
  intro k
  induction k with
  | zero => intro x3 o2 ra rb rc re rf rg σ h; exact bno h
  | succ k ih =>
    intro x3 o2 ra rb rc re rf rg σ h
    unfold cTokens_pastBlanks_43_b2 at h
    refine bfr_br 4 (pc1 := 25) (L1 := [some (.ref 49), some (.ref 43), o2, some (.int x3)]) (J1 := []) (st1 := []) (w1 := mkC ra rb rc re rf rg σ) (pc2 := 10) (L2 := [some (.ref 49), some (.ref 43), o2, some (.int x3)]) (J2 := []) (st2 := []) (w2 := mkC ra rb rc re rf rg σ) (fun _ _ => rfl) h (fun h => ?_) (fun h => ?_)
    · exact k_cTokens_pastBlanks_43_b25 n d q _ _ _ _ _ _ _ _ _ _ _ h
    · refine bfr_in (i := x3) (m := 2000) 3 (pc1 := 13) (L1 := [some (.ref 49), some (.ref 43), o2, some (.int x3)]) (J1 := []) (st1 := [(.int (sA σ 43 x3))]) (w1 := mkC ra rb rc re rf rg σ) (fun _ _ => rfl) h (fun h => ?_)
      refine bfr_call 1 (d1 := d + 0) (M1 := M_X8_isBlank) (vs := [(.int (sA σ 43 x3))]) (w1 := mkC ra rb rc re rf rg σ) (pc2 := 16) (L2 := [some (.ref 49), some (.ref 43), o2, some (.int x3)]) (J2 := []) (rest := []) (fun a => some (.int a.1)) (fun a => mkC ra rb rc re rf rg a.2) (fun _ _ => rfl) h (fun a ha => k_cTokens_isBlank n (d + 0) _ _ _ _ _ _ _ _ _ ha) (fun q1 _ h => ?_)
      refine bfr_br 1 (pc1 := 25) (L1 := [some (.ref 49), some (.ref 43), o2, some (.int x3)]) (J1 := []) (st1 := []) (w1 := mkC ra rb rc re rf rg q1.2) (pc2 := 19) (L2 := [some (.ref 49), some (.ref 43), o2, some (.int x3)]) (J2 := []) (st2 := []) (w2 := mkC ra rb rc re rf rg q1.2) (fun _ _ => rfl) h (fun h => ?_) (fun h => ?_)
      · exact k_cTokens_pastBlanks_43_b25 n d q _ _ _ _ _ _ _ _ _ _ _ h
      · refine bfr_run 1 22 [some (.ref 49), some (.ref 43), o2, some (.int (x3 + ci_1))] [] [] (mkC ra rb rc re rf rg q1.2) (fun _ _ => rfl) ?_
        refine bfr_run 1 2 [some (.ref 49), some (.ref 43), o2, some (.int (x3 + ci_1))] [] [] (mkC ra rb rc re rf rg q1.2) (fun _ _ => rfl) ?_
        exact ih _ _ _ _ _ _ _ _ _ h
set_option maxRecDepth 100000 in
theorem k_cTokens_pastBlanks_43 (n d : Nat) (q : (Int32 × bS)) (x2 : Int32) (ra : Nat) (rb : Nat) (rc : Nat) (re : Nat) (rf : Value) (rg : Value) (σ : bS) (h : cTokens_pastBlanks_43 n x2 σ = some q) : bfr MT (d + 1) M_X8_pastBlanks 0 [some (.ref 49), some (.ref 43), some (.int x2), none] [] [] (mkC ra rb rc re rf rg σ) (some (.int q.1), mkC ra rb rc re rf rg q.2) := by
  unfold cTokens_pastBlanks_43 at h
  refine bfr_run 2 2 [some (.ref 49), some (.ref 43), some (.int x2), some (.int x2)] [] [] (mkC ra rb rc re rf rg σ) (fun _ _ => rfl) ?_
  exact k_cTokens_pastBlanks_43_b2 n d q _ _ _ _ _ _ _ _ _ _ h
set_option maxRecDepth 100000 in
theorem k_cTokens_put_b51 (n d : Nat) (q : bS) (o0 : Option Value) (o1 : Option Value) (o4 : Option Value) (j2 : Int64) (ra : Nat) (rb : Nat) (rc : Nat) (re : Nat) (rf : Value) (rg : Value) (σ : bS) (h : cTokens_put_b51 n σ = some q) : bfr MT (d + 0) M_X8_put 51 [o0, o1, none, none, o4] [(2, j2)] [] (mkC ra rb rc re rf rg σ) (none, mkC ra rb rc re rf rg q) := by
  unfold cTokens_put_b51 at h
  cases h
  exact bfr_ret 1 (fun _ _ => rfl)
set_option maxRecDepth 100000 in
theorem k_cTokens_put (n d : Nat) (q : bS) (x1 : Int32) (x2 : Int64) (x4 : Int32) (ra : Nat) (rb : Nat) (rc : Nat) (re : Nat) (rf : Value) (rg : Value) (σ : bS) (h : cTokens_put n x1 x2 x4 σ = some q) : bfr MT (d + 0) M_X8_put 0 [some (.ref 49), some (.int x1), none, none, some (.int x4)] [(2, x2)] [] (mkC ra rb rc re rf rg σ) (none, mkC ra rb rc re rf rg q) := by
  unfold cTokens_put at h
  refine bfr_br 4 (pc1 := 51) (L1 := [some (.ref 49), some (.int x1), none, none, some (.int x4)]) (J1 := [(2, x2)]) (st1 := []) (w1 := mkC ra rb rc re rf rg σ) (pc2 := 10) (L2 := [some (.ref 49), some (.int x1), none, none, some (.int x4)]) (J2 := [(2, x2)]) (st2 := []) (w2 := mkC ra rb rc re rf rg σ) (fun _ _ => rfl) h (fun h => ?_) (fun h => ?_)
  · exact k_cTokens_put_b51 n d q _ _ _ _ _ _ _ _ _ _ _ h
  · refine bfr_in (i := (sI σ 49 4)) (m := 401) 6 (pc1 := 20) (L1 := [some (.ref 49), some (.int x1), none, none, some (.int x4)]) (J1 := [(2, x2)]) (st1 := []) (w1 := ((mkC ra rb rc re rf rg σ).set 51 (.inl (0, 401, upd (σ.2.1 51) ((sI σ 49 4)).toNatClampNeg x1)))) (fun _ _ => rfl) h (fun h => ?_)
    rw [mkC_A51]
    refine bfr_in (i := (sI (uA σ 51 (sI σ 49 4) x1) 49 4)) (m := 401) 6 (pc1 := 30) (L1 := [some (.ref 49), some (.int x1), none, none, some (.int x4)]) (J1 := [(2, x2)]) (st1 := []) (w1 := ((mkC ra rb rc re rf rg (uA σ 51 (sI σ 49 4) x1)).set 52 (.inr (.inl (401, vp_updL ((uA σ 51 (sI σ 49 4) x1).2.2 52) ((sI (uA σ 51 (sI σ 49 4) x1) 49 4)).toNatClampNeg x2))))) (fun _ _ => rfl) h (fun h => ?_)
    rw [mkC_A52]
    refine bfr_in (i := (sI (uJ (uA σ 51 (sI σ 49 4) x1) 52 (sI (uA σ 51 (sI σ 49 4) x1) 49 4) x2) 49 4)) (m := 401) 6 (pc1 := 41) (L1 := [some (.ref 49), some (.int x1), none, none, some (.int x4)]) (J1 := [(2, x2)]) (st1 := []) (w1 := ((mkC ra rb rc re rf rg (uJ (uA σ 51 (sI σ 49 4) x1) 52 (sI (uA σ 51 (sI σ 49 4) x1) 49 4) x2)).set 53 (.inl (0, 401, upd ((uJ (uA σ 51 (sI σ 49 4) x1) 52 (sI (uA σ 51 (sI σ 49 4) x1) 49 4) x2).2.1 53) ((sI (uJ (uA σ 51 (sI σ 49 4) x1) 52 (sI (uA σ 51 (sI σ 49 4) x1) 49 4) x2) 49 4)).toNatClampNeg x4)))) (fun _ _ => rfl) h (fun h => ?_)
    rw [mkC_A53]
    refine bfr_run 6 51 [some (.ref 49), some (.int x1), none, none, some (.int x4)] [(2, x2)] [] ((mkC ra rb rc re rf rg (uA (uJ (uA σ 51 (sI σ 49 4) x1) 52 (sI (uA σ 51 (sI σ 49 4) x1) 49 4) x2) 53 (sI (uJ (uA σ 51 (sI σ 49 4) x1) 52 (sI (uA σ 51 (sI σ 49 4) x1) 49 4) x2) 49 4) x4)).set 49 (.inr (.inr (8, (mkC_49  ra rb rc re rf rg (uA (uJ (uA σ 51 (sI σ 49 4) x1) 52 (sI (uA σ 51 (sI σ 49 4) x1) 49 4) x2) 53 (sI (uJ (uA σ 51 (sI σ 49 4) x1) 52 (sI (uA σ 51 (sI σ 49 4) x1) 49 4) x2) 49 4) x4)).set 4 (.int ((sI (uA (uJ (uA σ 51 (sI σ 49 4) x1) 52 (sI (uA σ 51 (sI σ 49 4) x1) 49 4) x2) 53 (sI (uJ (uA σ 51 (sI σ 49 4) x1) 52 (sI (uA σ 51 (sI σ 49 4) x1) 49 4) x2) 49 4) x4) 49 4) + ci_1)))))) (fun _ _ => rfl) ?_
    rw [mkC_I49_4]
    exact k_cTokens_put_b51 n d q _ _ _ _ _ _ _ _ _ _ _ h
set_option maxRecDepth 100000 in
theorem k_cTokens_isLetter_b17 (n d : Nat) (q : (Int32 × bS)) (s0 : Int32) (o0 : Option Value) (ra : Nat) (rb : Nat) (rc : Nat) (re : Nat) (rf : Value) (rg : Value) (σ : bS) (h : cTokens_isLetter_b17 n s0 σ = some q) : bfr MT (d + 0) M_X8_isLetter 17 [o0] [] [(.int s0)] (mkC ra rb rc re rf rg σ) (some (.int q.1), mkC ra rb rc re rf rg q.2) := by
  unfold cTokens_isLetter_b17 at h
  exact bfr_bz (mk := mkC ra rb rc re rf rg) 1 (fun _ _ => rfl) h
set_option maxRecDepth 100000 in
theorem k_cTokens_isLetter_b16 (n d : Nat) (q : (Int32 × bS)) (o0 : Option Value) (ra : Nat) (rb : Nat) (rc : Nat) (re : Nat) (rf : Value) (rg : Value) (σ : bS) (h : cTokens_isLetter_b16 n σ = some q) : bfr MT (d + 0) M_X8_isLetter 16 [o0] [] [] (mkC ra rb rc re rf rg σ) (some (.int q.1), mkC ra rb rc re rf rg q.2) := by
  unfold cTokens_isLetter_b16 at h
  refine bfr_run 1 17 [o0] [] [(.int ci_0)] (mkC ra rb rc re rf rg σ) (fun _ _ => rfl) ?_
  exact k_cTokens_isLetter_b17 n d q _ _ _ _ _ _ _ _ _ h
set_option maxRecDepth 100000 in
theorem k_cTokens_isLetter (n d : Nat) (q : (Int32 × bS)) (x0 : Int32) (ra : Nat) (rb : Nat) (rc : Nat) (re : Nat) (rf : Value) (rg : Value) (σ : bS) (h : cTokens_isLetter n x0 σ = some q) : bfr MT (d + 0) M_X8_isLetter 0 [some (.int x0)] [] [] (mkC ra rb rc re rf rg σ) (some (.int q.1), mkC ra rb rc re rf rg q.2) := by
  unfold cTokens_isLetter at h
  refine bfr_br 3 (pc1 := 16) (L1 := [some (.int x0)]) (J1 := []) (st1 := []) (w1 := mkC ra rb rc re rf rg σ) (pc2 := 6) (L2 := [some (.int x0)]) (J2 := []) (st2 := []) (w2 := mkC ra rb rc re rf rg σ) (fun _ _ => rfl) h (fun h => ?_) (fun h => ?_)
  · exact k_cTokens_isLetter_b16 n d q _ _ _ _ _ _ _ _ h
  · refine bfr_br 3 (pc1 := 16) (L1 := [some (.int x0)]) (J1 := []) (st1 := []) (w1 := mkC ra rb rc re rf rg σ) (pc2 := 12) (L2 := [some (.int x0)]) (J2 := []) (st2 := []) (w2 := mkC ra rb rc re rf rg σ) (fun _ _ => rfl) h (fun h => ?_) (fun h => ?_)
    · exact k_cTokens_isLetter_b16 n d q _ _ _ _ _ _ _ _ h
    · refine bfr_run 2 17 [some (.int x0)] [] [(.int ci_1)] (mkC ra rb rc re rf rg σ) (fun _ _ => rfl) ?_
      exact k_cTokens_isLetter_b17 n d q _ _ _ _ _ _ _ _ _ h
set_option maxRecDepth 100000 in
theorem k_cTokens_withLetter_b9 (n d : Nat) (q : (Int64 × bS)) (s0 : Int64) (s1 : Int32) (o2 : Option Value) (j0 : Int64) (ra : Nat) (rb : Nat) (rc : Nat) (re : Nat) (rf : Value) (rg : Value) (σ : bS) (h : cTokens_withLetter_b9 n s0 s1 σ = some q) : bfr MT (d + 0) M_X8_withLetter 9 [none, none, o2] [(0, j0)] [(.int s1), (.long s0)] (mkC ra rb rc re rf rg σ) (some (.long q.1), mkC ra rb rc re rf rg q.2) := by
  unfold cTokens_withLetter_b9 at h
  cases h
  exact bfr_ret 5 (fun _ _ => rfl)
set_option maxRecDepth 100000 in
theorem k_cTokens_withLetter (n d : Nat) (q : (Int64 × bS)) (x0 : Int64) (x2 : Int32) (ra : Nat) (rb : Nat) (rc : Nat) (re : Nat) (rf : Value) (rg : Value) (σ : bS) (h : cTokens_withLetter n x0 x2 σ = some q) : bfr MT (d + 0) M_X8_withLetter 0 [none, none, some (.int x2)] [(0, x0)] [] (mkC ra rb rc re rf rg σ) (some (.long q.1), mkC ra rb rc re rf rg q.2) := by
  unfold cTokens_withLetter at h
  refine bfr_run 6 9 [none, none, some (.int x2)] [(0, x0)] [(.int (x2 - cb_97)), (.long (x0 * (32 : Int64)))] (mkC ra rb rc re rf rg σ) (fun _ _ => rfl) ?_
  exact k_cTokens_withLetter_b9 n d q _ _ _ _ _ _ _ _ _ _ _ h
set_option maxRecDepth 100000 in
theorem k_cTokens_kindOfWord_b2 (n d : Nat) (q : (Int32 × bS)) : ∀ (k : Nat) (x1 : Int64) (x3 : Int32) (ra : Nat) (rb : Nat) (rc : Nat) (re : Nat) (rf : Value) (rg : Value) (σ : bS), cTokens_kindOfWord_b2 n k x1 x3 σ = some q → bfr MT (d + 0) M_X8_kindOfWord 2 [some (.ref 49), none, none, some (.int x3)] [(1, x1)] [] (mkC ra rb rc re rf rg σ) (some (.int q.1), mkC ra rb rc re rf rg q.2) := by
  intro k
  induction k with
  | zero => intro x1 x3 ra rb rc re rf rg σ h; exact bno h
  | succ k ih =>
    intro x1 x3 ra rb rc re rf rg σ h
    unfold cTokens_kindOfWord_b2 at h
    refine bfr_br 3 (pc1 := 30) (L1 := [some (.ref 49), none, none, some (.int x3)]) (J1 := [(1, x1)]) (st1 := []) (w1 := mkC ra rb rc re rf rg σ) (pc2 := 8) (L2 := [some (.ref 49), none, none, some (.int x3)]) (J2 := [(1, x1)]) (st2 := []) (w2 := mkC ra rb rc re rf rg σ) (fun _ _ => rfl) h (fun h => ?_) (fun h => ?_)
    · cases h
      exact bfr_ret 2 (fun _ _ => rfl)
    · refine bfr_in (i := x3) (m := 24) 4 (pc1 := 14) (L1 := [some (.ref 49), none, none, some (.int x3)]) (J1 := [(1, x1)]) (st1 := [(.long (sJ σ 50 x3))]) (w1 := mkC ra rb rc re rf rg σ) (fun _ _ => rfl) h (fun h => ?_)
      refine bfr_br 3 (pc1 := 19) (L1 := [some (.ref 49), none, none, some (.int x3)]) (J1 := [(1, x1)]) (st1 := []) (w1 := mkC ra rb rc re rf rg σ) (pc2 := 24) (L2 := [some (.ref 49), none, none, some (.int x3)]) (J2 := [(1, x1)]) (st2 := []) (w2 := mkC ra rb rc re rf rg σ) (fun _ _ => rfl) h (fun h => ?_) (fun h => ?_)
      · cases h
        exact bfr_ret 4 (fun _ _ => rfl)
      · refine bfr_run 1 27 [some (.ref 49), none, none, some (.int (x3 + ci_1))] [(1, x1)] [] (mkC ra rb rc re rf rg σ) (fun _ _ => rfl) ?_
        refine bfr_run 1 2 [some (.ref 49), none, none, some (.int (x3 + ci_1))] [(1, x1)] [] (mkC ra rb rc re rf rg σ) (fun _ _ => rfl) ?_
        exact ih _ _ _ _ _ _ _ _ _ h
set_option maxRecDepth 100000 in
theorem k_cTokens_kindOfWord (n d : Nat) (q : (Int32 × bS)) (x1 : Int64) (ra : Nat) (rb : Nat) (rc : Nat) (re : Nat) (rf : Value) (rg : Value) (σ : bS) (h : cTokens_kindOfWord n x1 σ = some q) : bfr MT (d + 0) M_X8_kindOfWord 0 [some (.ref 49), none, none, none] [(1, x1)] [] (mkC ra rb rc re rf rg σ) (some (.int q.1), mkC ra rb rc re rf rg q.2) := by
  unfold cTokens_kindOfWord at h
  refine bfr_run 2 2 [some (.ref 49), none, none, some (.int ci_0)] [(1, x1)] [] (mkC ra rb rc re rf rg σ) (fun _ _ => rfl) ?_
  exact k_cTokens_kindOfWord_b2 n d q _ _ _ _ _ _ _ _ _ _ h
set_option maxRecDepth 100000 in
theorem k_cTokens_cutWord_43_b58 (n d : Nat) (q : (Int32 × bS)) (x2 : Int32) (x3 : Int64) (x5 : Int32) (s1 : Int32) (o0 : Option Value) (o1 : Option Value) (ra : Nat) (rb : Nat) (rc : Nat) (re : Nat) (rf : Value) (rg : Value) (σ : bS) (h : cTokens_cutWord_43_b58 n x2 x3 x5 s1 σ = some q) : bfr MT (d + 1) M_X8_cutWord 58 [o0, o1, some (.int x2), none, none, some (.int x5)] [(3, x3)] [(.int s1), (.ref 49)] (mkC ra rb rc re rf rg σ) (some (.int q.1), mkC ra rb rc re rf rg q.2) := by
  unfold cTokens_cutWord_43_b58 at h
  refine bfr_call 3 (d1 := d + 0) (M1 := M_X8_put) (vs := [(.ref 49), (.int s1), (.long x3), (.int x2)]) (w1 := mkC ra rb rc re rf rg σ) (pc2 := 63) (L2 := [o0, o1, some (.int x2), none, none, some (.int x5)]) (J2 := [(3, x3)]) (rest := []) (fun _ => none) (fun a => mkC ra rb rc re rf rg a) (fun _ _ => rfl) h (fun a ha => k_cTokens_put n (d + 0) _ _ _ _ _ _ _ _ _ _ _ ha) (fun q1 _ h => ?_)
  cases h
  exact bfr_ret 2 (fun _ _ => rfl)
set_option maxRecDepth 100000 in
theorem k_cTokens_cutWord_43_b44 (n d : Nat) (q : (Int32 × bS)) (x2 : Int32) (x3 : Int64) (x5 : Int32) (s1 : Int32) (o1 : Option Value) (ra : Nat) (rb : Nat) (rc : Nat) (re : Nat) (rf : Value) (rg : Value) (σ : bS) (h : cTokens_cutWord_43_b44 n x2 x3 x5 s1 σ = some q) : bfr MT (d + 1) M_X8_cutWord 44 [some (.ref 49), o1, some (.int x2), none, none, some (.int x5)] [(3, x3)] [(.int s1), (.ref 49)] (mkC ra rb rc re rf rg σ) (some (.int q.1), mkC ra rb rc re rf rg q.2) := by
  unfold cTokens_cutWord_43_b44 at h
  refine bfr_br 2 (pc1 := 53) (L1 := [some (.ref 49), o1, some (.int x2), none, none, some (.int x5)]) (J1 := [(3, x3)]) (st1 := [(.ref 49)]) (w1 := mkC ra rb rc re rf rg σ) (pc2 := 49) (L2 := [some (.ref 49), o1, some (.int x2), none, none, some (.int x5)]) (J2 := [(3, x3)]) (st2 := [(.ref 49)]) (w2 := mkC ra rb rc re rf rg σ) (fun _ _ => rfl) h (fun h => ?_) (fun h => ?_)
  · refine bfr_call 3 (d1 := d + 0) (M1 := M_X8_kindOfWord) (vs := [(.ref 49), (.long x3)]) (w1 := mkC ra rb rc re rf rg σ) (pc2 := 58) (L2 := [some (.ref 49), o1, some (.int x2), none, none, some (.int x5)]) (J2 := [(3, x3)]) (rest := [(.ref 49)]) (fun a => some (.int a.1)) (fun a => mkC ra rb rc re rf rg a.2) (fun _ _ => rfl) h (fun a ha => k_cTokens_kindOfWord n (d + 0) _ _ _ _ _ _ _ _ _ ha) (fun q2 _ h => ?_)
    exact k_cTokens_cutWord_43_b58 n d q _ _ _ _ _ _ _ _ _ _ _ _ _ h
  · refine bfr_run 2 58 [some (.ref 49), o1, some (.int x2), none, none, some (.int x5)] [(3, x3)] [(.int ci_1), (.ref 49)] (mkC ra rb rc re rf rg σ) (fun _ _ => rfl) ?_
    exact k_cTokens_cutWord_43_b58 n d q _ _ _ _ _ _ _ _ _ _ _ _ _ h
set_option maxRecDepth 100000 in
theorem k_cTokens_cutWord_43_b39 (n d : Nat) (q : (Int32 × bS)) (x2 : Int32) (x3 : Int64) (x5 : Int32) (o1 : Option Value) (ra : Nat) (rb : Nat) (rc : Nat) (re : Nat) (rf : Value) (rg : Value) (σ : bS) (h : cTokens_cutWord_43_b39 n x2 x3 x5 σ = some q) : bfr MT (d + 1) M_X8_cutWord 39 [some (.ref 49), o1, some (.int x2), none, none, some (.int x5)] [(3, x3)] [] (mkC ra rb rc re rf rg σ) (some (.int q.1), mkC ra rb rc re rf rg q.2) := by
  unfold cTokens_cutWord_43_b39 at h
  refine bfr_run 4 44 [some (.ref 49), o1, some (.int x2), none, none, some (.int x5)] [(3, x3)] [(.int (x5 - x2)), (.ref 49)] (mkC ra rb rc re rf rg σ) (fun _ _ => rfl) ?_
  exact k_cTokens_cutWord_43_b44 n d q _ _ _ _ _ _ _ _ _ _ _ _ h
set_option maxRecDepth 100000 in
theorem k_cTokens_cutWord_43_b5 (n d : Nat) (q : (Int32 × bS)) : ∀ (k : Nat) (x2 : Int32) (x3 : Int64) (x5 : Int32) (ra : Nat) (rb : Nat) (rc : Nat) (re : Nat) (rf : Value) (rg : Value) (σ : bS), cTokens_cutWord_43_b5 n k x2 x3 x5 σ = some q → bfr MT (d + 1) M_X8_cutWord 5 [some (.ref 49), some (.ref 43), some (.int x2), none, none, some (.int x5)] [(3, x3)] [] (mkC ra rb rc re rf rg σ) (some (.int q.1), mkC ra rb rc re rf rg q.2) := by
  intro k
  induction k with
  | zero => intro x2 x3 x5 ra rb rc re rf rg σ h; exact bno h
  | succ k ih =>
    intro x2 x3 x5 ra rb rc re rf rg σ h
    unfold cTokens_cutWord_43_b5 at h
    refine bfr_br 4 (pc1 := 39) (L1 := [some (.ref 49), some (.ref 43), some (.int x2), none, none, some (.int x5)]) (J1 := [(3, x3)]) (st1 := []) (w1 := mkC ra rb rc re rf rg σ) (pc2 := 14) (L2 := [some (.ref 49), some (.ref 43), some (.int x2), none, none, some (.int x5)]) (J2 := [(3, x3)]) (st2 := []) (w2 := mkC ra rb rc re rf rg σ) (fun _ _ => rfl) h (fun h => ?_) (fun h => ?_)
    · exact k_cTokens_cutWord_43_b39 n d q _ _ _ _ _ _ _ _ _ _ _ h
    · refine bfr_in (i := x5) (m := 2000) 3 (pc1 := 18) (L1 := [some (.ref 49), some (.ref 43), some (.int x2), none, none, some (.int x5)]) (J1 := [(3, x3)]) (st1 := [(.int (sA σ 43 x5))]) (w1 := mkC ra rb rc re rf rg σ) (fun _ _ => rfl) h (fun h => ?_)
      refine bfr_call 1 (d1 := d + 0) (M1 := M_X8_isLetter) (vs := [(.int (sA σ 43 x5))]) (w1 := mkC ra rb rc re rf rg σ) (pc2 := 21) (L2 := [some (.ref 49), some (.ref 43), some (.int x2), none, none, some (.int x5)]) (J2 := [(3, x3)]) (rest := []) (fun a => some (.int a.1)) (fun a => mkC ra rb rc re rf rg a.2) (fun _ _ => rfl) h (fun a ha => k_cTokens_isLetter n (d + 0) _ _ _ _ _ _ _ _ _ ha) (fun q3 _ h => ?_)
      refine bfr_br 1 (pc1 := 39) (L1 := [some (.ref 49), some (.ref 43), some (.int x2), none, none, some (.int x5)]) (J1 := [(3, x3)]) (st1 := []) (w1 := mkC ra rb rc re rf rg q3.2) (pc2 := 24) (L2 := [some (.ref 49), some (.ref 43), some (.int x2), none, none, some (.int x5)]) (J2 := [(3, x3)]) (st2 := []) (w2 := mkC ra rb rc re rf rg q3.2) (fun _ _ => rfl) h (fun h => ?_) (fun h => ?_)
      · exact k_cTokens_cutWord_43_b39 n d q _ _ _ _ _ _ _ _ _ _ _ h
      · refine bfr_in (i := x5) (m := 2000) 4 (pc1 := 29) (L1 := [some (.ref 49), some (.ref 43), some (.int x2), none, none, some (.int x5)]) (J1 := [(3, x3)]) (st1 := [(.int (sA q3.2 43 x5)), (.long x3)]) (w1 := mkC ra rb rc re rf rg q3.2) (fun _ _ => rfl) h (fun h => ?_)
        refine bfr_call 1 (d1 := d + 0) (M1 := M_X8_withLetter) (vs := [(.long x3), (.int (sA q3.2 43 x5))]) (w1 := mkC ra rb rc re rf rg q3.2) (pc2 := 32) (L2 := [some (.ref 49), some (.ref 43), some (.int x2), none, none, some (.int x5)]) (J2 := [(3, x3)]) (rest := []) (fun a => some (.long a.1)) (fun a => mkC ra rb rc re rf rg a.2) (fun _ _ => rfl) h (fun a ha => k_cTokens_withLetter n (d + 0) _ _ _ _ _ _ _ _ _ _ ha) (fun q4 _ h => ?_)
        refine bfr_run 2 36 [some (.ref 49), some (.ref 43), some (.int x2), none, none, some (.int (x5 + ci_1))] [(3, q4.1)] [] (mkC ra rb rc re rf rg q4.2) (fun _ _ => rfl) ?_
        refine bfr_run 1 5 [some (.ref 49), some (.ref 43), some (.int x2), none, none, some (.int (x5 + ci_1))] [(3, q4.1)] [] (mkC ra rb rc re rf rg q4.2) (fun _ _ => rfl) ?_
        exact ih _ _ _ _ _ _ _ _ _ _ h
set_option maxRecDepth 100000 in
theorem k_cTokens_cutWord_43 (n d : Nat) (q : (Int32 × bS)) (x2 : Int32) (ra : Nat) (rb : Nat) (rc : Nat) (re : Nat) (rf : Value) (rg : Value) (σ : bS) (h : cTokens_cutWord_43 n x2 σ = some q) : bfr MT (d + 1) M_X8_cutWord 0 [some (.ref 49), some (.ref 43), some (.int x2), none, none, none] [] [] (mkC ra rb rc re rf rg σ) (some (.int q.1), mkC ra rb rc re rf rg q.2) := by
  unfold cTokens_cutWord_43 at h
  refine bfr_run 4 5 [some (.ref 49), some (.ref 43), some (.int x2), none, none, some (.int x2)] [(3, (0 : Int64))] [] (mkC ra rb rc re rf rg σ) (fun _ _ => rfl) ?_
  exact k_cTokens_cutWord_43_b5 n d q _ _ _ _ _ _ _ _ _ _ _ h
set_option maxRecDepth 100000 in
theorem k_cTokens_isDigit_b17 (n d : Nat) (q : (Int32 × bS)) (s0 : Int32) (o0 : Option Value) (ra : Nat) (rb : Nat) (rc : Nat) (re : Nat) (rf : Value) (rg : Value) (σ : bS) (h : cTokens_isDigit_b17 n s0 σ = some q) : bfr MT (d + 0) M_X8_isDigit 17 [o0] [] [(.int s0)] (mkC ra rb rc re rf rg σ) (some (.int q.1), mkC ra rb rc re rf rg q.2) := by
  unfold cTokens_isDigit_b17 at h
  exact bfr_bz (mk := mkC ra rb rc re rf rg) 1 (fun _ _ => rfl) h
set_option maxRecDepth 100000 in
theorem k_cTokens_isDigit_b16 (n d : Nat) (q : (Int32 × bS)) (o0 : Option Value) (ra : Nat) (rb : Nat) (rc : Nat) (re : Nat) (rf : Value) (rg : Value) (σ : bS) (h : cTokens_isDigit_b16 n σ = some q) : bfr MT (d + 0) M_X8_isDigit 16 [o0] [] [] (mkC ra rb rc re rf rg σ) (some (.int q.1), mkC ra rb rc re rf rg q.2) := by
  unfold cTokens_isDigit_b16 at h
  refine bfr_run 1 17 [o0] [] [(.int ci_0)] (mkC ra rb rc re rf rg σ) (fun _ _ => rfl) ?_
  exact k_cTokens_isDigit_b17 n d q _ _ _ _ _ _ _ _ _ h
set_option maxRecDepth 100000 in
theorem k_cTokens_isDigit (n d : Nat) (q : (Int32 × bS)) (x0 : Int32) (ra : Nat) (rb : Nat) (rc : Nat) (re : Nat) (rf : Value) (rg : Value) (σ : bS) (h : cTokens_isDigit n x0 σ = some q) : bfr MT (d + 0) M_X8_isDigit 0 [some (.int x0)] [] [] (mkC ra rb rc re rf rg σ) (some (.int q.1), mkC ra rb rc re rf rg q.2) := by
  unfold cTokens_isDigit at h
  refine bfr_br 3 (pc1 := 16) (L1 := [some (.int x0)]) (J1 := []) (st1 := []) (w1 := mkC ra rb rc re rf rg σ) (pc2 := 6) (L2 := [some (.int x0)]) (J2 := []) (st2 := []) (w2 := mkC ra rb rc re rf rg σ) (fun _ _ => rfl) h (fun h => ?_) (fun h => ?_)
  · exact k_cTokens_isDigit_b16 n d q _ _ _ _ _ _ _ _ h
  · refine bfr_br 3 (pc1 := 16) (L1 := [some (.int x0)]) (J1 := []) (st1 := []) (w1 := mkC ra rb rc re rf rg σ) (pc2 := 12) (L2 := [some (.int x0)]) (J2 := []) (st2 := []) (w2 := mkC ra rb rc re rf rg σ) (fun _ _ => rfl) h (fun h => ?_) (fun h => ?_)
    · exact k_cTokens_isDigit_b16 n d q _ _ _ _ _ _ _ _ h
    · refine bfr_run 2 17 [some (.int x0)] [] [(.int ci_1)] (mkC ra rb rc re rf rg σ) (fun _ _ => rfl) ?_
      exact k_cTokens_isDigit_b17 n d q _ _ _ _ _ _ _ _ _ h
set_option maxRecDepth 100000 in
theorem k_cTokens_cutInt_43_b57 (n d : Nat) (q : (Int32 × bS)) (x2 : Int32) (x3 : Int32) (x4 : Int32) (s1 : Int32) (o0 : Option Value) (o1 : Option Value) (ra : Nat) (rb : Nat) (rc : Nat) (re : Nat) (rf : Value) (rg : Value) (σ : bS) (h : cTokens_cutInt_43_b57 n x2 x3 x4 s1 σ = some q) : bfr MT (d + 1) M_X8_cutInt 57 [o0, o1, some (.int x2), some (.int x3), some (.int x4)] [] [(.int s1), (.ref 49)] (mkC ra rb rc re rf rg σ) (some (.int q.1), mkC ra rb rc re rf rg q.2) := by
  unfold cTokens_cutInt_43_b57 at h
  refine bfr_call 4 (d1 := d + 0) (M1 := M_X8_put) (vs := [(.ref 49), (.int s1), (.long (x3).toInt64), (.int x2)]) (w1 := mkC ra rb rc re rf rg σ) (pc2 := 63) (L2 := [o0, o1, some (.int x2), some (.int x3), some (.int x4)]) (J2 := []) (rest := []) (fun _ => none) (fun a => mkC ra rb rc re rf rg a) (fun _ _ => rfl) h (fun a ha => k_cTokens_put n (d + 0) _ _ _ _ _ _ _ _ _ _ _ ha) (fun q1 _ h => ?_)
  cases h
  exact bfr_ret 2 (fun _ _ => rfl)
set_option maxRecDepth 100000 in
theorem k_cTokens_cutInt_43_b48 (n d : Nat) (q : (Int32 × bS)) (x2 : Int32) (x3 : Int32) (x4 : Int32) (s1 : Int32) (o0 : Option Value) (o1 : Option Value) (ra : Nat) (rb : Nat) (rc : Nat) (re : Nat) (rf : Value) (rg : Value) (σ : bS) (h : cTokens_cutInt_43_b48 n x2 x3 x4 s1 σ = some q) : bfr MT (d + 1) M_X8_cutInt 48 [o0, o1, some (.int x2), some (.int x3), some (.int x4)] [] [(.int s1), (.ref 49)] (mkC ra rb rc re rf rg σ) (some (.int q.1), mkC ra rb rc re rf rg q.2) := by
  unfold cTokens_cutInt_43_b48 at h
  refine bfr_br 2 (pc1 := 56) (L1 := [o0, o1, some (.int x2), some (.int x3), some (.int x4)]) (J1 := []) (st1 := [(.ref 49)]) (w1 := mkC ra rb rc re rf rg σ) (pc2 := 52) (L2 := [o0, o1, some (.int x2), some (.int x3), some (.int x4)]) (J2 := []) (st2 := [(.ref 49)]) (w2 := mkC ra rb rc re rf rg σ) (fun _ _ => rfl) h (fun h => ?_) (fun h => ?_)
  · refine bfr_run 1 57 [o0, o1, some (.int x2), some (.int x3), some (.int x4)] [] [(.int ci_3), (.ref 49)] (mkC ra rb rc re rf rg σ) (fun _ _ => rfl) ?_
    exact k_cTokens_cutInt_43_b57 n d q _ _ _ _ _ _ _ _ _ _ _ _ _ h
  · refine bfr_run 2 57 [o0, o1, some (.int x2), some (.int x3), some (.int x4)] [] [(.int ci_1), (.ref 49)] (mkC ra rb rc re rf rg σ) (fun _ _ => rfl) ?_
    exact k_cTokens_cutInt_43_b57 n d q _ _ _ _ _ _ _ _ _ _ _ _ _ h
set_option maxRecDepth 100000 in
theorem k_cTokens_cutInt_43_b43 (n d : Nat) (q : (Int32 × bS)) (x2 : Int32) (x3 : Int32) (x4 : Int32) (o1 : Option Value) (ra : Nat) (rb : Nat) (rc : Nat) (re : Nat) (rf : Value) (rg : Value) (σ : bS) (h : cTokens_cutInt_43_b43 n x2 x3 x4 σ = some q) : bfr MT (d + 1) M_X8_cutInt 43 [some (.ref 49), o1, some (.int x2), some (.int x3), some (.int x4)] [] [] (mkC ra rb rc re rf rg σ) (some (.int q.1), mkC ra rb rc re rf rg q.2) := by
  unfold cTokens_cutInt_43_b43 at h
  refine bfr_run 4 48 [some (.ref 49), o1, some (.int x2), some (.int x3), some (.int x4)] [] [(.int (x4 - x2)), (.ref 49)] (mkC ra rb rc re rf rg σ) (fun _ _ => rfl) ?_
  exact k_cTokens_cutInt_43_b48 n d q _ _ _ _ _ _ _ _ _ _ _ _ _ h
set_option maxRecDepth 100000 in
theorem k_cTokens_cutInt_43_b35 (n d : Nat) (r5 : Int32 → Int32 → Int32 → bS → Option (Int32 × bS)) (q : (Int32 × bS)) (hr5 : ∀ (x2 : Int32) (x3 : Int32) (x4 : Int32) (ra : Nat) (rb : Nat) (rc : Nat) (re : Nat) (rf : Value) (rg : Value) (σ : bS), r5 x2 x3 x4 σ = some q → bfr MT (d + 1) M_X8_cutInt 5 [some (.ref 49), some (.ref 43), some (.int x2), some (.int x3), some (.int x4)] [] [] (mkC ra rb rc re rf rg σ) (some (.int q.1), mkC ra rb rc re rf rg q.2)) (x2 : Int32) (x4 : Int32) (s0 : Int32) (s1 : Int32) (o3 : Option Value) (ra : Nat) (rb : Nat) (rc : Nat) (re : Nat) (rf : Value) (rg : Value) (σ : bS) (h : cTokens_cutInt_43_b35 n r5 x2 x4 s0 s1 σ = some q) : bfr MT (d + 1) M_X8_cutInt 35 [some (.ref 49), some (.ref 43), some (.int x2), o3, some (.int x4)] [] [(.int s1), (.int s0)] (mkC ra rb rc re rf rg σ) (some (.int q.1), mkC ra rb rc re rf rg q.2) := by
  unfold cTokens_cutInt_43_b35 at h
  refine bfr_run 3 40 [some (.ref 49), some (.ref 43), some (.int x2), some (.int (s0 + s1)), some (.int (x4 + ci_1))] [] [] (mkC ra rb rc re rf rg σ) (fun _ _ => rfl) ?_
  refine bfr_run 1 5 [some (.ref 49), some (.ref 43), some (.int x2), some (.int (s0 + s1)), some (.int (x4 + ci_1))] [] [] (mkC ra rb rc re rf rg σ) (fun _ _ => rfl) ?_
  exact hr5 _ _ _ _ _ _ _ _ _ _ h
set_option maxRecDepth 100000 in
theorem k_cTokens_cutInt_43_b5 (n d : Nat) (q : (Int32 × bS)) : ∀ (k : Nat) (x2 : Int32) (x3 : Int32) (x4 : Int32) (ra : Nat) (rb : Nat) (rc : Nat) (re : Nat) (rf : Value) (rg : Value) (σ : bS), cTokens_cutInt_43_b5 n k x2 x3 x4 σ = some q → bfr MT (d + 1) M_X8_cutInt 5 [some (.ref 49), some (.ref 43), some (.int x2), some (.int x3), some (.int x4)] [] [] (mkC ra rb rc re rf rg σ) (some (.int q.1), mkC ra rb rc re rf rg q.2) := by
  intro k
  induction k with
  | zero => intro x2 x3 x4 ra rb rc re rf rg σ h; exact bno h
  | succ k ih =>
    intro x2 x3 x4 ra rb rc re rf rg σ h
    unfold cTokens_cutInt_43_b5 at h
    refine bfr_br 4 (pc1 := 43) (L1 := [some (.ref 49), some (.ref 43), some (.int x2), some (.int x3), some (.int x4)]) (J1 := []) (st1 := []) (w1 := mkC ra rb rc re rf rg σ) (pc2 := 14) (L2 := [some (.ref 49), some (.ref 43), some (.int x2), some (.int x3), some (.int x4)]) (J2 := []) (st2 := []) (w2 := mkC ra rb rc re rf rg σ) (fun _ _ => rfl) h (fun h => ?_) (fun h => ?_)
    · exact k_cTokens_cutInt_43_b43 n d q _ _ _ _ _ _ _ _ _ _ _ h
    · refine bfr_in (i := x4) (m := 2000) 3 (pc1 := 18) (L1 := [some (.ref 49), some (.ref 43), some (.int x2), some (.int x3), some (.int x4)]) (J1 := []) (st1 := [(.int (sA σ 43 x4))]) (w1 := mkC ra rb rc re rf rg σ) (fun _ _ => rfl) h (fun h => ?_)
      refine bfr_call 1 (d1 := d + 0) (M1 := M_X8_isDigit) (vs := [(.int (sA σ 43 x4))]) (w1 := mkC ra rb rc re rf rg σ) (pc2 := 21) (L2 := [some (.ref 49), some (.ref 43), some (.int x2), some (.int x3), some (.int x4)]) (J2 := []) (rest := []) (fun a => some (.int a.1)) (fun a => mkC ra rb rc re rf rg a.2) (fun _ _ => rfl) h (fun a ha => k_cTokens_isDigit n (d + 0) _ _ _ _ _ _ _ _ _ ha) (fun q2 _ h => ?_)
      refine bfr_br 1 (pc1 := 43) (L1 := [some (.ref 49), some (.ref 43), some (.int x2), some (.int x3), some (.int x4)]) (J1 := []) (st1 := []) (w1 := mkC ra rb rc re rf rg q2.2) (pc2 := 24) (L2 := [some (.ref 49), some (.ref 43), some (.int x2), some (.int x3), some (.int x4)]) (J2 := []) (st2 := []) (w2 := mkC ra rb rc re rf rg q2.2) (fun _ _ => rfl) h (fun h => ?_) (fun h => ?_)
      · exact k_cTokens_cutInt_43_b43 n d q _ _ _ _ _ _ _ _ _ _ _ h
      · refine bfr_in (i := x4) (m := 2000) 6 (pc1 := 32) (L1 := [some (.ref 49), some (.ref 43), some (.int x2), some (.int x3), some (.int x4)]) (J1 := []) (st1 := [(.int (sA q2.2 43 x4)), (.int (x3 * cb_10))]) (w1 := mkC ra rb rc re rf rg q2.2) (fun _ _ => rfl) h (fun h => ?_)
        refine bfr_run 2 35 [some (.ref 49), some (.ref 43), some (.int x2), some (.int x3), some (.int x4)] [] [(.int ((sA q2.2 43 x4) - cb_48)), (.int (x3 * cb_10))] (mkC ra rb rc re rf rg q2.2) (fun _ _ => rfl) ?_
        exact k_cTokens_cutInt_43_b35 n d _ q (ih) _ _ _ _ _ _ _ _ _ _ _ _ h
set_option maxRecDepth 100000 in
theorem k_cTokens_cutInt_43 (n d : Nat) (q : (Int32 × bS)) (x2 : Int32) (ra : Nat) (rb : Nat) (rc : Nat) (re : Nat) (rf : Value) (rg : Value) (σ : bS) (h : cTokens_cutInt_43 n x2 σ = some q) : bfr MT (d + 1) M_X8_cutInt 0 [some (.ref 49), some (.ref 43), some (.int x2), none, none] [] [] (mkC ra rb rc re rf rg σ) (some (.int q.1), mkC ra rb rc re rf rg q.2) := by
  unfold cTokens_cutInt_43 at h
  refine bfr_run 4 5 [some (.ref 49), some (.ref 43), some (.int x2), some (.int ci_0), some (.int x2)] [] [] (mkC ra rb rc re rf rg σ) (fun _ _ => rfl) ?_
  exact k_cTokens_cutInt_43_b5 n d q _ _ _ _ _ _ _ _ _ _ _ h
set_option maxRecDepth 100000 in
theorem k_cTokens_signOf_b129 (n d : Nat) (q : (Int32 × bS)) (o0 : Option Value) (ra : Nat) (rb : Nat) (rc : Nat) (re : Nat) (rf : Value) (rg : Value) (σ : bS) (h : cTokens_signOf_b129 n σ = some q) : bfr MT (d + 0) M_X8_signOf 129 [o0] [] [] (mkC ra rb rc re rf rg σ) (some (.int q.1), mkC ra rb rc re rf rg q.2) := by
  unfold cTokens_signOf_b129 at h
  cases h
  exact bfr_ret 2 (fun _ _ => rfl)
set_option maxRecDepth 100000 in
theorem k_cTokens_signOf (n d : Nat) (q : (Int32 × bS)) (x0 : Int32) (ra : Nat) (rb : Nat) (rc : Nat) (re : Nat) (rf : Value) (rg : Value) (σ : bS) (h : cTokens_signOf n x0 σ = some q) : bfr MT (d + 0) M_X8_signOf 0 [some (.int x0)] [] [] (mkC ra rb rc re rf rg σ) (some (.int q.1), mkC ra rb rc re rf rg q.2) := by
  unfold cTokens_signOf at h
  refine bfr_of 2 (fun K => (if (x0).toInt = 40 then K 123 [some (.int x0)] [] [] (mkC ra rb rc re rf rg σ) else (if (x0).toInt = 41 then K 126 [some (.int x0)] [] [] (mkC ra rb rc re rf rg σ) else (if (x0).toInt = 42 then K 114 [some (.int x0)] [] [] (mkC ra rb rc re rf rg σ) else (if (x0).toInt = 43 then K 108 [some (.int x0)] [] [] (mkC ra rb rc re rf rg σ) else (if (x0).toInt = 44 then K 129 [some (.int x0)] [] [] (mkC ra rb rc re rf rg σ) else (if (x0).toInt = 45 then K 111 [some (.int x0)] [] [] (mkC ra rb rc re rf rg σ) else (if (x0).toInt = 46 then K 129 [some (.int x0)] [] [] (mkC ra rb rc re rf rg σ) else (if (x0).toInt = 47 then K 117 [some (.int x0)] [] [] (mkC ra rb rc re rf rg σ) else (if (x0).toInt = 48 then K 129 [some (.int x0)] [] [] (mkC ra rb rc re rf rg σ) else (if (x0).toInt = 49 then K 129 [some (.int x0)] [] [] (mkC ra rb rc re rf rg σ) else (if (x0).toInt = 50 then K 129 [some (.int x0)] [] [] (mkC ra rb rc re rf rg σ) else (if (x0).toInt = 51 then K 129 [some (.int x0)] [] [] (mkC ra rb rc re rf rg σ) else (if (x0).toInt = 52 then K 129 [some (.int x0)] [] [] (mkC ra rb rc re rf rg σ) else (if (x0).toInt = 53 then K 129 [some (.int x0)] [] [] (mkC ra rb rc re rf rg σ) else (if (x0).toInt = 54 then K 129 [some (.int x0)] [] [] (mkC ra rb rc re rf rg σ) else (if (x0).toInt = 55 then K 129 [some (.int x0)] [] [] (mkC ra rb rc re rf rg σ) else (if (x0).toInt = 56 then K 129 [some (.int x0)] [] [] (mkC ra rb rc re rf rg σ) else (if (x0).toInt = 57 then K 129 [some (.int x0)] [] [] (mkC ra rb rc re rf rg σ) else (if (x0).toInt = 58 then K 129 [some (.int x0)] [] [] (mkC ra rb rc re rf rg σ) else (if (x0).toInt = 59 then K 104 [some (.int x0)] [] [] (mkC ra rb rc re rf rg σ) else (if (x0).toInt = 60 then K 120 [some (.int x0)] [] [] (mkC ra rb rc re rf rg σ) else (if (x0).toInt = 61 then K 106 [some (.int x0)] [] [] (mkC ra rb rc re rf rg σ) else K 129 [some (.int x0)] [] [] (mkC ra rb rc re rf rg σ)))))))))))))))))))))))) (fun _ _ => rfl) ?_
  refine bres_if h (fun h => ?_) (fun h => ?_)
  · cases h
    exact bfr_ret 2 (fun _ _ => rfl)
  refine bres_if h (fun h => ?_) (fun h => ?_)
  · cases h
    exact bfr_ret 2 (fun _ _ => rfl)
  refine bres_if h (fun h => ?_) (fun h => ?_)
  · cases h
    exact bfr_ret 2 (fun _ _ => rfl)
  refine bres_if h (fun h => ?_) (fun h => ?_)
  · cases h
    exact bfr_ret 2 (fun _ _ => rfl)
  refine bres_if h (fun h => ?_) (fun h => ?_)
  · exact k_cTokens_signOf_b129 n d q _ _ _ _ _ _ _ _ h
  refine bres_if h (fun h => ?_) (fun h => ?_)
  · cases h
    exact bfr_ret 2 (fun _ _ => rfl)
  refine bres_if h (fun h => ?_) (fun h => ?_)
  · exact k_cTokens_signOf_b129 n d q _ _ _ _ _ _ _ _ h
  refine bres_if h (fun h => ?_) (fun h => ?_)
  · cases h
    exact bfr_ret 2 (fun _ _ => rfl)
  refine bres_if h (fun h => ?_) (fun h => ?_)
  · exact k_cTokens_signOf_b129 n d q _ _ _ _ _ _ _ _ h
  refine bres_if h (fun h => ?_) (fun h => ?_)
  · exact k_cTokens_signOf_b129 n d q _ _ _ _ _ _ _ _ h
  refine bres_if h (fun h => ?_) (fun h => ?_)
  · exact k_cTokens_signOf_b129 n d q _ _ _ _ _ _ _ _ h
  refine bres_if h (fun h => ?_) (fun h => ?_)
  · exact k_cTokens_signOf_b129 n d q _ _ _ _ _ _ _ _ h
  refine bres_if h (fun h => ?_) (fun h => ?_)
  · exact k_cTokens_signOf_b129 n d q _ _ _ _ _ _ _ _ h
  refine bres_if h (fun h => ?_) (fun h => ?_)
  · exact k_cTokens_signOf_b129 n d q _ _ _ _ _ _ _ _ h
  refine bres_if h (fun h => ?_) (fun h => ?_)
  · exact k_cTokens_signOf_b129 n d q _ _ _ _ _ _ _ _ h
  refine bres_if h (fun h => ?_) (fun h => ?_)
  · exact k_cTokens_signOf_b129 n d q _ _ _ _ _ _ _ _ h
  refine bres_if h (fun h => ?_) (fun h => ?_)
  · exact k_cTokens_signOf_b129 n d q _ _ _ _ _ _ _ _ h
  refine bres_if h (fun h => ?_) (fun h => ?_)
  · exact k_cTokens_signOf_b129 n d q _ _ _ _ _ _ _ _ h
  refine bres_if h (fun h => ?_) (fun h => ?_)
  · exact k_cTokens_signOf_b129 n d q _ _ _ _ _ _ _ _ h
  refine bres_if h (fun h => ?_) (fun h => ?_)
  · cases h
    exact bfr_ret 2 (fun _ _ => rfl)
  refine bres_if h (fun h => ?_) (fun h => ?_)
  · cases h
    exact bfr_ret 2 (fun _ _ => rfl)
  refine bres_if h (fun h => ?_) (fun h => ?_)
  · cases h
    exact bfr_ret 2 (fun _ _ => rfl)
  exact k_cTokens_signOf_b129 n d q _ _ _ _ _ _ _ _ h
set_option maxRecDepth 100000 in
theorem k_cTokens_cutOne_43 (n d : Nat) (q : (Int32 × bS)) (x2 : Int32) (ra : Nat) (rb : Nat) (rc : Nat) (re : Nat) (rf : Value) (rg : Value) (σ : bS) (h : cTokens_cutOne_43 n x2 σ = some q) : bfr MT (d + 2) M_X8_cutOne 0 [some (.ref 49), some (.ref 43), some (.int x2), none] [] [] (mkC ra rb rc re rf rg σ) (some (.int q.1), mkC ra rb rc re rf rg q.2) := by
  unfold cTokens_cutOne_43 at h
  refine bfr_br 4 (pc1 := 23) (L1 := [some (.ref 49), some (.ref 43), some (.int x2), none]) (J1 := []) (st1 := []) (w1 := mkC ra rb rc re rf rg σ) (pc2 := 8) (L2 := [some (.ref 49), some (.ref 43), some (.int x2), none]) (J2 := []) (st2 := []) (w2 := mkC ra rb rc re rf rg σ) (fun _ _ => rfl) h (fun h => ?_) (fun h => ?_)
  · refine bfr_in (i := x2) (m := 2000) 3 (pc1 := 26) (L1 := [some (.ref 49), some (.ref 43), some (.int x2), none]) (J1 := []) (st1 := [(.int (sA σ 43 x2))]) (w1 := mkC ra rb rc re rf rg σ) (fun _ _ => rfl) h (fun h => ?_)
    refine bfr_call 3 (d1 := d + 1) (M1 := M_X8_isLetter) (vs := [(.int (sA σ 43 x2))]) (w1 := mkC ra rb rc re rf rg σ) (pc2 := 31) (L2 := [some (.ref 49), some (.ref 43), some (.int x2), some (.int (sA σ 43 x2))]) (J2 := []) (rest := []) (fun a => some (.int a.1)) (fun a => mkC ra rb rc re rf rg a.2) (fun _ _ => rfl) h (fun a ha => k_cTokens_isLetter n (d + 1) _ _ _ _ _ _ _ _ _ ha) (fun q1 _ h => ?_)
    refine bfr_br 1 (pc1 := 41) (L1 := [some (.ref 49), some (.ref 43), some (.int x2), some (.int (sA σ 43 x2))]) (J1 := []) (st1 := []) (w1 := mkC ra rb rc re rf rg q1.2) (pc2 := 34) (L2 := [some (.ref 49), some (.ref 43), some (.int x2), some (.int (sA σ 43 x2))]) (J2 := []) (st2 := []) (w2 := mkC ra rb rc re rf rg q1.2) (fun _ _ => rfl) h (fun h => ?_) (fun h => ?_)
    · refine bfr_call 2 (d1 := d + 1) (M1 := M_X8_isDigit) (vs := [(.int (sA σ 43 x2))]) (w1 := mkC ra rb rc re rf rg q1.2) (pc2 := 45) (L2 := [some (.ref 49), some (.ref 43), some (.int x2), some (.int (sA σ 43 x2))]) (J2 := []) (rest := []) (fun a => some (.int a.1)) (fun a => mkC ra rb rc re rf rg a.2) (fun _ _ => rfl) h (fun a ha => k_cTokens_isDigit n (d + 1) _ _ _ _ _ _ _ _ _ ha) (fun q2 _ h => ?_)
      refine bfr_br 1 (pc1 := 55) (L1 := [some (.ref 49), some (.ref 43), some (.int x2), some (.int (sA σ 43 x2))]) (J1 := []) (st1 := []) (w1 := mkC ra rb rc re rf rg q2.2) (pc2 := 48) (L2 := [some (.ref 49), some (.ref 43), some (.int x2), some (.int (sA σ 43 x2))]) (J2 := []) (st2 := []) (w2 := mkC ra rb rc re rf rg q2.2) (fun _ _ => rfl) h (fun h => ?_) (fun h => ?_)
      · refine bfr_call 3 (d1 := d + 1) (M1 := M_X8_signOf) (vs := [(.int (sA σ 43 x2))]) (w1 := mkC ra rb rc re rf rg q2.2) (pc2 := 60) (L2 := [some (.ref 49), some (.ref 43), some (.int x2), some (.int (sA σ 43 x2))]) (J2 := []) (rest := [(.ref 49)]) (fun a => some (.int a.1)) (fun a => mkC ra rb rc re rf rg a.2) (fun _ _ => rfl) h (fun a ha => k_cTokens_signOf n (d + 1) _ _ _ _ _ _ _ _ _ ha) (fun q3 _ h => ?_)
        refine bfr_call 3 (d1 := d + 1) (M1 := M_X8_put) (vs := [(.ref 49), (.int q3.1), (.long (0 : Int64)), (.int x2)]) (w1 := mkC ra rb rc re rf rg q3.2) (pc2 := 65) (L2 := [some (.ref 49), some (.ref 43), some (.int x2), some (.int (sA σ 43 x2))]) (J2 := []) (rest := []) (fun _ => none) (fun a => mkC ra rb rc re rf rg a) (fun _ _ => rfl) h (fun a ha => k_cTokens_put n (d + 1) _ _ _ _ _ _ _ _ _ _ _ ha) (fun q4 _ h => ?_)
        cases h
        exact bfr_ret 4 (fun _ _ => rfl)
      · refine bfr_call 4 (d1 := d + 1) (M1 := M_X8_cutInt) (vs := [(.ref 49), (.ref 43), (.int x2)]) (w1 := mkC ra rb rc re rf rg q2.2) (pc2 := 54) (L2 := [some (.ref 49), some (.ref 43), some (.int x2), some (.int (sA σ 43 x2))]) (J2 := []) (rest := []) (fun a => some (.int a.1)) (fun a => mkC ra rb rc re rf rg a.2) (fun _ _ => rfl) h (fun a ha => k_cTokens_cutInt_43 n (d + 0) _ _ _ _ _ _ _ _ _ ha) (fun q5 _ h => ?_)
        cases h
        exact bfr_ret 1 (fun _ _ => rfl)
    · refine bfr_call 4 (d1 := d + 1) (M1 := M_X8_cutWord) (vs := [(.ref 49), (.ref 43), (.int x2)]) (w1 := mkC ra rb rc re rf rg q1.2) (pc2 := 40) (L2 := [some (.ref 49), some (.ref 43), some (.int x2), some (.int (sA σ 43 x2))]) (J2 := []) (rest := []) (fun a => some (.int a.1)) (fun a => mkC ra rb rc re rf rg a.2) (fun _ _ => rfl) h (fun a ha => k_cTokens_cutWord_43 n (d + 0) _ _ _ _ _ _ _ _ _ ha) (fun q6 _ h => ?_)
      cases h
      exact bfr_ret 1 (fun _ _ => rfl)
  · refine bfr_call 6 (d1 := d + 1) (M1 := M_X8_put) (vs := [(.ref 49), (.int ci_0), (.long (0 : Int64)), (.int (sI σ 49 5))]) (w1 := mkC ra rb rc re rf rg σ) (pc2 := 18) (L2 := [some (.ref 49), some (.ref 43), some (.int x2), none]) (J2 := []) (rest := []) (fun _ => none) (fun a => mkC ra rb rc re rf rg a) (fun _ _ => rfl) h (fun a ha => k_cTokens_put n (d + 1) _ _ _ _ _ _ _ _ _ _ _ ha) (fun q7 _ h => ?_)
    cases h
    exact bfr_ret 3 (fun _ _ => rfl)
set_option maxRecDepth 100000 in
theorem k_cTokens_cut_43_b68 (n d : Nat) (q : bS) (o0 : Option Value) (o1 : Option Value) (o2 : Option Value) (o3 : Option Value) (o4 : Option Value) (ra : Nat) (rb : Nat) (rc : Nat) (re : Nat) (rf : Value) (rg : Value) (σ : bS) (h : cTokens_cut_43_b68 n σ = some q) : bfr MT (d + 3) M_X8_cut 68 [o0, o1, o2, o3, o4] [] [] (mkC ra rb rc re rf rg σ) (none, mkC ra rb rc re rf rg q) := by
  unfold cTokens_cut_43_b68 at h
  cases h
  exact bfr_ret 1 (fun _ _ => rfl)
set_option maxRecDepth 100000 in
theorem k_cTokens_cut_43_b50 (n d : Nat) (r20 : Int32 → Int32 → bS → Option bS) (q : bS) (hr20 : ∀ (x3 : Int32) (x4 : Int32) (o2 : Option Value) (ra : Nat) (rb : Nat) (rc : Nat) (re : Nat) (rf : Value) (rg : Value) (σ : bS), r20 x3 x4 σ = some q → bfr MT (d + 3) M_X8_cut 20 [some (.ref 49), some (.ref 43), o2, some (.int x3), some (.int x4)] [] [] (mkC ra rb rc re rf rg σ) (none, mkC ra rb rc re rf rg q)) (x3 : Int32) (x4 : Int32) (o2 : Option Value) (ra : Nat) (rb : Nat) (rc : Nat) (re : Nat) (rf : Value) (rg : Value) (σ : bS) (h : cTokens_cut_43_b50 n r20 x3 x4 σ = some q) : bfr MT (d + 3) M_X8_cut 50 [some (.ref 49), some (.ref 43), o2, some (.int x3), some (.int x4)] [] [] (mkC ra rb rc re rf rg σ) (none, mkC ra rb rc re rf rg q) := by
  unfold cTokens_cut_43_b50 at h
  refine bfr_call 6 (d1 := d + 2) (M1 := M_X8_pastBlanks) (vs := [(.ref 49), (.ref 43), (.int x3)]) (w1 := mkC ra rb rc re rf rg σ) (pc2 := 58) (L2 := [some (.ref 49), some (.ref 43), o2, some (.int x3), some (.int x4)]) (J2 := []) (rest := [(.ref 43), (.ref 49)]) (fun a => some (.int a.1)) (fun a => mkC ra rb rc re rf rg a.2) (fun _ _ => rfl) h (fun a ha => k_cTokens_pastBlanks_43 n (d + 1) _ _ _ _ _ _ _ _ _ ha) (fun q1 _ h => ?_)
  refine bfr_call 1 (d1 := d + 2) (M1 := M_X8_cutOne) (vs := [(.ref 49), (.ref 43), (.int q1.1)]) (w1 := mkC ra rb rc re rf rg q1.2) (pc2 := 61) (L2 := [some (.ref 49), some (.ref 43), o2, some (.int x3), some (.int x4)]) (J2 := []) (rest := []) (fun a => some (.int a.1)) (fun a => mkC ra rb rc re rf rg a.2) (fun _ _ => rfl) h (fun a ha => k_cTokens_cutOne_43 n (d + 0) _ _ _ _ _ _ _ _ _ ha) (fun q2 _ h => ?_)
  refine bfr_run 2 65 [some (.ref 49), some (.ref 43), o2, some (.int q2.1), some (.int (x4 + ci_1))] [] [] (mkC ra rb rc re rf rg q2.2) (fun _ _ => rfl) ?_
  refine bfr_run 1 20 [some (.ref 49), some (.ref 43), o2, some (.int q2.1), some (.int (x4 + ci_1))] [] [] (mkC ra rb rc re rf rg q2.2) (fun _ _ => rfl) ?_
  exact hr20 _ _ _ _ _ _ _ _ _ _ h
set_option maxRecDepth 100000 in
theorem k_cTokens_cut_43_b45 (n d : Nat) (r20 : Int32 → Int32 → bS → Option bS) (q : bS) (hr20 : ∀ (x3 : Int32) (x4 : Int32) (o2 : Option Value) (ra : Nat) (rb : Nat) (rc : Nat) (re : Nat) (rf : Value) (rg : Value) (σ : bS), r20 x3 x4 σ = some q → bfr MT (d + 3) M_X8_cut 20 [some (.ref 49), some (.ref 43), o2, some (.int x3), some (.int x4)] [] [] (mkC ra rb rc re rf rg σ) (none, mkC ra rb rc re rf rg q)) (x3 : Int32) (x4 : Int32) (s1 : Int32) (o2 : Option Value) (ra : Nat) (rb : Nat) (rc : Nat) (re : Nat) (rf : Value) (rg : Value) (σ : bS) (h : cTokens_cut_43_b45 n r20 x3 x4 s1 σ = some q) : bfr MT (d + 3) M_X8_cut 45 [some (.ref 49), some (.ref 43), o2, some (.int x3), some (.int x4)] [] [(.int s1), (.ref 51)] (mkC ra rb rc re rf rg σ) (none, mkC ra rb rc re rf rg q) := by
  unfold cTokens_cut_43_b45 at h
  refine bfr_in (i := s1) (m := 401) 1 (pc1 := 46) (L1 := [some (.ref 49), some (.ref 43), o2, some (.int x3), some (.int x4)]) (J1 := []) (st1 := [(.int (sA σ 51 s1))]) (w1 := mkC ra rb rc re rf rg σ) (fun _ _ => rfl) h (fun h => ?_)
  refine bfr_br 2 (pc1 := 68) (L1 := [some (.ref 49), some (.ref 43), o2, some (.int x3), some (.int x4)]) (J1 := []) (st1 := []) (w1 := mkC ra rb rc re rf rg σ) (pc2 := 50) (L2 := [some (.ref 49), some (.ref 43), o2, some (.int x3), some (.int x4)]) (J2 := []) (st2 := []) (w2 := mkC ra rb rc re rf rg σ) (fun _ _ => rfl) h (fun h => ?_) (fun h => ?_)
  · exact k_cTokens_cut_43_b68 n d q _ _ _ _ _ _ _ _ _ _ _ _ h
  · exact k_cTokens_cut_43_b50 n d _ q hr20 _ _ _ _ _ _ _ _ _ _ h
set_option maxRecDepth 100000 in
theorem k_cTokens_cut_43_b20 (n d : Nat) (q : bS) : ∀ (k : Nat) (x3 : Int32) (x4 : Int32) (o2 : Option Value) (ra : Nat) (rb : Nat) (rc : Nat) (re : Nat) (rf : Value) (rg : Value) (σ : bS), cTokens_cut_43_b20 n k x3 x4 σ = some q → bfr MT (d + 3) M_X8_cut 20 [some (.ref 49), some (.ref 43), o2, some (.int x3), some (.int x4)] [] [] (mkC ra rb rc re rf rg σ) (none, mkC ra rb rc re rf rg q) := by
  intro k
  induction k with
  | zero => intro x3 x4 o2 ra rb rc re rf rg σ h; exact bno h
  | succ k ih =>
    intro x3 x4 o2 ra rb rc re rf rg σ h
    unfold cTokens_cut_43_b20 at h
    refine bfr_br 3 (pc1 := 68) (L1 := [some (.ref 49), some (.ref 43), o2, some (.int x3), some (.int x4)]) (J1 := []) (st1 := []) (w1 := mkC ra rb rc re rf rg σ) (pc2 := 28) (L2 := [some (.ref 49), some (.ref 43), o2, some (.int x3), some (.int x4)]) (J2 := []) (st2 := []) (w2 := mkC ra rb rc re rf rg σ) (fun _ _ => rfl) h (fun h => ?_) (fun h => ?_)
    · exact k_cTokens_cut_43_b68 n d q _ _ _ _ _ _ _ _ _ _ _ _ h
    · refine bfr_br 3 (pc1 := 50) (L1 := [some (.ref 49), some (.ref 43), o2, some (.int x3), some (.int x4)]) (J1 := []) (st1 := []) (w1 := mkC ra rb rc re rf rg σ) (pc2 := 35) (L2 := [some (.ref 49), some (.ref 43), o2, some (.int x3), some (.int x4)]) (J2 := []) (st2 := []) (w2 := mkC ra rb rc re rf rg σ) (fun _ _ => rfl) h (fun h => ?_) (fun h => ?_)
      · exact k_cTokens_cut_43_b50 n d _ q (ih) _ _ _ _ _ _ _ _ _ _ h
      · refine bfr_run 6 45 [some (.ref 49), some (.ref 43), o2, some (.int x3), some (.int x4)] [] [(.int ((sI σ 49 4) - ci_1)), (.ref 51)] (mkC ra rb rc re rf rg σ) (fun _ _ => rfl) ?_
        exact k_cTokens_cut_43_b45 n d _ q (ih) _ _ _ _ _ _ _ _ _ _ _ h
set_option maxRecDepth 100000 in
theorem k_cTokens_cut_43 (n d : Nat) (q : bS) (x2 : Int32) (ra : Nat) (rb : Nat) (rc : Nat) (re : Nat) (rf : Value) (rg : Value) (σ : bS) (h : cTokens_cut_43 n x2 σ = some q) : bfr MT (d + 3) M_X8_cut 0 [some (.ref 49), some (.ref 43), some (.int x2), none, none] [] [] (mkC ra rb rc re rf rg σ) (none, mkC ra rb rc re rf rg q) := by
  unfold cTokens_cut_43 at h
  refine bfr_run 3 5 [some (.ref 49), some (.ref 43), some (.int x2), none, none] [] [] ((mkC ra rb rc re rf rg σ).set 49 (.inr (.inr (8, (mkC_49  ra rb rc re rf rg σ).set 4 (.int ci_0))))) (fun _ _ => rfl) ?_
  rw [mkC_I49_4]
  refine bfr_call 5 (d1 := d + 2) (M1 := M_J9_min_7cf53) (vs := [(.int x2), (.int cn_2000)]) (w1 := mkC ra rb rc re rf rg (uI σ 49 4 ci_0)) (pc2 := 12) (L2 := [some (.ref 49), some (.ref 43), some (.int x2), none, none]) (J2 := []) (rest := [(.ref 49)]) (fun a => some (.int a.1)) (fun a => mkC ra rb rc re rf rg a.2) (fun _ _ => rfl) h (fun a ha => k_cj_min n (d + 2) _ _ _ _ _ _ _ _ _ _ ha) (fun q3 _ h => ?_)
  refine bfr_run 1 15 [some (.ref 49), some (.ref 43), some (.int x2), none, none] [] [] ((mkC ra rb rc re rf rg q3.2).set 49 (.inr (.inr (8, (mkC_49  ra rb rc re rf rg q3.2).set 5 (.int q3.1))))) (fun _ _ => rfl) ?_
  rw [mkC_I49_5]
  refine bfr_run 4 20 [some (.ref 49), some (.ref 43), some (.int x2), some (.int ci_0), some (.int ci_0)] [] [] (mkC ra rb rc re rf rg (uI q3.2 49 5 q3.1)) (fun _ _ => rfl) ?_
  exact k_cTokens_cut_43_b20 n d q _ _ _ _ _ _ _ _ _ _ _ h
set_option maxRecDepth 100000 in
theorem k_cj_fill_15_b5 (n d : Nat) (q : bS) : ∀ (k : Nat) (x1 : Int32) (x2 : Int32) (x3 : Int32) (ra : Nat) (rb : Nat) (rc : Nat) (re : Nat) (rf : Value) (rg : Value) (σ : bS), cj_fill_15_b5 n k x1 x2 x3 σ = some q → bfr MT (d + 0) M_J7_fill_53178 5 [some (.ref 15), some (.int x1), some (.int x2), some (.int x3)] [] [] (mkC ra rb rc re rf rg σ) (none, mkC ra rb rc re rf rg q) := by
  intro k
  induction k with
  | zero => intro x1 x2 x3 ra rb rc re rf rg σ h; exact bno h
  | succ k ih =>
    intro x1 x2 x3 ra rb rc re rf rg σ h
    unfold cj_fill_15_b5 at h
    refine bfr_br 3 (pc1 := 20) (L1 := [some (.ref 15), some (.int x1), some (.int x2), some (.int x3)]) (J1 := []) (st1 := []) (w1 := mkC ra rb rc re rf rg σ) (pc2 := 10) (L2 := [some (.ref 15), some (.int x1), some (.int x2), some (.int x3)]) (J2 := []) (st2 := []) (w2 := mkC ra rb rc re rf rg σ) (fun _ _ => rfl) h (fun h => ?_) (fun h => ?_)
    · cases h
      exact bfr_ret 1 (fun _ _ => rfl)
    · refine bfr_in (i := x2) (m := 36) 4 (pc1 := 14) (L1 := [some (.ref 15), some (.int x1), some (.int x2), some (.int x3)]) (J1 := []) (st1 := []) (w1 := ((mkC ra rb rc re rf rg σ).set 15 (.inl (0, 36, upd (σ.2.1 15) (x2).toNatClampNeg x1)))) (fun _ _ => rfl) h (fun h => ?_)
      rw [mkC_A15]
      refine bfr_run 1 17 [some (.ref 15), some (.int x1), some (.int (x2 + ci_1)), some (.int x3)] [] [] (mkC ra rb rc re rf rg (uA σ 15 x2 x1)) (fun _ _ => rfl) ?_
      refine bfr_run 1 5 [some (.ref 15), some (.int x1), some (.int (x2 + ci_1)), some (.int x3)] [] [] (mkC ra rb rc re rf rg (uA σ 15 x2 x1)) (fun _ _ => rfl) ?_
      exact ih _ _ _ _ _ _ _ _ _ _ h
set_option maxRecDepth 100000 in
theorem k_cj_fill_15 (n d : Nat) (q : bS) (x1 : Int32) (ra : Nat) (rb : Nat) (rc : Nat) (re : Nat) (rf : Value) (rg : Value) (σ : bS) (h : cj_fill_15 n x1 σ = some q) : bfr MT (d + 0) M_J7_fill_53178 0 [some (.ref 15), some (.int x1), none, none] [] [] (mkC ra rb rc re rf rg σ) (none, mkC ra rb rc re rf rg q) := by
  unfold cj_fill_15 at h
  refine bfr_run 5 5 [some (.ref 15), some (.int x1), some (.int ci_0), some (.int cn_36)] [] [] (mkC ra rb rc re rf rg σ) (fun _ _ => rfl) ?_
  exact k_cj_fill_15_b5 n d q _ _ _ _ _ _ _ _ _ _ _ h
set_option maxRecDepth 100000 in
theorem k_cj_fill_21_b5 (n d : Nat) (q : bS) : ∀ (k : Nat) (x1 : Int32) (x2 : Int32) (x3 : Int32) (ra : Nat) (rb : Nat) (rc : Nat) (re : Nat) (rf : Value) (rg : Value) (σ : bS), cj_fill_21_b5 n k x1 x2 x3 σ = some q → bfr MT (d + 0) M_J7_fill_53178 5 [some (.ref 21), some (.int x1), some (.int x2), some (.int x3)] [] [] (mkC ra rb rc re rf rg σ) (none, mkC ra rb rc re rf rg q) := by
  intro k
  induction k with
  | zero => intro x1 x2 x3 ra rb rc re rf rg σ h; exact bno h
  | succ k ih =>
    intro x1 x2 x3 ra rb rc re rf rg σ h
    unfold cj_fill_21_b5 at h
    refine bfr_br 3 (pc1 := 20) (L1 := [some (.ref 21), some (.int x1), some (.int x2), some (.int x3)]) (J1 := []) (st1 := []) (w1 := mkC ra rb rc re rf rg σ) (pc2 := 10) (L2 := [some (.ref 21), some (.int x1), some (.int x2), some (.int x3)]) (J2 := []) (st2 := []) (w2 := mkC ra rb rc re rf rg σ) (fun _ _ => rfl) h (fun h => ?_) (fun h => ?_)
    · cases h
      exact bfr_ret 1 (fun _ _ => rfl)
    · refine bfr_in (i := x2) (m := 7) 4 (pc1 := 14) (L1 := [some (.ref 21), some (.int x1), some (.int x2), some (.int x3)]) (J1 := []) (st1 := []) (w1 := ((mkC ra rb rc re rf rg σ).set 21 (.inl (0, 7, upd (σ.2.1 21) (x2).toNatClampNeg x1)))) (fun _ _ => rfl) h (fun h => ?_)
      rw [mkC_A21]
      refine bfr_run 1 17 [some (.ref 21), some (.int x1), some (.int (x2 + ci_1)), some (.int x3)] [] [] (mkC ra rb rc re rf rg (uA σ 21 x2 x1)) (fun _ _ => rfl) ?_
      refine bfr_run 1 5 [some (.ref 21), some (.int x1), some (.int (x2 + ci_1)), some (.int x3)] [] [] (mkC ra rb rc re rf rg (uA σ 21 x2 x1)) (fun _ _ => rfl) ?_
      exact ih _ _ _ _ _ _ _ _ _ _ h
set_option maxRecDepth 100000 in
theorem k_cj_fill_21 (n d : Nat) (q : bS) (x1 : Int32) (ra : Nat) (rb : Nat) (rc : Nat) (re : Nat) (rf : Value) (rg : Value) (σ : bS) (h : cj_fill_21 n x1 σ = some q) : bfr MT (d + 0) M_J7_fill_53178 0 [some (.ref 21), some (.int x1), none, none] [] [] (mkC ra rb rc re rf rg σ) (none, mkC ra rb rc re rf rg q) := by
  unfold cj_fill_21 at h
  refine bfr_run 5 5 [some (.ref 21), some (.int x1), some (.int ci_0), some (.int cn_7)] [] [] (mkC ra rb rc re rf rg σ) (fun _ _ => rfl) ?_
  exact k_cj_fill_21_b5 n d q _ _ _ _ _ _ _ _ _ _ _ h
set_option maxRecDepth 100000 in
theorem k_cj_fill_22_b5 (n d : Nat) (q : bS) : ∀ (k : Nat) (x1 : Int32) (x2 : Int32) (x3 : Int32) (ra : Nat) (rb : Nat) (rc : Nat) (re : Nat) (rf : Value) (rg : Value) (σ : bS), cj_fill_22_b5 n k x1 x2 x3 σ = some q → bfr MT (d + 0) M_J7_fill_53178 5 [some (.ref 22), some (.int x1), some (.int x2), some (.int x3)] [] [] (mkC ra rb rc re rf rg σ) (none, mkC ra rb rc re rf rg q) := by
  intro k
  induction k with
  | zero => intro x1 x2 x3 ra rb rc re rf rg σ h; exact bno h
  | succ k ih =>
    intro x1 x2 x3 ra rb rc re rf rg σ h
    unfold cj_fill_22_b5 at h
    refine bfr_br 3 (pc1 := 20) (L1 := [some (.ref 22), some (.int x1), some (.int x2), some (.int x3)]) (J1 := []) (st1 := []) (w1 := mkC ra rb rc re rf rg σ) (pc2 := 10) (L2 := [some (.ref 22), some (.int x1), some (.int x2), some (.int x3)]) (J2 := []) (st2 := []) (w2 := mkC ra rb rc re rf rg σ) (fun _ _ => rfl) h (fun h => ?_) (fun h => ?_)
    · cases h
      exact bfr_ret 1 (fun _ _ => rfl)
    · refine bfr_in (i := x2) (m := 4) 4 (pc1 := 14) (L1 := [some (.ref 22), some (.int x1), some (.int x2), some (.int x3)]) (J1 := []) (st1 := []) (w1 := ((mkC ra rb rc re rf rg σ).set 22 (.inl (0, 4, upd (σ.2.1 22) (x2).toNatClampNeg x1)))) (fun _ _ => rfl) h (fun h => ?_)
      rw [mkC_A22]
      refine bfr_run 1 17 [some (.ref 22), some (.int x1), some (.int (x2 + ci_1)), some (.int x3)] [] [] (mkC ra rb rc re rf rg (uA σ 22 x2 x1)) (fun _ _ => rfl) ?_
      refine bfr_run 1 5 [some (.ref 22), some (.int x1), some (.int (x2 + ci_1)), some (.int x3)] [] [] (mkC ra rb rc re rf rg (uA σ 22 x2 x1)) (fun _ _ => rfl) ?_
      exact ih _ _ _ _ _ _ _ _ _ _ h
set_option maxRecDepth 100000 in
theorem k_cj_fill_22 (n d : Nat) (q : bS) (x1 : Int32) (ra : Nat) (rb : Nat) (rc : Nat) (re : Nat) (rf : Value) (rg : Value) (σ : bS) (h : cj_fill_22 n x1 σ = some q) : bfr MT (d + 0) M_J7_fill_53178 0 [some (.ref 22), some (.int x1), none, none] [] [] (mkC ra rb rc re rf rg σ) (none, mkC ra rb rc re rf rg q) := by
  unfold cj_fill_22 at h
  refine bfr_run 5 5 [some (.ref 22), some (.int x1), some (.int ci_0), some (.int cn_4)] [] [] (mkC ra rb rc re rf rg σ) (fun _ _ => rfl) ?_
  exact k_cj_fill_22_b5 n d q _ _ _ _ _ _ _ _ _ _ _ h
set_option maxRecDepth 100000 in
theorem k_cTold_clear_s (n d : Nat) (q : bS) (ra : Nat) (rb : Nat) (rc : Nat) (re : Nat) (rf : Value) (rg : Value) (σ : bS) (h : cTold_clear_s n σ = some q) : bfr MT (d + 1) M_X9_clear 0 [some (.ref 14)] [] [] (mkC ra rb rc re rf rg σ) (none, mkC ra rb rc re rf rg q) := by
  unfold cTold_clear_s at h
  refine bfr_run 3 5 [some (.ref 14)] [] [] ((mkC ra rb rc re rf rg σ).set 14 (.inr (.inr (9, (mkC_14  ra rb rc re rf rg σ).set 0 (.int ci_0))))) (fun _ _ => rfl) ?_
  rw [mkC_I14_0]
  refine bfr_run 3 10 [some (.ref 14)] [] [] ((mkC ra rb rc re rf rg (uI σ 14 0 ci_0)).set 14 (.inr (.inr (9, (mkC_14  ra rb rc re rf rg (uI σ 14 0 ci_0)).set 1 (.int ci_0))))) (fun _ _ => rfl) ?_
  rw [mkC_I14_1]
  refine bfr_run 3 15 [some (.ref 14)] [] [] ((mkC ra rb rc re rf rg (uI (uI σ 14 0 ci_0) 14 1 ci_0)).set 14 (.inr (.inr (9, (mkC_14  ra rb rc re rf rg (uI (uI σ 14 0 ci_0) 14 1 ci_0)).set 2 (.int ci_0))))) (fun _ _ => rfl) ?_
  rw [mkC_I14_2]
  refine bfr_run 3 20 [some (.ref 14)] [] [] ((mkC ra rb rc re rf rg (uI (uI (uI σ 14 0 ci_0) 14 1 ci_0) 14 2 ci_0)).set 14 (.inr (.inr (9, (mkC_14  ra rb rc re rf rg (uI (uI (uI σ 14 0 ci_0) 14 1 ci_0) 14 2 ci_0)).set 3 (.int ci_0))))) (fun _ _ => rfl) ?_
  rw [mkC_I14_3]
  refine bfr_call 4 (d1 := d + 0) (M1 := M_J7_fill_53178) (vs := [(.ref 15), (.int ci_0)]) (w1 := mkC ra rb rc re rf rg (uI (uI (uI (uI σ 14 0 ci_0) 14 1 ci_0) 14 2 ci_0) 14 3 ci_0)) (pc2 := 28) (L2 := [some (.ref 14)]) (J2 := []) (rest := []) (fun _ => none) (fun a => mkC ra rb rc re rf rg a) (fun _ _ => rfl) h (fun a ha => k_cj_fill_15 n (d + 0) _ _ _ _ _ _ _ _ _ ha) (fun q1 _ h => ?_)
  refine bfr_call 4 (d1 := d + 0) (M1 := M_J7_fill_53178) (vs := [(.ref 21), (.int ci_m1)]) (w1 := mkC ra rb rc re rf rg q1) (pc2 := 36) (L2 := [some (.ref 14)]) (J2 := []) (rest := []) (fun _ => none) (fun a => mkC ra rb rc re rf rg a) (fun _ _ => rfl) h (fun a ha => k_cj_fill_21 n (d + 0) _ _ _ _ _ _ _ _ _ ha) (fun q2 _ h => ?_)
  refine bfr_call 4 (d1 := d + 0) (M1 := M_J7_fill_53178) (vs := [(.ref 22), (.int ci_m1)]) (w1 := mkC ra rb rc re rf rg q2) (pc2 := 44) (L2 := [some (.ref 14)]) (J2 := []) (rest := []) (fun _ => none) (fun a => mkC ra rb rc re rf rg a) (fun _ _ => rfl) h (fun a ha => k_cj_fill_22 n (d + 0) _ _ _ _ _ _ _ _ _ ha) (fun q3 _ h => ?_)
  refine bfr_run 3 49 [some (.ref 14)] [] [] ((mkC ra rb rc re rf rg q3).set 14 (.inr (.inr (9, (mkC_14  ra rb rc re rf rg q3).set 12 (.int ci_m1))))) (fun _ _ => rfl) ?_
  rw [mkC_I14_12]
  refine bfr_run 3 54 [some (.ref 14)] [] [] ((mkC ra rb rc re rf rg (uI q3 14 12 ci_m1)).set 14 (.inr (.inr (9, (mkC_14  ra rb rc re rf rg (uI q3 14 12 ci_m1)).set 13 (.int ci_m1))))) (fun _ _ => rfl) ?_
  rw [mkC_I14_13]
  refine bfr_run 3 59 [some (.ref 14)] [] [] ((mkC ra rb rc re rf rg (uI (uI q3 14 12 ci_m1) 14 13 ci_m1)).set 14 (.inr (.inr (9, (mkC_14  ra rb rc re rf rg (uI (uI q3 14 12 ci_m1) 14 13 ci_m1)).set 14 (.int ci_m1))))) (fun _ _ => rfl) ?_
  rw [mkC_I14_14]
  refine bfr_run 3 64 [some (.ref 14)] [] [] ((mkC ra rb rc re rf rg (uI (uI (uI q3 14 12 ci_m1) 14 13 ci_m1) 14 14 ci_m1)).set 14 (.inr (.inr (9, (mkC_14  ra rb rc re rf rg (uI (uI (uI q3 14 12 ci_m1) 14 13 ci_m1) 14 14 ci_m1)).set 15 (.int ci_m1))))) (fun _ _ => rfl) ?_
  rw [mkC_I14_15]
  refine bfr_run 3 69 [some (.ref 14)] [] [] ((mkC ra rb rc re rf rg (uI (uI (uI (uI q3 14 12 ci_m1) 14 13 ci_m1) 14 14 ci_m1) 14 15 ci_m1)).set 14 (.inr (.inr (9, (mkC_14  ra rb rc re rf rg (uI (uI (uI (uI q3 14 12 ci_m1) 14 13 ci_m1) 14 14 ci_m1) 14 15 ci_m1)).set 16 (.int ci_0))))) (fun _ _ => rfl) ?_
  rw [mkC_I14_16]
  refine bfr_run 3 74 [some (.ref 14)] [] [] ((mkC ra rb rc re rf rg (uI (uI (uI (uI (uI q3 14 12 ci_m1) 14 13 ci_m1) 14 14 ci_m1) 14 15 ci_m1) 14 16 ci_0)).set 14 (.inr (.inr (9, (mkC_14  ra rb rc re rf rg (uI (uI (uI (uI (uI q3 14 12 ci_m1) 14 13 ci_m1) 14 14 ci_m1) 14 15 ci_m1) 14 16 ci_0)).set 17 (.int ci_5))))) (fun _ _ => rfl) ?_
  rw [mkC_I14_17]
  refine bfr_run 3 79 [some (.ref 14)] [] [] ((mkC ra rb rc re rf rg (uI (uI (uI (uI (uI (uI q3 14 12 ci_m1) 14 13 ci_m1) 14 14 ci_m1) 14 15 ci_m1) 14 16 ci_0) 14 17 ci_5)).set 14 (.inr (.inr (9, (mkC_14  ra rb rc re rf rg (uI (uI (uI (uI (uI (uI q3 14 12 ci_m1) 14 13 ci_m1) 14 14 ci_m1) 14 15 ci_m1) 14 16 ci_0) 14 17 ci_5)).set 18 (.int ci_0))))) (fun _ _ => rfl) ?_
  rw [mkC_I14_18]
  refine bfr_run 4 87 [some (.ref 14)] [] [] ((mkC ra rb rc re rf rg (uI (uI (uI (uI (uI (uI (uI q3 14 12 ci_m1) 14 13 ci_m1) 14 14 ci_m1) 14 15 ci_m1) 14 16 ci_0) 14 17 ci_5) 14 18 ci_0)).set 23 (.inr (.inr (2, (mkC_23  ra rb rc re rf rg (uI (uI (uI (uI (uI (uI (uI q3 14 12 ci_m1) 14 13 ci_m1) 14 14 ci_m1) 14 15 ci_m1) 14 16 ci_0) 14 17 ci_5) 14 18 ci_0)).set 3 (.int ci_0))))) (fun _ _ => rfl) ?_
  rw [mkC_I23_3]
  cases h
  exact bfr_ret 1 (fun _ _ => rfl)
set_option maxRecDepth 100000 in
theorem k_cReader_begin_14_43 (n d : Nat) (q : bS) (x3 : Int32) (ra : Nat) (rb : Nat) (rc : Nat) (re : Nat) (rf : Value) (rg : Value) (σ : bS) (h : cReader_begin_14_43 n x3 σ = some q) : bfr MT (d + 4) M_X4_begin 0 [some (.ref 44), some (.ref 14), some (.ref 43), some (.int x3)] [] [] (mkC ra rb rc re rf rg σ) (none, mkC ra rb rc re (.ref 14) (.ref 23) q) := by
  unfold cReader_begin_14_43 at h
  refine bfr_call 5 (d1 := d + 3) (M1 := M_X8_cut) (vs := [(.ref 49), (.ref 43), (.int x3)]) (w1 := mkC ra rb rc re rf rg σ) (pc2 := 9) (L2 := [some (.ref 44), some (.ref 14), some (.ref 43), some (.int x3)]) (J2 := []) (rest := []) (fun _ => none) (fun a => mkC ra rb rc re rf rg a) (fun _ _ => rfl) h (fun a ha => k_cTokens_cut_43 n (d + 0) _ _ _ _ _ _ _ _ _ ha) (fun q1 _ h => ?_)
  refine bfr_run 3 14 [some (.ref 44), some (.ref 14), some (.ref 43), some (.int x3)] [] [] ((mkC ra rb rc re rf rg q1).set 44 (.inr (.inr (4, (mkC_44 ra rb rc re rf rg q1).set 2 (.ref 14))))) (fun _ _ => rfl) ?_
  rw [mkC_R4]
  refine bfr_call 3 (d1 := d + 3) (M1 := M_X9_clear) (vs := [(.ref 14)]) (w1 := mkC ra rb rc re (.ref 14) rg q1) (pc2 := 21) (L2 := [some (.ref 44), some (.ref 14), some (.ref 43), some (.int x3)]) (J2 := []) (rest := []) (fun _ => none) (fun a => mkC ra rb rc re (.ref 14) rg a) (fun _ _ => rfl) h (fun a ha => k_cTold_clear_s n (d + 2) _ _ _ _ _ _ _ _ ha) (fun q2 _ h => ?_)
  refine bfr_run 5 32 [some (.ref 44), some (.ref 14), some (.ref 43), some (.int x3)] [] [] ((mkC ra rb rc re (.ref 14) rg q2).set 44 (.inr (.inr (4, (mkC_44 ra rb rc re (.ref 14) rg q2).set 3 (.ref 23))))) (fun _ _ => rfl) ?_
  rw [mkC_R5]
  refine bfr_run 3 37 [some (.ref 44), some (.ref 14), some (.ref 43), some (.int x3)] [] [] ((mkC ra rb rc re (.ref 14) (.ref 23) q2).set 44 (.inr (.inr (4, (mkC_44  ra rb rc re (.ref 14) (.ref 23) q2).set 4 (.int ci_0))))) (fun _ _ => rfl) ?_
  rw [mkC_I44_4]
  refine bfr_run 3 42 [some (.ref 44), some (.ref 14), some (.ref 43), some (.int x3)] [] [] ((mkC ra rb rc re (.ref 14) (.ref 23) (uI q2 44 4 ci_0)).set 44 (.inr (.inr (4, (mkC_44  ra rb rc re (.ref 14) (.ref 23) (uI q2 44 4 ci_0)).set 5 (.int ci_0))))) (fun _ _ => rfl) ?_
  rw [mkC_I44_5]
  refine bfr_run 3 47 [some (.ref 44), some (.ref 14), some (.ref 43), some (.int x3)] [] [] ((mkC ra rb rc re (.ref 14) (.ref 23) (uI (uI q2 44 4 ci_0) 44 5 ci_0)).set 44 (.inr (.inr (4, (mkC_44  ra rb rc re (.ref 14) (.ref 23) (uI (uI q2 44 4 ci_0) 44 5 ci_0)).set 6 (.int ci_0))))) (fun _ _ => rfl) ?_
  rw [mkC_I44_6]
  refine bfr_run 3 52 [some (.ref 44), some (.ref 14), some (.ref 43), some (.int x3)] [] [] ((mkC ra rb rc re (.ref 14) (.ref 23) (uI (uI (uI q2 44 4 ci_0) 44 5 ci_0) 44 6 ci_0)).set 44 (.inr (.inr (4, (mkC_44  ra rb rc re (.ref 14) (.ref 23) (uI (uI (uI q2 44 4 ci_0) 44 5 ci_0) 44 6 ci_0)).set 11 (.int ci_0))))) (fun _ _ => rfl) ?_
  rw [mkC_I44_11]
  cases h
  exact bfr_ret 1 (fun _ _ => rfl)
set_option maxRecDepth 100000 in
theorem k_cReader_kind (n d : Nat) (q : (Int32 × bS)) (ra : Nat) (rb : Nat) (rc : Nat) (re : Nat) (rf : Value) (rg : Value) (σ : bS) (h : cReader_kind n σ = some q) : bfr MT (d + 0) M_X4_kind 0 [some (.ref 44)] [] [] (mkC ra rb rc re rf rg σ) (some (.int q.1), mkC ra rb rc re rf rg q.2) := by
  unfold cReader_kind at h
  refine bfr_in (i := (sI σ 44 4)) (m := 401) 6 (pc1 := 12) (L1 := [some (.ref 44)]) (J1 := []) (st1 := [(.int (sA σ 51 (sI σ 44 4)))]) (w1 := mkC ra rb rc re rf rg σ) (fun _ _ => rfl) h (fun h => ?_)
  cases h
  exact bfr_ret 1 (fun _ _ => rfl)
set_option maxRecDepth 100000 in
theorem k_cReader_fail_b28 (n d : Nat) (q : bS) (o0 : Option Value) (o1 : Option Value) (ra : Nat) (rb : Nat) (rc : Nat) (re : Nat) (rf : Value) (rg : Value) (σ : bS) (h : cReader_fail_b28 n σ = some q) : bfr MT (d + 0) M_X4_fail 28 [o0, o1] [] [] (mkC ra rb rc re rf rg σ) (none, mkC ra rb rc re rf rg q) := by
  unfold cReader_fail_b28 at h
  cases h
  exact bfr_ret 1 (fun _ _ => rfl)
set_option maxRecDepth 100000 in
theorem k_cReader_fail (n d : Nat) (q : bS) (x1 : Int32) (ra : Nat) (rb : Nat) (rc : Nat) (re : Nat) (rf : Value) (rg : Value) (σ : bS) (h : cReader_fail n x1 σ = some q) : bfr MT (d + 0) M_X4_fail 0 [some (.ref 44), some (.int x1)] [] [] (mkC ra rb rc re rf rg σ) (none, mkC ra rb rc re rf rg q) := by
  unfold cReader_fail at h
  refine bfr_br 3 (pc1 := 7) (L1 := [some (.ref 44), some (.int x1)]) (J1 := []) (st1 := []) (w1 := mkC ra rb rc re rf rg σ) (pc2 := 28) (L2 := [some (.ref 44), some (.int x1)]) (J2 := []) (st2 := []) (w2 := mkC ra rb rc re rf rg σ) (fun _ _ => rfl) h (fun h => ?_) (fun h => ?_)
  · refine bfr_run 3 12 [some (.ref 44), some (.int x1)] [] [] ((mkC ra rb rc re rf rg σ).set 44 (.inr (.inr (4, (mkC_44  ra rb rc re rf rg σ).set 5 (.int x1))))) (fun _ _ => rfl) ?_
    rw [mkC_I44_5]
    refine bfr_run 6 24 [some (.ref 44), some (.int x1)] [] [(.int (sI (uI σ 44 5 x1) 44 4)), (.ref 53), (.ref 44)] (mkC ra rb rc re rf rg (uI σ 44 5 x1)) (fun _ _ => rfl) ?_
    refine bfr_in (i := (sI (uI σ 44 5 x1) 44 4)) (m := 401) 1 (pc1 := 25) (L1 := [some (.ref 44), some (.int x1)]) (J1 := []) (st1 := [(.int (sA (uI σ 44 5 x1) 53 (sI (uI σ 44 5 x1) 44 4))), (.ref 44)]) (w1 := mkC ra rb rc re rf rg (uI σ 44 5 x1)) (fun _ _ => rfl) h (fun h => ?_)
    refine bfr_run 1 28 [some (.ref 44), some (.int x1)] [] [] ((mkC ra rb rc re rf rg (uI σ 44 5 x1)).set 44 (.inr (.inr (4, (mkC_44  ra rb rc re rf rg (uI σ 44 5 x1)).set 0 (.int (sA (uI σ 44 5 x1) 53 (sI (uI σ 44 5 x1) 44 4))))))) (fun _ _ => rfl) ?_
    rw [mkC_I44_0]
    exact k_cReader_fail_b28 n d q _ _ _ _ _ _ _ _ _ h
  · exact k_cReader_fail_b28 n d q _ _ _ _ _ _ _ _ _ h
set_option maxRecDepth 100000 in
theorem k_cReader_take_b62 (n d : Nat) (q : bS) (o0 : Option Value) (o1 : Option Value) (o2 : Option Value) (ra : Nat) (rb : Nat) (rc : Nat) (re : Nat) (rf : Value) (rg : Value) (σ : bS) (h : cReader_take_b62 n σ = some q) : bfr MT (d + 1) M_X4_take 62 [o0, o1, o2] [] [] (mkC ra rb rc re rf rg σ) (none, mkC ra rb rc re rf rg q) := by
  unfold cReader_take_b62 at h
  cases h
  exact bfr_ret 1 (fun _ _ => rfl)
set_option maxRecDepth 100000 in
theorem k_cReader_take_b59 (n d : Nat) (q : bS) (s1 : Int32) (o0 : Option Value) (o1 : Option Value) (o2 : Option Value) (ra : Nat) (rb : Nat) (rc : Nat) (re : Nat) (rf : Value) (rg : Value) (σ : bS) (h : cReader_take_b59 n s1 σ = some q) : bfr MT (d + 1) M_X4_take 59 [o0, o1, o2] [] [(.int s1), (.ref 44)] (mkC ra rb rc re rf rg σ) (none, mkC ra rb rc re rf rg q) := by
  unfold cReader_take_b59 at h
  refine bfr_call 1 (d1 := d + 0) (M1 := M_X4_fail) (vs := [(.ref 44), (.int s1)]) (w1 := mkC ra rb rc re rf rg σ) (pc2 := 62) (L2 := [o0, o1, o2]) (J2 := []) (rest := []) (fun _ => none) (fun a => mkC ra rb rc re rf rg a) (fun _ _ => rfl) h (fun a ha => k_cReader_fail n (d + 0) _ _ _ _ _ _ _ _ _ ha) (fun q1 _ h => ?_)
  exact k_cReader_take_b62 n d q _ _ _ _ _ _ _ _ _ _ h
set_option maxRecDepth 100000 in
theorem k_cReader_take_b49 (n d : Nat) (q : bS) (x2 : Int32) (o1 : Option Value) (ra : Nat) (rb : Nat) (rc : Nat) (re : Nat) (rf : Value) (rg : Value) (σ : bS) (h : cReader_take_b49 n x2 σ = some q) : bfr MT (d + 1) M_X4_take 49 [some (.ref 44), o1, some (.int x2)] [] [] (mkC ra rb rc re rf rg σ) (none, mkC ra rb rc re rf rg q) := by
  unfold cReader_take_b49 at h
  refine bfr_br 3 (pc1 := 58) (L1 := [some (.ref 44), o1, some (.int x2)]) (J1 := []) (st1 := [(.ref 44)]) (w1 := mkC ra rb rc re rf rg σ) (pc2 := 54) (L2 := [some (.ref 44), o1, some (.int x2)]) (J2 := []) (st2 := [(.ref 44)]) (w2 := mkC ra rb rc re rf rg σ) (fun _ _ => rfl) h (fun h => ?_) (fun h => ?_)
  · refine bfr_run 1 59 [some (.ref 44), o1, some (.int x2)] [] [(.int ci_1), (.ref 44)] (mkC ra rb rc re rf rg σ) (fun _ _ => rfl) ?_
    exact k_cReader_take_b59 n d q _ _ _ _ _ _ _ _ _ _ _ h
  · refine bfr_run 2 59 [some (.ref 44), o1, some (.int x2)] [] [(.int ci_2), (.ref 44)] (mkC ra rb rc re rf rg σ) (fun _ _ => rfl) ?_
    exact k_cReader_take_b59 n d q _ _ _ _ _ _ _ _ _ _ _ h
set_option maxRecDepth 100000 in
theorem k_cReader_take_b21 (n d : Nat) (q : bS) (s0 : Int32) (o1 : Option Value) (o2 : Option Value) (ra : Nat) (rb : Nat) (rc : Nat) (re : Nat) (rf : Value) (rg : Value) (σ : bS) (h : cReader_take_b21 n s0 σ = some q) : bfr MT (d + 1) M_X4_take 21 [some (.ref 44), o1, o2] [] [(.int s0)] (mkC ra rb rc re rf rg σ) (none, mkC ra rb rc re rf rg q) := by
  unfold cReader_take_b21 at h
  refine bfr_br 3 (pc1 := 49) (L1 := [some (.ref 44), o1, some (.int s0)]) (J1 := []) (st1 := []) (w1 := mkC ra rb rc re rf rg σ) (pc2 := 26) (L2 := [some (.ref 44), o1, some (.int s0)]) (J2 := []) (st2 := []) (w2 := mkC ra rb rc re rf rg σ) (fun _ _ => rfl) h (fun h => ?_) (fun h => ?_)
  · exact k_cReader_take_b49 n d q _ _ _ _ _ _ _ _ _ h
  · refine bfr_br 4 (pc1 := 49) (L1 := [some (.ref 44), o1, some (.int s0)]) (J1 := []) (st1 := []) (w1 := mkC ra rb rc re rf rg σ) (pc2 := 36) (L2 := [some (.ref 44), o1, some (.int s0)]) (J2 := []) (st2 := []) (w2 := mkC ra rb rc re rf rg σ) (fun _ _ => rfl) h (fun h => ?_) (fun h => ?_)
    · exact k_cReader_take_b49 n d q _ _ _ _ _ _ _ _ _ h
    · refine bfr_run 6 46 [some (.ref 44), o1, some (.int s0)] [] [] ((mkC ra rb rc re rf rg σ).set 44 (.inr (.inr (4, (mkC_44  ra rb rc re rf rg σ).set 4 (.int ((sI σ 44 4) + ci_1)))))) (fun _ _ => rfl) ?_
      rw [mkC_I44_4]
      refine bfr_run 1 62 [some (.ref 44), o1, some (.int s0)] [] [] (mkC ra rb rc re rf rg (uI σ 44 4 ((sI σ 44 4) + ci_1))) (fun _ _ => rfl) ?_
      exact k_cReader_take_b62 n d q _ _ _ _ _ _ _ _ _ _ h
set_option maxRecDepth 100000 in
theorem k_cReader_take (n d : Nat) (q : bS) (x1 : Int32) (ra : Nat) (rb : Nat) (rc : Nat) (re : Nat) (rf : Value) (rg : Value) (σ : bS) (h : cReader_take n x1 σ = some q) : bfr MT (d + 1) M_X4_take 0 [some (.ref 44), some (.int x1), none] [] [] (mkC ra rb rc re rf rg σ) (none, mkC ra rb rc re rf rg q) := by
  unfold cReader_take at h
  refine bfr_br 3 (pc1 := 8) (L1 := [some (.ref 44), some (.int x1), none]) (J1 := []) (st1 := []) (w1 := mkC ra rb rc re rf rg σ) (pc2 := 7) (L2 := [some (.ref 44), some (.int x1), none]) (J2 := []) (st2 := []) (w2 := mkC ra rb rc re rf rg σ) (fun _ _ => rfl) h (fun h => ?_) (fun h => ?_)
  · refine bfr_call 2 (d1 := d + 0) (M1 := M_X4_kind) (vs := [(.ref 44)]) (w1 := mkC ra rb rc re rf rg σ) (pc2 := 12) (L2 := [some (.ref 44), some (.int x1), none]) (J2 := []) (rest := []) (fun a => some (.int a.1)) (fun a => mkC ra rb rc re rf rg a.2) (fun _ _ => rfl) h (fun a ha => k_cReader_kind n (d + 0) _ _ _ _ _ _ _ _ ha) (fun q2 _ h => ?_)
    refine bfr_br 2 (pc1 := 16) (L1 := [some (.ref 44), some (.int x1), none]) (J1 := []) (st1 := []) (w1 := mkC ra rb rc re rf rg q2.2) (pc2 := 20) (L2 := [some (.ref 44), some (.int x1), none]) (J2 := []) (st2 := []) (w2 := mkC ra rb rc re rf rg q2.2) (fun _ _ => rfl) h (fun h => ?_) (fun h => ?_)
    · refine bfr_run 2 21 [some (.ref 44), some (.int x1), none] [] [(.int ci_1)] (mkC ra rb rc re rf rg q2.2) (fun _ _ => rfl) ?_
      exact k_cReader_take_b21 n d q _ _ _ _ _ _ _ _ _ _ h
    · refine bfr_run 1 21 [some (.ref 44), some (.int x1), none] [] [(.int ci_0)] (mkC ra rb rc re rf rg q2.2) (fun _ _ => rfl) ?_
      exact k_cReader_take_b21 n d q _ _ _ _ _ _ _ _ _ _ h
  · cases h
    exact bfr_ret 1 (fun _ _ => rfl)
set_option maxRecDepth 100000 in
theorem k_cReader_note_b25 (n d : Nat) (q : bS) (o0 : Option Value) (o1 : Option Value) (o2 : Option Value) (ra : Nat) (rb : Nat) (rc : Nat) (re : Nat) (rf : Value) (rg : Value) (σ : bS) (h : cReader_note_b25 n σ = some q) : bfr MT (d + 0) M_X4_note 25 [o0, o1, o2] [] [] (mkC ra rb rc re rf rg σ) (none, mkC ra rb rc re rf rg q) := by
  unfold cReader_note_b25 at h
  cases h
  exact bfr_ret 1 (fun _ _ => rfl)
set_option maxRecDepth 100000 in
theorem k_cReader_note (n d : Nat) (q : bS) (x1 : Int32) (x2 : Int32) (ra : Nat) (rb : Nat) (rc : Nat) (re : Nat) (rf : Value) (rg : Value) (σ : bS) (h : cReader_note n x1 x2 σ = some q) : bfr MT (d + 0) M_X4_note 0 [some (.ref 44), some (.int x1), some (.int x2)] [] [] (mkC ra rb rc re rf rg σ) (none, mkC ra rb rc re rf rg q) := by
  unfold cReader_note at h
  refine bfr_br 3 (pc1 := 7) (L1 := [some (.ref 44), some (.int x1), some (.int x2)]) (J1 := []) (st1 := []) (w1 := mkC ra rb rc re rf rg σ) (pc2 := 25) (L2 := [some (.ref 44), some (.int x1), some (.int x2)]) (J2 := []) (st2 := []) (w2 := mkC ra rb rc re rf rg σ) (fun _ _ => rfl) h (fun h => ?_) (fun h => ?_)
  · refine bfr_run 3 12 [some (.ref 44), some (.int x1), some (.int x2)] [] [] ((mkC ra rb rc re rf rg σ).set 44 (.inr (.inr (4, (mkC_44  ra rb rc re rf rg σ).set 6 (.int x1))))) (fun _ _ => rfl) ?_
    rw [mkC_I44_6]
    refine bfr_in (i := x2) (m := 401) 6 (pc1 := 22) (L1 := [some (.ref 44), some (.int x1), some (.int x2)]) (J1 := []) (st1 := [(.int (sA (uI σ 44 6 x1) 53 x2)), (.ref 44)]) (w1 := mkC ra rb rc re rf rg (uI σ 44 6 x1)) (fun _ _ => rfl) h (fun h => ?_)
    refine bfr_run 1 25 [some (.ref 44), some (.int x1), some (.int x2)] [] [] ((mkC ra rb rc re rf rg (uI σ 44 6 x1)).set 44 (.inr (.inr (4, (mkC_44  ra rb rc re rf rg (uI σ 44 6 x1)).set 7 (.int (sA (uI σ 44 6 x1) 53 x2)))))) (fun _ _ => rfl) ?_
    rw [mkC_I44_7]
    exact k_cReader_note_b25 n d q _ _ _ _ _ _ _ _ _ _ h
  · exact k_cReader_note_b25 n d q _ _ _ _ _ _ _ _ _ _ h
set_option maxRecDepth 100000 in
theorem k_cReader_takeInt_b51 (n d : Nat) (q : (Int32 × bS)) (x3 : Int32) (o0 : Option Value) (o1 : Option Value) (o2 : Option Value) (o4 : Option Value) (ra : Nat) (rb : Nat) (rc : Nat) (re : Nat) (rf : Value) (rg : Value) (σ : bS) (h : cReader_takeInt_b51 n x3 σ = some q) : bfr MT (d + 2) M_X4_takeInt 51 [o0, o1, o2, some (.int x3), o4] [] [] (mkC ra rb rc re rf rg σ) (some (.int q.1), mkC ra rb rc re rf rg q.2) := by
  unfold cReader_takeInt_b51 at h
  cases h
  exact bfr_ret 2 (fun _ _ => rfl)
set_option maxRecDepth 100000 in
theorem k_cReader_takeInt_b44 (n d : Nat) (q : (Int32 × bS)) (x3 : Int32) (x4 : Int32) (o1 : Option Value) (o2 : Option Value) (ra : Nat) (rb : Nat) (rc : Nat) (re : Nat) (rf : Value) (rg : Value) (σ : bS) (h : cReader_takeInt_b44 n x3 x4 σ = some q) : bfr MT (d + 2) M_X4_takeInt 44 [some (.ref 44), o1, o2, some (.int x3), some (.int x4)] [] [] (mkC ra rb rc re rf rg σ) (some (.int q.1), mkC ra rb rc re rf rg q.2) := by
  unfold cReader_takeInt_b44 at h
  refine bfr_call 4 (d1 := d + 1) (M1 := M_X4_note) (vs := [(.ref 44), (.int ci_5), (.int x4)]) (w1 := mkC ra rb rc re rf rg σ) (pc2 := 51) (L2 := [some (.ref 44), o1, o2, some (.int x3), some (.int x4)]) (J2 := []) (rest := []) (fun _ => none) (fun a => mkC ra rb rc re rf rg a) (fun _ _ => rfl) h (fun a ha => k_cReader_note n (d + 1) _ _ _ _ _ _ _ _ _ _ ha) (fun q1 _ h => ?_)
  exact k_cReader_takeInt_b51 n d q _ _ _ _ _ _ _ _ _ _ _ _ h
set_option maxRecDepth 100000 in
theorem k_cReader_takeInt (n d : Nat) (q : (Int32 × bS)) (x1 : Int32) (x2 : Int32) (ra : Nat) (rb : Nat) (rc : Nat) (re : Nat) (rf : Value) (rg : Value) (σ : bS) (h : cReader_takeInt n x1 x2 σ = some q) : bfr MT (d + 2) M_X4_takeInt 0 [some (.ref 44), some (.int x1), some (.int x2), none, none] [] [] (mkC ra rb rc re rf rg σ) (some (.int q.1), mkC ra rb rc re rf rg q.2) := by
  unfold cReader_takeInt at h
  refine bfr_in (i := (sI σ 44 4)) (m := 401) 6 (pc1 := 12) (L1 := [some (.ref 44), some (.int x1), some (.int x2), none, none]) (J1 := []) (st1 := [(.long (sJ σ 52 (sI σ 44 4)))]) (w1 := mkC ra rb rc re rf rg σ) (fun _ _ => rfl) h (fun h => ?_)
  refine bfr_run 6 21 [some (.ref 44), some (.int x1), some (.int x2), some (.int ((sJ σ 52 (sI σ 44 4))).toInt32), some (.int (sI σ 44 4))] [] [(.ref 44)] (mkC ra rb rc re rf rg σ) (fun _ _ => rfl) ?_
  refine bfr_call 2 (d1 := d + 1) (M1 := M_X4_take) (vs := [(.ref 44), (.int ci_3)]) (w1 := mkC ra rb rc re rf rg σ) (pc2 := 25) (L2 := [some (.ref 44), some (.int x1), some (.int x2), some (.int ((sJ σ 52 (sI σ 44 4))).toInt32), some (.int (sI σ 44 4))]) (J2 := []) (rest := []) (fun _ => none) (fun a => mkC ra rb rc re rf rg a) (fun _ _ => rfl) h (fun a ha => k_cReader_take n (d + 0) _ _ _ _ _ _ _ _ _ ha) (fun q2 _ h => ?_)
  refine bfr_br 3 (pc1 := 34) (L1 := [some (.ref 44), some (.int x1), some (.int x2), some (.int ((sJ σ 52 (sI σ 44 4))).toInt32), some (.int (sI σ 44 4))]) (J1 := []) (st1 := []) (w1 := mkC ra rb rc re rf rg q2) (pc2 := 32) (L2 := [some (.ref 44), some (.int x1), some (.int x2), some (.int ((sJ σ 52 (sI σ 44 4))).toInt32), some (.int (sI σ 44 4))]) (J2 := []) (st2 := []) (w2 := mkC ra rb rc re rf rg q2) (fun _ _ => rfl) h (fun h => ?_) (fun h => ?_)
  · refine bfr_br 3 (pc1 := 44) (L1 := [some (.ref 44), some (.int x1), some (.int x2), some (.int ((sJ σ 52 (sI σ 44 4))).toInt32), some (.int (sI σ 44 4))]) (J1 := []) (st1 := []) (w1 := mkC ra rb rc re rf rg q2) (pc2 := 39) (L2 := [some (.ref 44), some (.int x1), some (.int x2), some (.int ((sJ σ 52 (sI σ 44 4))).toInt32), some (.int (sI σ 44 4))]) (J2 := []) (st2 := []) (w2 := mkC ra rb rc re rf rg q2) (fun _ _ => rfl) h (fun h => ?_) (fun h => ?_)
    · exact k_cReader_takeInt_b44 n d q _ _ _ _ _ _ _ _ _ _ _ h
    · refine bfr_br 3 (pc1 := 51) (L1 := [some (.ref 44), some (.int x1), some (.int x2), some (.int ((sJ σ 52 (sI σ 44 4))).toInt32), some (.int (sI σ 44 4))]) (J1 := []) (st1 := []) (w1 := mkC ra rb rc re rf rg q2) (pc2 := 44) (L2 := [some (.ref 44), some (.int x1), some (.int x2), some (.int ((sJ σ 52 (sI σ 44 4))).toInt32), some (.int (sI σ 44 4))]) (J2 := []) (st2 := []) (w2 := mkC ra rb rc re rf rg q2) (fun _ _ => rfl) h (fun h => ?_) (fun h => ?_)
      · exact k_cReader_takeInt_b51 n d q _ _ _ _ _ _ _ _ _ _ _ _ h
      · exact k_cReader_takeInt_b44 n d q _ _ _ _ _ _ _ _ _ _ _ h
  · cases h
    exact bfr_ret 2 (fun _ _ => rfl)
set_option maxRecDepth 100000 in
theorem k_cReader_takeSetting (n d : Nat) (q : (Int32 × bS)) (x1 : Int32) (x2 : Int32) (ra : Nat) (rb : Nat) (rc : Nat) (re : Nat) (rf : Value) (rg : Value) (σ : bS) (h : cReader_takeSetting n x1 x2 σ = some q) : bfr MT (d + 3) M_X4_takeSetting 0 [some (.ref 44), some (.int x1), some (.int x2), none] [] [] (mkC ra rb rc re rf rg σ) (some (.int q.1), mkC ra rb rc re rf rg q.2) := by
  unfold cReader_takeSetting at h
  refine bfr_call 3 (d1 := d + 2) (M1 := M_X4_take) (vs := [(.ref 44), (.int x1)]) (w1 := mkC ra rb rc re rf rg σ) (pc2 := 5) (L2 := [some (.ref 44), some (.int x1), some (.int x2), none]) (J2 := []) (rest := []) (fun _ => none) (fun a => mkC ra rb rc re rf rg a) (fun _ _ => rfl) h (fun a ha => k_cReader_take n (d + 1) _ _ _ _ _ _ _ _ _ ha) (fun q1 _ h => ?_)
  refine bfr_call 4 (d1 := d + 2) (M1 := M_X4_takeInt) (vs := [(.ref 44), (.int ci_0), (.int x2)]) (w1 := mkC ra rb rc re rf rg q1) (pc2 := 11) (L2 := [some (.ref 44), some (.int x1), some (.int x2), none]) (J2 := []) (rest := []) (fun a => some (.int a.1)) (fun a => mkC ra rb rc re rf rg a.2) (fun _ _ => rfl) h (fun a ha => k_cReader_takeInt n (d + 0) _ _ _ _ _ _ _ _ _ _ ha) (fun q2 _ h => ?_)
  refine bfr_call 4 (d1 := d + 2) (M1 := M_X4_take) (vs := [(.ref 44), (.int ci_4)]) (w1 := mkC ra rb rc re rf rg q2.2) (pc2 := 17) (L2 := [some (.ref 44), some (.int x1), some (.int x2), some (.int q2.1)]) (J2 := []) (rest := []) (fun _ => none) (fun a => mkC ra rb rc re rf rg a) (fun _ _ => rfl) h (fun a ha => k_cReader_take n (d + 1) _ _ _ _ _ _ _ _ _ ha) (fun q3 _ h => ?_)
  cases h
  exact bfr_ret 2 (fun _ _ => rfl)
set_option maxRecDepth 100000 in
theorem k_cReader_weightOf_b21 (n d : Nat) (q : (Int32 × bS)) (s0 : Int32) (o0 : Option Value) (ra : Nat) (rb : Nat) (rc : Nat) (re : Nat) (rf : Value) (rg : Value) (σ : bS) (h : cReader_weightOf_b21 n s0 σ = some q) : bfr MT (d + 0) M_X4_weightOf 21 [o0] [] [(.int s0)] (mkC ra rb rc re rf rg σ) (some (.int q.1), mkC ra rb rc re rf rg q.2) := by
  unfold cReader_weightOf_b21 at h
  cases h
  exact bfr_ret 1 (fun _ _ => rfl)
set_option maxRecDepth 100000 in
theorem k_cReader_weightOf (n d : Nat) (q : (Int32 × bS)) (x0 : Int32) (ra : Nat) (rb : Nat) (rc : Nat) (re : Nat) (rf : Value) (rg : Value) (σ : bS) (h : cReader_weightOf n x0 σ = some q) : bfr MT (d + 0) M_X4_weightOf 0 [some (.int x0)] [] [] (mkC ra rb rc re rf rg σ) (some (.int q.1), mkC ra rb rc re rf rg q.2) := by
  unfold cReader_weightOf at h
  refine bfr_br 3 (pc1 := 6) (L1 := [some (.int x0)]) (J1 := []) (st1 := []) (w1 := mkC ra rb rc re rf rg σ) (pc2 := 10) (L2 := [some (.int x0)]) (J2 := []) (st2 := []) (w2 := mkC ra rb rc re rf rg σ) (fun _ _ => rfl) h (fun h => ?_) (fun h => ?_)
  · refine bfr_run 2 21 [some (.int x0)] [] [(.int ci_0)] (mkC ra rb rc re rf rg σ) (fun _ _ => rfl) ?_
    exact k_cReader_weightOf_b21 n d q _ _ _ _ _ _ _ _ _ h
  · refine bfr_br 3 (pc1 := 20) (L1 := [some (.int x0)]) (J1 := []) (st1 := []) (w1 := mkC ra rb rc re rf rg σ) (pc2 := 16) (L2 := [some (.int x0)]) (J2 := []) (st2 := []) (w2 := mkC ra rb rc re rf rg σ) (fun _ _ => rfl) h (fun h => ?_) (fun h => ?_)
    · refine bfr_run 1 21 [some (.int x0)] [] [(.int ci_2)] (mkC ra rb rc re rf rg σ) (fun _ _ => rfl) ?_
      exact k_cReader_weightOf_b21 n d q _ _ _ _ _ _ _ _ _ h
    · refine bfr_run 2 21 [some (.int x0)] [] [(.int ci_1)] (mkC ra rb rc re rf rg σ) (fun _ _ => rfl) ?_
      exact k_cReader_weightOf_b21 n d q _ _ _ _ _ _ _ _ _ h
set_option maxRecDepth 100000 in
theorem k_cLaws_add_s_b45 (n d : Nat) (q : (Int32 × bS)) (s0 : Int32) (o0 : Option Value) (o1 : Option Value) (o2 : Option Value) (ra : Nat) (rb : Nat) (rc : Nat) (re : Nat) (rf : Value) (rg : Value) (σ : bS) (h : cLaws_add_s_b45 n s0 σ = some q) : bfr MT (d + 0) M_X2_add 45 [o0, o1, o2] [] [(.int s0)] (mkC ra rb rc re rf rg σ) (some (.int q.1), mkC ra rb rc re rf rg q.2) := by
  unfold cLaws_add_s_b45 at h
  cases h
  exact bfr_ret 1 (fun _ _ => rfl)
set_option maxRecDepth 100000 in
theorem k_cLaws_add_s (n d : Nat) (q : (Int32 × bS)) (x1 : Int32) (x2 : Int32) (ra : Nat) (rb : Nat) (rc : Nat) (re : Nat) (rf : Value) (rg : Value) (σ : bS) (h : cLaws_add_s n x1 x2 σ = some q) : bfr MT (d + 0) M_X2_add 0 [some (.ref 23), some (.int x1), some (.int x2)] [] [] (mkC ra rb rc re rf rg σ) (some (.int q.1), mkC ra rb rc re rf rg q.2) := by
  unfold cLaws_add_s at h
  refine bfr_br 6 (pc1 := 14) (L1 := [some (.ref 23), some (.int x1), some (.int x2)]) (J1 := []) (st1 := []) (w1 := mkC ra rb rc re rf rg σ) (pc2 := 12) (L2 := [some (.ref 23), some (.int x1), some (.int x2)]) (J2 := []) (st2 := []) (w2 := mkC ra rb rc re rf rg σ) (fun _ _ => rfl) h (fun h => ?_) (fun h => ?_)
  · refine bfr_run 6 25 [some (.ref 23), some (.int x1), some (.int x2)] [] [(.int cb_8), (.int x2), (.int (sI σ 23 3)), (.ref 24)] (mkC ra rb rc re rf rg σ) (fun _ _ => rfl) ?_
    refine bfr_in (i := (sI σ 23 3)) (m := 402) 4 (pc1 := 29) (L1 := [some (.ref 23), some (.int x1), some (.int x2)]) (J1 := []) (st1 := []) (w1 := ((mkC ra rb rc re rf rg σ).set 24 (.inl (0, 402, upd (σ.2.1 24) ((sI σ 23 3)).toNatClampNeg ((x2 * cb_8) + x1))))) (fun _ _ => rfl) h (fun h => ?_)
    rw [mkC_A24]
    refine bfr_run 6 39 [some (.ref 23), some (.int x1), some (.int x2)] [] [] ((mkC ra rb rc re rf rg (uA σ 24 (sI σ 23 3) ((x2 * cb_8) + x1))).set 23 (.inr (.inr (2, (mkC_23  ra rb rc re rf rg (uA σ 24 (sI σ 23 3) ((x2 * cb_8) + x1))).set 3 (.int ((sI (uA σ 24 (sI σ 23 3) ((x2 * cb_8) + x1)) 23 3) + ci_1)))))) (fun _ _ => rfl) ?_
    rw [mkC_I23_3]
    refine bfr_run 4 45 [some (.ref 23), some (.int x1), some (.int x2)] [] [(.int ((sI (uI (uA σ 24 (sI σ 23 3) ((x2 * cb_8) + x1)) 23 3 ((sI (uA σ 24 (sI σ 23 3) ((x2 * cb_8) + x1)) 23 3) + ci_1)) 23 3) - ci_1))] (mkC ra rb rc re rf rg (uI (uA σ 24 (sI σ 23 3) ((x2 * cb_8) + x1)) 23 3 ((sI (uA σ 24 (sI σ 23 3) ((x2 * cb_8) + x1)) 23 3) + ci_1))) (fun _ _ => rfl) ?_
    exact k_cLaws_add_s_b45 n d q _ _ _ _ _ _ _ _ _ _ _ h
  · cases h
    exact bfr_ret 2 (fun _ _ => rfl)
set_option maxRecDepth 100000 in
theorem k_cReader_settleSigns_b63 (n d : Nat) (q : bS) (o0 : Option Value) (o1 : Option Value) (ra : Nat) (rb : Nat) (rc : Nat) (re : Nat) (rf : Value) (σ : bS) (h : cReader_settleSigns_b63 n σ = some q) : bfr MT (d + 1) M_X4_settleSigns 63 [o0, o1] [] [] (mkC ra rb rc re rf (.ref 23) σ) (none, mkC ra rb rc re rf (.ref 23) q) := by
  unfold cReader_settleSigns_b63 at h
  cases h
  exact bfr_ret 1 (fun _ _ => rfl)
set_option maxRecDepth 100000 in
theorem k_cReader_settleSigns_b57 (n d : Nat) (r0 : Int32 → bS → Option bS) (q : bS) (hr0 : ∀ (x1 : Int32) (ra : Nat) (rb : Nat) (rc : Nat) (re : Nat) (rf : Value) (σ : bS), r0 x1 σ = some q → bfr MT (d + 1) M_X4_settleSigns 0 [some (.ref 44), some (.int x1)] [] [] (mkC ra rb rc re rf (.ref 23) σ) (none, mkC ra rb rc re rf (.ref 23) q)) (x1 : Int32) (s1 : Int32) (ra : Nat) (rb : Nat) (rc : Nat) (re : Nat) (rf : Value) (σ : bS) (h : cReader_settleSigns_b57 n r0 x1 s1 σ = some q) : bfr MT (d + 1) M_X4_settleSigns 57 [some (.ref 44), some (.int x1)] [] [(.int s1), (.ref 44)] (mkC ra rb rc re rf (.ref 23) σ) (none, mkC ra rb rc re rf (.ref 23) q) := by
  unfold cReader_settleSigns_b57 at h
  refine bfr_run 1 60 [some (.ref 44), some (.int x1)] [] [] ((mkC ra rb rc re rf (.ref 23) σ).set 44 (.inr (.inr (4, (mkC_44  ra rb rc re rf (.ref 23) σ).set 13 (.int s1))))) (fun _ _ => rfl) ?_
  rw [mkC_I44_13]
  refine bfr_run 1 0 [some (.ref 44), some (.int x1)] [] [] (mkC ra rb rc re rf (.ref 23) (uI σ 44 13 s1)) (fun _ _ => rfl) ?_
  exact hr0 _ _ _ _ _ _ _ h
set_option maxRecDepth 100000 in
theorem k_cReader_settleSigns_b45 (n d : Nat) (r0 : Int32 → bS → Option bS) (q : bS) (hr0 : ∀ (x1 : Int32) (ra : Nat) (rb : Nat) (rc : Nat) (re : Nat) (rf : Value) (σ : bS), r0 x1 σ = some q → bfr MT (d + 1) M_X4_settleSigns 0 [some (.ref 44), some (.int x1)] [] [] (mkC ra rb rc re rf (.ref 23) σ) (none, mkC ra rb rc re rf (.ref 23) q)) (x1 : Int32) (s1 : Int32) (ra : Nat) (rb : Nat) (rc : Nat) (re : Nat) (rf : Value) (σ : bS) (h : cReader_settleSigns_b45 n r0 x1 s1 σ = some q) : bfr MT (d + 1) M_X4_settleSigns 45 [some (.ref 44), some (.int x1)] [] [(.int s1), (.ref 23)] (mkC ra rb rc re rf (.ref 23) σ) (none, mkC ra rb rc re rf (.ref 23) q) := by
  unfold cReader_settleSigns_b45 at h
  refine bfr_call 2 (d1 := d + 0) (M1 := M_X2_add) (vs := [(.ref 23), (.int s1), (.int ci_0)]) (w1 := mkC ra rb rc re rf (.ref 23) σ) (pc2 := 49) (L2 := [some (.ref 44), some (.int x1)]) (J2 := []) (rest := []) (fun a => some (.int a.1)) (fun a => mkC ra rb rc re rf (.ref 23) a.2) (fun _ _ => rfl) h (fun a ha => k_cLaws_add_s n (d + 0) _ _ _ _ _ _ _ _ _ _ ha) (fun q1 _ h => ?_)
  refine bfr_run 6 57 [some (.ref 44), some (.int x1)] [] [(.int ((sI q1.2 44 13) - ci_1)), (.ref 44)] (mkC ra rb rc re rf (.ref 23) q1.2) (fun _ _ => rfl) ?_
  exact k_cReader_settleSigns_b57 n d _ q hr0 _ _ _ _ _ _ _ _ h
set_option maxRecDepth 100000 in
theorem k_cReader_settleSigns_b40 (n d : Nat) (r0 : Int32 → bS → Option bS) (q : bS) (hr0 : ∀ (x1 : Int32) (ra : Nat) (rb : Nat) (rc : Nat) (re : Nat) (rf : Value) (σ : bS), r0 x1 σ = some q → bfr MT (d + 1) M_X4_settleSigns 0 [some (.ref 44), some (.int x1)] [] [] (mkC ra rb rc re rf (.ref 23) σ) (none, mkC ra rb rc re rf (.ref 23) q)) (x1 : Int32) (s1 : Int32) (s3 : Int32) (ra : Nat) (rb : Nat) (rc : Nat) (re : Nat) (rf : Value) (σ : bS) (h : cReader_settleSigns_b40 n r0 x1 s1 s3 σ = some q) : bfr MT (d + 1) M_X4_settleSigns 40 [some (.ref 44), some (.int x1)] [] [(.int s3), (.ref 48), (.int s1), (.ref 23)] (mkC ra rb rc re rf (.ref 23) σ) (none, mkC ra rb rc re rf (.ref 23) q) := by
  unfold cReader_settleSigns_b40 at h
  refine bfr_in (i := s3) (m := 20) 1 (pc1 := 41) (L1 := [some (.ref 44), some (.int x1)]) (J1 := []) (st1 := [(.int (sA σ 48 s3)), (.int s1), (.ref 23)]) (w1 := mkC ra rb rc re rf (.ref 23) σ) (fun _ _ => rfl) h (fun h => ?_)
  refine bfr_run 3 45 [some (.ref 44), some (.int x1)] [] [(.int ((s1 + (sA σ 48 s3)) - cb_6)), (.ref 23)] (mkC ra rb rc re rf (.ref 23) σ) (fun _ _ => rfl) ?_
  exact k_cReader_settleSigns_b45 n d _ q hr0 _ _ _ _ _ _ _ _ h
set_option maxRecDepth 100000 in
theorem k_cReader_settleSigns_b17 (n d : Nat) (r0 : Int32 → bS → Option bS) (q : bS) (hr0 : ∀ (x1 : Int32) (ra : Nat) (rb : Nat) (rc : Nat) (re : Nat) (rf : Value) (σ : bS), r0 x1 σ = some q → bfr MT (d + 1) M_X4_settleSigns 0 [some (.ref 44), some (.int x1)] [] [] (mkC ra rb rc re rf (.ref 23) σ) (none, mkC ra rb rc re rf (.ref 23) q)) (x1 : Int32) (s1 : Int32) (ra : Nat) (rb : Nat) (rc : Nat) (re : Nat) (rf : Value) (σ : bS) (h : cReader_settleSigns_b17 n r0 x1 s1 σ = some q) : bfr MT (d + 1) M_X4_settleSigns 17 [some (.ref 44), some (.int x1)] [] [(.int s1), (.ref 48)] (mkC ra rb rc re rf (.ref 23) σ) (none, mkC ra rb rc re rf (.ref 23) q) := by
  unfold cReader_settleSigns_b17 at h
  refine bfr_in (i := s1) (m := 20) 1 (pc1 := 18) (L1 := [some (.ref 44), some (.int x1)]) (J1 := []) (st1 := [(.int (sA σ 48 s1))]) (w1 := mkC ra rb rc re rf (.ref 23) σ) (fun _ _ => rfl) h (fun h => ?_)
  refine bfr_call 1 (d1 := d + 0) (M1 := M_X4_weightOf) (vs := [(.int (sA σ 48 s1))]) (w1 := mkC ra rb rc re rf (.ref 23) σ) (pc2 := 21) (L2 := [some (.ref 44), some (.int x1)]) (J2 := []) (rest := []) (fun a => some (.int a.1)) (fun a => mkC ra rb rc re rf (.ref 23) a.2) (fun _ _ => rfl) h (fun a ha => k_cReader_weightOf n (d + 0) _ _ _ _ _ _ _ _ _ ha) (fun q2 _ h => ?_)
  refine bfr_br 2 (pc1 := 63) (L1 := [some (.ref 44), some (.int x1)]) (J1 := []) (st1 := []) (w1 := mkC ra rb rc re rf (.ref 23) q2.2) (pc2 := 25) (L2 := [some (.ref 44), some (.int x1)]) (J2 := []) (st2 := []) (w2 := mkC ra rb rc re rf (.ref 23) q2.2) (fun _ _ => rfl) h (fun h => ?_) (fun h => ?_)
  · exact k_cReader_settleSigns_b63 n d q _ _ _ _ _ _ _ _ h
  · refine bfr_run 6 35 [some (.ref 44), some (.int x1)] [] [(.ref 44), (.ref 48), (.int ci_2), (.ref 23)] (mkC ra rb rc re rf (.ref 23) q2.2) (fun _ _ => rfl) ?_
    refine bfr_run 3 40 [some (.ref 44), some (.int x1)] [] [(.int ((sI q2.2 44 13) - ci_1)), (.ref 48), (.int ci_2), (.ref 23)] (mkC ra rb rc re rf (.ref 23) q2.2) (fun _ _ => rfl) ?_
    exact k_cReader_settleSigns_b40 n d _ q hr0 _ _ _ _ _ _ _ _ _ h
set_option maxRecDepth 100000 in
theorem k_cReader_settleSigns_b0 (n d : Nat) (q : bS) : ∀ (k : Nat) (x1 : Int32) (ra : Nat) (rb : Nat) (rc : Nat) (re : Nat) (rf : Value) (σ : bS), cReader_settleSigns_b0 n k x1 σ = some q → bfr MT (d + 1) M_X4_settleSigns 0 [some (.ref 44), some (.int x1)] [] [] (mkC ra rb rc re rf (.ref 23) σ) (none, mkC ra rb rc re rf (.ref 23) q) := by
  intro k
  induction k with
  | zero => intro x1 ra rb rc re rf σ h; exact bno h
  | succ k ih =>
    intro x1 ra rb rc re rf σ h
    unfold cReader_settleSigns_b0 at h
    refine bfr_br 3 (pc1 := 63) (L1 := [some (.ref 44), some (.int x1)]) (J1 := []) (st1 := []) (w1 := mkC ra rb rc re rf (.ref 23) σ) (pc2 := 7) (L2 := [some (.ref 44), some (.int x1)]) (J2 := []) (st2 := []) (w2 := mkC ra rb rc re rf (.ref 23) σ) (fun _ _ => rfl) h (fun h => ?_) (fun h => ?_)
    · exact k_cReader_settleSigns_b63 n d q _ _ _ _ _ _ _ _ h
    · refine bfr_run 6 17 [some (.ref 44), some (.int x1)] [] [(.int ((sI σ 44 13) - ci_1)), (.ref 48)] (mkC ra rb rc re rf (.ref 23) σ) (fun _ _ => rfl) ?_
      exact k_cReader_settleSigns_b17 n d _ q (ih) _ _ _ _ _ _ _ _ h
theorem k_cReader_settleSigns (n d : Nat) (q : bS) (x1 : Int32) (ra : Nat) (rb : Nat) (rc : Nat) (re : Nat) (rf : Value) (σ : bS) (h : cReader_settleSigns n x1 σ = some q) : bfr MT (d + 1) M_X4_settleSigns 0 [some (.ref 44), some (.int x1)] [] [] (mkC ra rb rc re rf (.ref 23) σ) (none, mkC ra rb rc re rf (.ref 23) q) := k_cReader_settleSigns_b0 n d q _ _ _ _ _ _ _ _ h
set_option maxRecDepth 100000 in
theorem k_cReader_takeUnit_b72 (n d : Nat) (q : bS) (o0 : Option Value) (o1 : Option Value) (ra : Nat) (rb : Nat) (rc : Nat) (re : Nat) (rf : Value) (σ : bS) (h : cReader_takeUnit_b72 n σ = some q) : bfr MT (d + 2) M_X4_takeUnit 72 [o0, o1] [] [] (mkC ra rb rc re rf (.ref 23) σ) (none, mkC ra rb rc re rf (.ref 23) q) := by
  unfold cReader_takeUnit_b72 at h
  cases h
  exact bfr_ret 1 (fun _ _ => rfl)
set_option maxRecDepth 100000 in
theorem k_cReader_takeUnit_b55 (n d : Nat) (q : bS) (x1 : Int32) (s1 : Int32) (s2 : Int32) (ra : Nat) (rb : Nat) (rc : Nat) (re : Nat) (rf : Value) (σ : bS) (h : cReader_takeUnit_b55 n x1 s1 s2 σ = some q) : bfr MT (d + 2) M_X4_takeUnit 55 [some (.ref 44), some (.int x1)] [] [(.int s2), (.int s1), (.ref 23)] (mkC ra rb rc re rf (.ref 23) σ) (none, mkC ra rb rc re rf (.ref 23) q) := by
  unfold cReader_takeUnit_b55 at h
  refine bfr_call 1 (d1 := d + 1) (M1 := M_X2_add) (vs := [(.ref 23), (.int s1), (.int s2)]) (w1 := mkC ra rb rc re rf (.ref 23) σ) (pc2 := 58) (L2 := [some (.ref 44), some (.int x1)]) (J2 := []) (rest := []) (fun a => some (.int a.1)) (fun a => mkC ra rb rc re rf (.ref 23) a.2) (fun _ _ => rfl) h (fun a ha => k_cLaws_add_s n (d + 1) _ _ _ _ _ _ _ _ _ _ ha) (fun q1 _ h => ?_)
  refine bfr_call 4 (d1 := d + 1) (M1 := M_X4_take) (vs := [(.ref 44), (.int x1)]) (w1 := mkC ra rb rc re rf (.ref 23) q1.2) (pc2 := 64) (L2 := [some (.ref 44), some (.int x1)]) (J2 := []) (rest := []) (fun _ => none) (fun a => mkC ra rb rc re rf (.ref 23) a) (fun _ _ => rfl) h (fun a ha => k_cReader_take n (d + 0) _ _ _ _ _ _ _ _ _ ha) (fun q2 _ h => ?_)
  refine bfr_run 1 72 [some (.ref 44), some (.int x1)] [] [] (mkC ra rb rc re rf (.ref 23) q2) (fun _ _ => rfl) ?_
  exact k_cReader_takeUnit_b72 n d q _ _ _ _ _ _ _ _ h
set_option maxRecDepth 100000 in
theorem k_cReader_takeUnit (n d : Nat) (q : bS) (ra : Nat) (rb : Nat) (rc : Nat) (re : Nat) (rf : Value) (σ : bS) (h : cReader_takeUnit n σ = some q) : bfr MT (d + 2) M_X4_takeUnit 0 [some (.ref 44), none] [] [] (mkC ra rb rc re rf (.ref 23) σ) (none, mkC ra rb rc re rf (.ref 23) q) := by
  unfold cReader_takeUnit at h
  refine bfr_call 2 (d1 := d + 1) (M1 := M_X4_kind) (vs := [(.ref 44)]) (w1 := mkC ra rb rc re rf (.ref 23) σ) (pc2 := 4) (L2 := [some (.ref 44), none]) (J2 := []) (rest := []) (fun a => some (.int a.1)) (fun a => mkC ra rb rc re rf (.ref 23) a.2) (fun _ _ => rfl) h (fun a ha => k_cReader_kind n (d + 1) _ _ _ _ _ _ _ _ ha) (fun q3 _ h => ?_)
  refine bfr_br 4 (pc1 := 10) (L1 := [some (.ref 44), some (.int q3.1)]) (J1 := []) (st1 := []) (w1 := mkC ra rb rc re rf (.ref 23) q3.2) (pc2 := 40) (L2 := [some (.ref 44), some (.int q3.1)]) (J2 := []) (st2 := []) (w2 := mkC ra rb rc re rf (.ref 23) q3.2) (fun _ _ => rfl) h (fun h => ?_) (fun h => ?_)
  · refine bfr_run 6 22 [some (.ref 44), some (.int q3.1)] [] [(.ref 52), (.int ci_0), (.ref 23)] (mkC ra rb rc re rf (.ref 23) q3.2) (fun _ _ => rfl) ?_
    refine bfr_in (i := (sI q3.2 44 4)) (m := 401) 3 (pc1 := 27) (L1 := [some (.ref 44), some (.int q3.1)]) (J1 := []) (st1 := [(.long (sJ q3.2 52 (sI q3.2 44 4))), (.int ci_0), (.ref 23)]) (w1 := mkC ra rb rc re rf (.ref 23) q3.2) (fun _ _ => rfl) h (fun h => ?_)
    refine bfr_call 2 (d1 := d + 1) (M1 := M_X2_add) (vs := [(.ref 23), (.int ci_0), (.int ((sJ q3.2 52 (sI q3.2 44 4))).toInt32)]) (w1 := mkC ra rb rc re rf (.ref 23) q3.2) (pc2 := 31) (L2 := [some (.ref 44), some (.int q3.1)]) (J2 := []) (rest := []) (fun a => some (.int a.1)) (fun a => mkC ra rb rc re rf (.ref 23) a.2) (fun _ _ => rfl) h (fun a ha => k_cLaws_add_s n (d + 1) _ _ _ _ _ _ _ _ _ _ ha) (fun q4 _ h => ?_)
    refine bfr_call 4 (d1 := d + 1) (M1 := M_X4_take) (vs := [(.ref 44), (.int q3.1)]) (w1 := mkC ra rb rc re rf (.ref 23) q4.2) (pc2 := 37) (L2 := [some (.ref 44), some (.int q3.1)]) (J2 := []) (rest := []) (fun _ => none) (fun a => mkC ra rb rc re rf (.ref 23) a) (fun _ _ => rfl) h (fun a ha => k_cReader_take n (d + 0) _ _ _ _ _ _ _ _ _ ha) (fun q5 _ h => ?_)
    refine bfr_run 1 72 [some (.ref 44), some (.int q3.1)] [] [] (mkC ra rb rc re rf (.ref 23) q5) (fun _ _ => rfl) ?_
    exact k_cReader_takeUnit_b72 n d q _ _ _ _ _ _ _ _ h
  · refine bfr_br 3 (pc1 := 67) (L1 := [some (.ref 44), some (.int q3.1)]) (J1 := []) (st1 := []) (w1 := mkC ra rb rc re rf (.ref 23) q3.2) (pc2 := 46) (L2 := [some (.ref 44), some (.int q3.1)]) (J2 := []) (st2 := []) (w2 := mkC ra rb rc re rf (.ref 23) q3.2) (fun _ _ => rfl) h (fun h => ?_) (fun h => ?_)
    · refine bfr_call 3 (d1 := d + 1) (M1 := M_X4_fail) (vs := [(.ref 44), (.int ci_1)]) (w1 := mkC ra rb rc re rf (.ref 23) q3.2) (pc2 := 72) (L2 := [some (.ref 44), some (.int q3.1)]) (J2 := []) (rest := []) (fun _ => none) (fun a => mkC ra rb rc re rf (.ref 23) a) (fun _ _ => rfl) h (fun a ha => k_cReader_fail n (d + 1) _ _ _ _ _ _ _ _ _ ha) (fun q6 _ h => ?_)
      exact k_cReader_takeUnit_b72 n d q _ _ _ _ _ _ _ _ h
    · refine bfr_run 6 55 [some (.ref 44), some (.int q3.1)] [] [(.int (q3.1 - cb_29)), (.int ci_1), (.ref 23)] (mkC ra rb rc re rf (.ref 23) q3.2) (fun _ _ => rfl) ?_
      exact k_cReader_takeUnit_b55 n d q _ _ _ _ _ _ _ _ _ h
set_option maxRecDepth 100000 in
theorem k_cj_max_b10 (n d : Nat) (q : (Int32 × bS)) (s0 : Int32) (o0 : Option Value) (o1 : Option Value) (ra : Nat) (rb : Nat) (rc : Nat) (re : Nat) (rf : Value) (rg : Value) (σ : bS) (h : cj_max_b10 n s0 σ = some q) : bfr MT (d + 0) M_J9_max_7cf53 10 [o0, o1] [] [(.int s0)] (mkC ra rb rc re rf rg σ) (some (.int q.1), mkC ra rb rc re rf rg q.2) := by
  unfold cj_max_b10 at h
  cases h
  exact bfr_ret 1 (fun _ _ => rfl)
set_option maxRecDepth 100000 in
theorem k_cj_max (n d : Nat) (q : (Int32 × bS)) (x0 : Int32) (x1 : Int32) (ra : Nat) (rb : Nat) (rc : Nat) (re : Nat) (rf : Value) (rg : Value) (σ : bS) (h : cj_max n x0 x1 σ = some q) : bfr MT (d + 0) M_J9_max_7cf53 0 [some (.int x0), some (.int x1)] [] [] (mkC ra rb rc re rf rg σ) (some (.int q.1), mkC ra rb rc re rf rg q.2) := by
  unfold cj_max at h
  refine bfr_br 3 (pc1 := 9) (L1 := [some (.int x0), some (.int x1)]) (J1 := []) (st1 := []) (w1 := mkC ra rb rc re rf rg σ) (pc2 := 5) (L2 := [some (.int x0), some (.int x1)]) (J2 := []) (st2 := []) (w2 := mkC ra rb rc re rf rg σ) (fun _ _ => rfl) h (fun h => ?_) (fun h => ?_)
  · refine bfr_run 1 10 [some (.int x0), some (.int x1)] [] [(.int x1)] (mkC ra rb rc re rf rg σ) (fun _ _ => rfl) ?_
    exact k_cj_max_b10 n d q _ _ _ _ _ _ _ _ _ _ h
  · refine bfr_run 2 10 [some (.int x0), some (.int x1)] [] [(.int x0)] (mkC ra rb rc re rf rg σ) (fun _ _ => rfl) ?_
    exact k_cj_max_b10 n d q _ _ _ _ _ _ _ _ _ _ h
set_option maxRecDepth 100000 in
theorem k_cReader_takeCloses_b53 (n d : Nat) (q : (Int32 × bS)) (x2 : Int32) (o0 : Option Value) (o1 : Option Value) (ra : Nat) (rb : Nat) (rc : Nat) (re : Nat) (rf : Value) (σ : bS) (h : cReader_takeCloses_b53 n x2 σ = some q) : bfr MT (d + 2) M_X4_takeCloses 53 [o0, o1, some (.int x2)] [] [] (mkC ra rb rc re rf (.ref 23) σ) (some (.int q.1), mkC ra rb rc re rf (.ref 23) q.2) := by
  unfold cReader_takeCloses_b53 at h
  cases h
  exact bfr_ret 2 (fun _ _ => rfl)
set_option maxRecDepth 100000 in
theorem k_cReader_takeCloses_b50 (n d : Nat) (r2 : Int32 → bS → Option (Int32 × bS)) (q : (Int32 × bS)) (hr2 : ∀ (x2 : Int32) (o1 : Option Value) (ra : Nat) (rb : Nat) (rc : Nat) (re : Nat) (rf : Value) (σ : bS), r2 x2 σ = some q → bfr MT (d + 2) M_X4_takeCloses 2 [some (.ref 44), o1, some (.int x2)] [] [] (mkC ra rb rc re rf (.ref 23) σ) (some (.int q.1), mkC ra rb rc re rf (.ref 23) q.2)) (x2 : Int32) (o1 : Option Value) (ra : Nat) (rb : Nat) (rc : Nat) (re : Nat) (rf : Value) (σ : bS) (h : cReader_takeCloses_b50 n r2 x2 σ = some q) : bfr MT (d + 2) M_X4_takeCloses 50 [some (.ref 44), o1, some (.int x2)] [] [] (mkC ra rb rc re rf (.ref 23) σ) (some (.int q.1), mkC ra rb rc re rf (.ref 23) q.2) := by
  unfold cReader_takeCloses_b50 at h
  refine bfr_run 1 2 [some (.ref 44), o1, some (.int x2)] [] [] (mkC ra rb rc re rf (.ref 23) σ) (fun _ _ => rfl) ?_
  exact hr2 _ _ _ _ _ _ _ _ h
set_option maxRecDepth 100000 in
theorem k_cReader_takeCloses_b41 (n d : Nat) (r2 : Int32 → bS → Option (Int32 × bS)) (q : (Int32 × bS)) (hr2 : ∀ (x2 : Int32) (o1 : Option Value) (ra : Nat) (rb : Nat) (rc : Nat) (re : Nat) (rf : Value) (σ : bS), r2 x2 σ = some q → bfr MT (d + 2) M_X4_takeCloses 2 [some (.ref 44), o1, some (.int x2)] [] [] (mkC ra rb rc re rf (.ref 23) σ) (some (.int q.1), mkC ra rb rc re rf (.ref 23) q.2)) (x2 : Int32) (s1 : Int32) (s2 : Int32) (o1 : Option Value) (ra : Nat) (rb : Nat) (rc : Nat) (re : Nat) (rf : Value) (σ : bS) (h : cReader_takeCloses_b41 n r2 x2 s1 s2 σ = some q) : bfr MT (d + 2) M_X4_takeCloses 41 [some (.ref 44), o1, some (.int x2)] [] [(.int s2), (.int s1), (.ref 44)] (mkC ra rb rc re rf (.ref 23) σ) (some (.int q.1), mkC ra rb rc re rf (.ref 23) q.2) := by
  unfold cReader_takeCloses_b41 at h
  refine bfr_call 1 (d1 := d + 1) (M1 := M_J9_max_7cf53) (vs := [(.int s1), (.int s2)]) (w1 := mkC ra rb rc re rf (.ref 23) σ) (pc2 := 44) (L2 := [some (.ref 44), o1, some (.int x2)]) (J2 := []) (rest := [(.ref 44)]) (fun a => some (.int a.1)) (fun a => mkC ra rb rc re rf (.ref 23) a.2) (fun _ _ => rfl) h (fun a ha => k_cj_max n (d + 1) _ _ _ _ _ _ _ _ _ _ ha) (fun q1 _ h => ?_)
  refine bfr_run 1 47 [some (.ref 44), o1, some (.int x2)] [] [] ((mkC ra rb rc re rf (.ref 23) q1.2).set 44 (.inr (.inr (4, (mkC_44  ra rb rc re rf (.ref 23) q1.2).set 13 (.int q1.1))))) (fun _ _ => rfl) ?_
  rw [mkC_I44_13]
  refine bfr_run 1 50 [some (.ref 44), o1, some (.int (x2 + ci_m1))] [] [] (mkC ra rb rc re rf (.ref 23) (uI q1.2 44 13 q1.1)) (fun _ _ => rfl) ?_
  exact k_cReader_takeCloses_b50 n d _ q hr2 _ _ _ _ _ _ _ _ h
set_option maxRecDepth 100000 in
theorem k_cReader_takeCloses_b2 (n d : Nat) (q : (Int32 × bS)) : ∀ (k : Nat) (x2 : Int32) (o1 : Option Value) (ra : Nat) (rb : Nat) (rc : Nat) (re : Nat) (rf : Value) (σ : bS), cReader_takeCloses_b2 n k x2 σ = some q → bfr MT (d + 2) M_X4_takeCloses 2 [some (.ref 44), o1, some (.int x2)] [] [] (mkC ra rb rc re rf (.ref 23) σ) (some (.int q.1), mkC ra rb rc re rf (.ref 23) q.2) := by
  intro k
  induction k with
  | zero => intro x2 o1 ra rb rc re rf σ h; exact bno h
  | succ k ih =>
    intro x2 o1 ra rb rc re rf σ h
    unfold cReader_takeCloses_b2 at h
    refine bfr_br 2 (pc1 := 53) (L1 := [some (.ref 44), o1, some (.int x2)]) (J1 := []) (st1 := []) (w1 := mkC ra rb rc re rf (.ref 23) σ) (pc2 := 6) (L2 := [some (.ref 44), o1, some (.int x2)]) (J2 := []) (st2 := []) (w2 := mkC ra rb rc re rf (.ref 23) σ) (fun _ _ => rfl) h (fun h => ?_) (fun h => ?_)
    · exact k_cReader_takeCloses_b53 n d q _ _ _ _ _ _ _ _ _ h
    · refine bfr_br 3 (pc1 := 13) (L1 := [some (.ref 44), o1, some (.int x2)]) (J1 := []) (st1 := []) (w1 := mkC ra rb rc re rf (.ref 23) σ) (pc2 := 53) (L2 := [some (.ref 44), o1, some (.int x2)]) (J2 := []) (st2 := []) (w2 := mkC ra rb rc re rf (.ref 23) σ) (fun _ _ => rfl) h (fun h => ?_) (fun h => ?_)
      · refine bfr_call 2 (d1 := d + 1) (M1 := M_X4_kind) (vs := [(.ref 44)]) (w1 := mkC ra rb rc re rf (.ref 23) σ) (pc2 := 17) (L2 := [some (.ref 44), o1, some (.int x2)]) (J2 := []) (rest := []) (fun a => some (.int a.1)) (fun a => mkC ra rb rc re rf (.ref 23) a.2) (fun _ _ => rfl) h (fun a ha => k_cReader_kind n (d + 1) _ _ _ _ _ _ _ _ ha) (fun q2 _ h => ?_)
        refine bfr_br 2 (pc1 := 22) (L1 := [some (.ref 44), o1, some (.int x2)]) (J1 := []) (st1 := []) (w1 := mkC ra rb rc re rf (.ref 23) q2.2) (pc2 := 53) (L2 := [some (.ref 44), o1, some (.int x2)]) (J2 := []) (st2 := []) (w2 := mkC ra rb rc re rf (.ref 23) q2.2) (fun _ _ => rfl) h (fun h => ?_) (fun h => ?_)
        · refine bfr_call 3 (d1 := d + 1) (M1 := M_X4_take) (vs := [(.ref 44), (.int cb_12)]) (w1 := mkC ra rb rc re rf (.ref 23) q2.2) (pc2 := 28) (L2 := [some (.ref 44), o1, some (.int x2)]) (J2 := []) (rest := []) (fun _ => none) (fun a => mkC ra rb rc re rf (.ref 23) a) (fun _ _ => rfl) h (fun a ha => k_cReader_take n (d + 0) _ _ _ _ _ _ _ _ _ ha) (fun q3 _ h => ?_)
          refine bfr_call 3 (d1 := d + 1) (M1 := M_X4_settleSigns) (vs := [(.ref 44), (.int ci_1)]) (w1 := mkC ra rb rc re rf (.ref 23) q3) (pc2 := 33) (L2 := [some (.ref 44), o1, some (.int x2)]) (J2 := []) (rest := []) (fun _ => none) (fun a => mkC ra rb rc re rf (.ref 23) a) (fun _ _ => rfl) h (fun a ha => k_cReader_settleSigns n (d + 0) _ _ _ _ _ _ _ _ ha) (fun q4 _ h => ?_)
          refine bfr_run 6 41 [some (.ref 44), o1, some (.int x2)] [] [(.int ((sI q4 44 13) - ci_1)), (.int ci_0), (.ref 44)] (mkC ra rb rc re rf (.ref 23) q4) (fun _ _ => rfl) ?_
          exact k_cReader_takeCloses_b41 n d _ q (ih) _ _ _ _ _ _ _ _ _ _ h
        · exact k_cReader_takeCloses_b53 n d q _ _ _ _ _ _ _ _ _ h
      · exact k_cReader_takeCloses_b53 n d q _ _ _ _ _ _ _ _ _ h
set_option maxRecDepth 100000 in
theorem k_cReader_takeCloses (n d : Nat) (q : (Int32 × bS)) (x1 : Int32) (ra : Nat) (rb : Nat) (rc : Nat) (re : Nat) (rf : Value) (σ : bS) (h : cReader_takeCloses n x1 σ = some q) : bfr MT (d + 2) M_X4_takeCloses 0 [some (.ref 44), some (.int x1), none] [] [] (mkC ra rb rc re rf (.ref 23) σ) (some (.int q.1), mkC ra rb rc re rf (.ref 23) q.2) := by
  unfold cReader_takeCloses at h
  refine bfr_run 2 2 [some (.ref 44), some (.int x1), some (.int x1)] [] [] (mkC ra rb rc re rf (.ref 23) σ) (fun _ _ => rfl) ?_
  exact k_cReader_takeCloses_b2 n d q _ _ _ _ _ _ _ _ _ h
set_option maxRecDepth 100000 in
theorem k_cReader_takeSign_b35 (n d : Nat) (q : bS) (ra : Nat) (rb : Nat) (rc : Nat) (re : Nat) (rf : Value) (rg : Value) (σ : bS) (h : cReader_takeSign_b35 n σ = some q) : bfr MT (d + 2) M_X4_takeSign 35 [some (.ref 44)] [] [] (mkC ra rb rc re rf rg σ) (none, mkC ra rb rc re rf rg q) := by
  unfold cReader_takeSign_b35 at h
  refine bfr_call 3 (d1 := d + 1) (M1 := M_X4_kind) (vs := [(.ref 44)]) (w1 := mkC ra rb rc re rf rg σ) (pc2 := 40) (L2 := [some (.ref 44)]) (J2 := []) (rest := [(.ref 44)]) (fun a => some (.int a.1)) (fun a => mkC ra rb rc re rf rg a.2) (fun _ _ => rfl) h (fun a ha => k_cReader_kind n (d + 1) _ _ _ _ _ _ _ _ ha) (fun q1 _ h => ?_)
  refine bfr_call 1 (d1 := d + 1) (M1 := M_X4_take) (vs := [(.ref 44), (.int q1.1)]) (w1 := mkC ra rb rc re rf rg q1.2) (pc2 := 43) (L2 := [some (.ref 44)]) (J2 := []) (rest := []) (fun _ => none) (fun a => mkC ra rb rc re rf rg a) (fun _ _ => rfl) h (fun a ha => k_cReader_take n (d + 0) _ _ _ _ _ _ _ _ _ ha) (fun q2 _ h => ?_)
  cases h
  exact bfr_ret 1 (fun _ _ => rfl)
set_option maxRecDepth 100000 in
theorem k_cReader_takeSign (n d : Nat) (q : bS) (ra : Nat) (rb : Nat) (rc : Nat) (re : Nat) (rf : Value) (rg : Value) (σ : bS) (h : cReader_takeSign n σ = some q) : bfr MT (d + 2) M_X4_takeSign 0 [some (.ref 44)] [] [] (mkC ra rb rc re rf rg σ) (none, mkC ra rb rc re rf rg q) := by
  unfold cReader_takeSign at h
  refine bfr_br 6 (pc1 := 35) (L1 := [some (.ref 44)]) (J1 := []) (st1 := []) (w1 := mkC ra rb rc re rf rg σ) (pc2 := 12) (L2 := [some (.ref 44)]) (J2 := []) (st2 := []) (w2 := mkC ra rb rc re rf rg σ) (fun _ _ => rfl) h (fun h => ?_) (fun h => ?_)
  · exact k_cReader_takeSign_b35 n d q _ _ _ _ _ _ _ h
  · refine bfr_call 6 (d1 := d + 1) (M1 := M_X4_kind) (vs := [(.ref 44)]) (w1 := mkC ra rb rc re rf rg σ) (pc2 := 24) (L2 := [some (.ref 44)]) (J2 := []) (rest := [(.int (sI σ 44 13)), (.ref 48)]) (fun a => some (.int a.1)) (fun a => mkC ra rb rc re rf rg a.2) (fun _ _ => rfl) h (fun a ha => k_cReader_kind n (d + 1) _ _ _ _ _ _ _ _ ha) (fun q3 _ h => ?_)
    refine bfr_in (i := (sI σ 44 13)) (m := 20) 1 (pc1 := 25) (L1 := [some (.ref 44)]) (J1 := []) (st1 := []) (w1 := ((mkC ra rb rc re rf rg q3.2).set 48 (.inl (0, 20, upd (q3.2.2.1 48) ((sI σ 44 13)).toNatClampNeg q3.1)))) (fun _ _ => rfl) h (fun h => ?_)
    rw [mkC_A48]
    refine bfr_run 6 35 [some (.ref 44)] [] [] ((mkC ra rb rc re rf rg (uA q3.2 48 (sI σ 44 13) q3.1)).set 44 (.inr (.inr (4, (mkC_44  ra rb rc re rf rg (uA q3.2 48 (sI σ 44 13) q3.1)).set 13 (.int ((sI (uA q3.2 48 (sI σ 44 13) q3.1) 44 13) + ci_1)))))) (fun _ _ => rfl) ?_
    rw [mkC_I44_13]
    exact k_cReader_takeSign_b35 n d q _ _ _ _ _ _ _ h
set_option maxRecDepth 100000 in
theorem k_cReader_takeSum_b115 (n d : Nat) (q : bS) (o1 : Option Value) (o2 : Option Value) (ra : Nat) (rb : Nat) (rc : Nat) (re : Nat) (rf : Value) (σ : bS) (h : cReader_takeSum_b115 n σ = some q) : bfr MT (d + 3) M_X4_takeSum 115 [some (.ref 44), o1, o2] [] [] (mkC ra rb rc re rf (.ref 23) σ) (none, mkC ra rb rc re rf (.ref 23) q) := by
  unfold cReader_takeSum_b115 at h
  refine bfr_call 3 (d1 := d + 2) (M1 := M_X4_settleSigns) (vs := [(.ref 44), (.int ci_1)]) (w1 := mkC ra rb rc re rf (.ref 23) σ) (pc2 := 120) (L2 := [some (.ref 44), o1, o2]) (J2 := []) (rest := []) (fun _ => none) (fun a => mkC ra rb rc re rf (.ref 23) a) (fun _ _ => rfl) h (fun a ha => k_cReader_settleSigns n (d + 1) _ _ _ _ _ _ _ _ ha) (fun q1 _ h => ?_)
  cases h
  exact bfr_ret 1 (fun _ _ => rfl)
set_option maxRecDepth 100000 in
theorem k_cReader_takeSum_b105 (n d : Nat) (q : bS) (x1 : Int32) (o2 : Option Value) (ra : Nat) (rb : Nat) (rc : Nat) (re : Nat) (rf : Value) (σ : bS) (h : cReader_takeSum_b105 n x1 σ = some q) : bfr MT (d + 3) M_X4_takeSum 105 [some (.ref 44), some (.int x1), o2] [] [] (mkC ra rb rc re rf (.ref 23) σ) (none, mkC ra rb rc re rf (.ref 23) q) := by
  unfold cReader_takeSum_b105 at h
  refine bfr_br 2 (pc1 := 115) (L1 := [some (.ref 44), some (.int x1), o2]) (J1 := []) (st1 := []) (w1 := mkC ra rb rc re rf (.ref 23) σ) (pc2 := 109) (L2 := [some (.ref 44), some (.int x1), o2]) (J2 := []) (st2 := []) (w2 := mkC ra rb rc re rf (.ref 23) σ) (fun _ _ => rfl) h (fun h => ?_) (fun h => ?_)
  · exact k_cReader_takeSum_b115 n d q _ _ _ _ _ _ _ _ h
  · refine bfr_call 3 (d1 := d + 2) (M1 := M_X4_take) (vs := [(.ref 44), (.int cb_12)]) (w1 := mkC ra rb rc re rf (.ref 23) σ) (pc2 := 115) (L2 := [some (.ref 44), some (.int x1), o2]) (J2 := []) (rest := []) (fun _ => none) (fun a => mkC ra rb rc re rf (.ref 23) a) (fun _ _ => rfl) h (fun a ha => k_cReader_take n (d + 1) _ _ _ _ _ _ _ _ _ ha) (fun q2 _ h => ?_)
    exact k_cReader_takeSum_b115 n d q _ _ _ _ _ _ _ _ h
set_option maxRecDepth 100000 in
theorem k_cReader_takeSum_b99 (n d : Nat) (r9 : Int32 → Int32 → bS → Option bS) (q : bS) (hr9 : ∀ (x1 : Int32) (x2 : Int32) (ra : Nat) (rb : Nat) (rc : Nat) (re : Nat) (rf : Value) (σ : bS), r9 x1 x2 σ = some q → bfr MT (d + 3) M_X4_takeSum 9 [some (.ref 44), some (.int x1), some (.int x2)] [] [] (mkC ra rb rc re rf (.ref 23) σ) (none, mkC ra rb rc re rf (.ref 23) q)) (x1 : Int32) (x2 : Int32) (ra : Nat) (rb : Nat) (rc : Nat) (re : Nat) (rf : Value) (σ : bS) (h : cReader_takeSum_b99 n r9 x1 x2 σ = some q) : bfr MT (d + 3) M_X4_takeSum 99 [some (.ref 44), some (.int x1), some (.int x2)] [] [] (mkC ra rb rc re rf (.ref 23) σ) (none, mkC ra rb rc re rf (.ref 23) q) := by
  unfold cReader_takeSum_b99 at h
  refine bfr_run 1 102 [some (.ref 44), some (.int x1), some (.int (x2 + ci_1))] [] [] (mkC ra rb rc re rf (.ref 23) σ) (fun _ _ => rfl) ?_
  refine bfr_run 1 9 [some (.ref 44), some (.int x1), some (.int (x2 + ci_1))] [] [] (mkC ra rb rc re rf (.ref 23) σ) (fun _ _ => rfl) ?_
  exact hr9 _ _ _ _ _ _ _ _ h
set_option maxRecDepth 100000 in
theorem k_cReader_takeSum_b43 (n d : Nat) (r9 : Int32 → Int32 → bS → Option bS) (q : bS) (hr9 : ∀ (x1 : Int32) (x2 : Int32) (ra : Nat) (rb : Nat) (rc : Nat) (re : Nat) (rf : Value) (σ : bS), r9 x1 x2 σ = some q → bfr MT (d + 3) M_X4_takeSum 9 [some (.ref 44), some (.int x1), some (.int x2)] [] [] (mkC ra rb rc re rf (.ref 23) σ) (none, mkC ra rb rc re rf (.ref 23) q)) (x1 : Int32) (x2 : Int32) (ra : Nat) (rb : Nat) (rc : Nat) (re : Nat) (rf : Value) (σ : bS) (h : cReader_takeSum_b43 n r9 x1 x2 σ = some q) : bfr MT (d + 3) M_X4_takeSum 43 [some (.ref 44), some (.int x1), some (.int x2)] [] [] (mkC ra rb rc re rf (.ref 23) σ) (none, mkC ra rb rc re rf (.ref 23) q) := by
  unfold cReader_takeSum_b43 at h
  refine bfr_call 2 (d1 := d + 2) (M1 := M_X4_takeSign) (vs := [(.ref 44)]) (w1 := mkC ra rb rc re rf (.ref 23) σ) (pc2 := 47) (L2 := [some (.ref 44), some (.int x1), some (.int x2)]) (J2 := []) (rest := []) (fun _ => none) (fun a => mkC ra rb rc re rf (.ref 23) a) (fun _ _ => rfl) h (fun a ha => k_cReader_takeSign n (d + 0) _ _ _ _ _ _ _ _ ha) (fun q3 _ h => ?_)
  refine bfr_run 1 50 [some (.ref 44), some (.int (x1 + ci_1)), some (.int x2)] [] [] (mkC ra rb rc re rf (.ref 23) q3) (fun _ _ => rfl) ?_
  refine bfr_run 1 99 [some (.ref 44), some (.int (x1 + ci_1)), some (.int x2)] [] [] (mkC ra rb rc re rf (.ref 23) q3) (fun _ _ => rfl) ?_
  exact k_cReader_takeSum_b99 n d _ q hr9 _ _ _ _ _ _ _ _ h
set_option maxRecDepth 100000 in
theorem k_cReader_takeSum_b9 (n d : Nat) (q : bS) : ∀ (k : Nat) (x1 : Int32) (x2 : Int32) (ra : Nat) (rb : Nat) (rc : Nat) (re : Nat) (rf : Value) (σ : bS), cReader_takeSum_b9 n k x1 x2 σ = some q → bfr MT (d + 3) M_X4_takeSum 9 [some (.ref 44), some (.int x1), some (.int x2)] [] [] (mkC ra rb rc re rf (.ref 23) σ) (none, mkC ra rb rc re rf (.ref 23) q) := by
  intro k
  induction k with
  | zero => intro x1 x2 ra rb rc re rf σ h; exact bno h
  | succ k ih =>
    intro x1 x2 ra rb rc re rf σ h
    unfold cReader_takeSum_b9 at h
    refine bfr_br 3 (pc1 := 105) (L1 := [some (.ref 44), some (.int x1), some (.int x2)]) (J1 := []) (st1 := []) (w1 := mkC ra rb rc re rf (.ref 23) σ) (pc2 := 16) (L2 := [some (.ref 44), some (.int x1), some (.int x2)]) (J2 := []) (st2 := []) (w2 := mkC ra rb rc re rf (.ref 23) σ) (fun _ _ => rfl) h (fun h => ?_) (fun h => ?_)
    · exact k_cReader_takeSum_b105 n d q _ _ _ _ _ _ _ _ h
    · refine bfr_br 3 (pc1 := 23) (L1 := [some (.ref 44), some (.int x1), some (.int x2)]) (J1 := []) (st1 := []) (w1 := mkC ra rb rc re rf (.ref 23) σ) (pc2 := 105) (L2 := [some (.ref 44), some (.int x1), some (.int x2)]) (J2 := []) (st2 := []) (w2 := mkC ra rb rc re rf (.ref 23) σ) (fun _ _ => rfl) h (fun h => ?_) (fun h => ?_)
      · refine bfr_call 2 (d1 := d + 2) (M1 := M_X4_kind) (vs := [(.ref 44)]) (w1 := mkC ra rb rc re rf (.ref 23) σ) (pc2 := 27) (L2 := [some (.ref 44), some (.int x1), some (.int x2)]) (J2 := []) (rest := []) (fun a => some (.int a.1)) (fun a => mkC ra rb rc re rf (.ref 23) a.2) (fun _ _ => rfl) h (fun a ha => k_cReader_kind n (d + 2) _ _ _ _ _ _ _ _ ha) (fun q4 _ h => ?_)
        refine bfr_br 2 (pc1 := 32) (L1 := [some (.ref 44), some (.int x1), some (.int x2)]) (J1 := []) (st1 := []) (w1 := mkC ra rb rc re rf (.ref 23) q4.2) (pc2 := 53) (L2 := [some (.ref 44), some (.int x1), some (.int x2)]) (J2 := []) (st2 := []) (w2 := mkC ra rb rc re rf (.ref 23) q4.2) (fun _ _ => rfl) h (fun h => ?_) (fun h => ?_)
        · refine bfr_br 3 (pc1 := 38) (L1 := [some (.ref 44), some (.int x1), some (.int x2)]) (J1 := []) (st1 := []) (w1 := mkC ra rb rc re rf (.ref 23) q4.2) (pc2 := 43) (L2 := [some (.ref 44), some (.int x1), some (.int x2)]) (J2 := []) (st2 := []) (w2 := mkC ra rb rc re rf (.ref 23) q4.2) (fun _ _ => rfl) h (fun h => ?_) (fun h => ?_)
          · refine bfr_call 3 (d1 := d + 2) (M1 := M_X4_fail) (vs := [(.ref 44), (.int ci_2)]) (w1 := mkC ra rb rc re rf (.ref 23) q4.2) (pc2 := 43) (L2 := [some (.ref 44), some (.int x1), some (.int x2)]) (J2 := []) (rest := []) (fun _ => none) (fun a => mkC ra rb rc re rf (.ref 23) a) (fun _ _ => rfl) h (fun a ha => k_cReader_fail n (d + 2) _ _ _ _ _ _ _ _ _ ha) (fun q5 _ h => ?_)
            exact k_cReader_takeSum_b43 n d _ q (ih) _ _ _ _ _ _ _ _ h
          · exact k_cReader_takeSum_b43 n d _ q (ih) _ _ _ _ _ _ _ _ h
        · refine bfr_call 2 (d1 := d + 2) (M1 := M_X4_takeUnit) (vs := [(.ref 44)]) (w1 := mkC ra rb rc re rf (.ref 23) q4.2) (pc2 := 57) (L2 := [some (.ref 44), some (.int x1), some (.int x2)]) (J2 := []) (rest := []) (fun _ => none) (fun a => mkC ra rb rc re rf (.ref 23) a) (fun _ _ => rfl) h (fun a ha => k_cReader_takeUnit n (d + 0) _ _ _ _ _ _ _ ha) (fun q6 _ h => ?_)
          refine bfr_call 3 (d1 := d + 2) (M1 := M_X4_takeCloses) (vs := [(.ref 44), (.int x1)]) (w1 := mkC ra rb rc re rf (.ref 23) q6) (pc2 := 62) (L2 := [some (.ref 44), some (.int x1), some (.int x2)]) (J2 := []) (rest := []) (fun a => some (.int a.1)) (fun a => mkC ra rb rc re rf (.ref 23) a.2) (fun _ _ => rfl) h (fun a ha => k_cReader_takeCloses n (d + 0) _ _ _ _ _ _ _ _ ha) (fun q7 _ h => ?_)
          refine bfr_call 3 (d1 := d + 2) (M1 := M_X4_kind) (vs := [(.ref 44)]) (w1 := mkC ra rb rc re rf (.ref 23) q7.2) (pc2 := 67) (L2 := [some (.ref 44), some (.int q7.1), some (.int x2)]) (J2 := []) (rest := []) (fun a => some (.int a.1)) (fun a => mkC ra rb rc re rf (.ref 23) a.2) (fun _ _ => rfl) h (fun a ha => k_cReader_kind n (d + 2) _ _ _ _ _ _ _ _ ha) (fun q8 _ h => ?_)
          refine bfr_br 2 (pc1 := 105) (L1 := [some (.ref 44), some (.int q7.1), some (.int x2)]) (J1 := []) (st1 := []) (w1 := mkC ra rb rc re rf (.ref 23) q8.2) (pc2 := 72) (L2 := [some (.ref 44), some (.int q7.1), some (.int x2)]) (J2 := []) (st2 := []) (w2 := mkC ra rb rc re rf (.ref 23) q8.2) (fun _ _ => rfl) h (fun h => ?_) (fun h => ?_)
          · exact k_cReader_takeSum_b105 n d q _ _ _ _ _ _ _ _ h
          · refine bfr_call 2 (d1 := d + 2) (M1 := M_X4_kind) (vs := [(.ref 44)]) (w1 := mkC ra rb rc re rf (.ref 23) q8.2) (pc2 := 76) (L2 := [some (.ref 44), some (.int q7.1), some (.int x2)]) (J2 := []) (rest := []) (fun a => some (.int a.1)) (fun a => mkC ra rb rc re rf (.ref 23) a.2) (fun _ _ => rfl) h (fun a ha => k_cReader_kind n (d + 2) _ _ _ _ _ _ _ _ ha) (fun q9 _ h => ?_)
            refine bfr_br 2 (pc1 := 84) (L1 := [some (.ref 44), some (.int q7.1), some (.int x2)]) (J1 := []) (st1 := []) (w1 := mkC ra rb rc re rf (.ref 23) q9.2) (pc2 := 81) (L2 := [some (.ref 44), some (.int q7.1), some (.int x2)]) (J2 := []) (st2 := []) (w2 := mkC ra rb rc re rf (.ref 23) q9.2) (fun _ _ => rfl) h (fun h => ?_) (fun h => ?_)
            · refine bfr_call 3 (d1 := d + 2) (M1 := M_X4_kind) (vs := [(.ref 44)]) (w1 := mkC ra rb rc re rf (.ref 23) q9.2) (pc2 := 89) (L2 := [some (.ref 44), some (.int q7.1), some (.int x2)]) (J2 := []) (rest := [(.ref 44)]) (fun a => some (.int a.1)) (fun a => mkC ra rb rc re rf (.ref 23) a.2) (fun _ _ => rfl) h (fun a ha => k_cReader_kind n (d + 2) _ _ _ _ _ _ _ _ ha) (fun q10 _ h => ?_)
              refine bfr_call 1 (d1 := d + 2) (M1 := M_X4_weightOf) (vs := [(.int q10.1)]) (w1 := mkC ra rb rc re rf (.ref 23) q10.2) (pc2 := 92) (L2 := [some (.ref 44), some (.int q7.1), some (.int x2)]) (J2 := []) (rest := [(.ref 44)]) (fun a => some (.int a.1)) (fun a => mkC ra rb rc re rf (.ref 23) a.2) (fun _ _ => rfl) h (fun a ha => k_cReader_weightOf n (d + 2) _ _ _ _ _ _ _ _ _ ha) (fun q11 _ h => ?_)
              refine bfr_call 1 (d1 := d + 2) (M1 := M_X4_settleSigns) (vs := [(.ref 44), (.int q11.1)]) (w1 := mkC ra rb rc re rf (.ref 23) q11.2) (pc2 := 95) (L2 := [some (.ref 44), some (.int q7.1), some (.int x2)]) (J2 := []) (rest := []) (fun _ => none) (fun a => mkC ra rb rc re rf (.ref 23) a) (fun _ _ => rfl) h (fun a ha => k_cReader_settleSigns n (d + 1) _ _ _ _ _ _ _ _ ha) (fun q12 _ h => ?_)
              refine bfr_call 2 (d1 := d + 2) (M1 := M_X4_takeSign) (vs := [(.ref 44)]) (w1 := mkC ra rb rc re rf (.ref 23) q12) (pc2 := 99) (L2 := [some (.ref 44), some (.int q7.1), some (.int x2)]) (J2 := []) (rest := []) (fun _ => none) (fun a => mkC ra rb rc re rf (.ref 23) a) (fun _ _ => rfl) h (fun a ha => k_cReader_takeSign n (d + 0) _ _ _ _ _ _ _ _ ha) (fun q13 _ h => ?_)
              exact k_cReader_takeSum_b99 n d _ q (ih) _ _ _ _ _ _ _ _ h
            · refine bfr_run 1 105 [some (.ref 44), some (.int q7.1), some (.int x2)] [] [] (mkC ra rb rc re rf (.ref 23) q9.2) (fun _ _ => rfl) ?_
              exact k_cReader_takeSum_b105 n d q _ _ _ _ _ _ _ _ h
      · exact k_cReader_takeSum_b105 n d q _ _ _ _ _ _ _ _ h
set_option maxRecDepth 100000 in
theorem k_cReader_takeSum (n d : Nat) (q : bS) (ra : Nat) (rb : Nat) (rc : Nat) (re : Nat) (rf : Value) (σ : bS) (h : cReader_takeSum n σ = some q) : bfr MT (d + 3) M_X4_takeSum 0 [some (.ref 44), none, none] [] [] (mkC ra rb rc re rf (.ref 23) σ) (none, mkC ra rb rc re rf (.ref 23) q) := by
  unfold cReader_takeSum at h
  refine bfr_run 5 7 [some (.ref 44), some (.int ci_0), none] [] [] ((mkC ra rb rc re rf (.ref 23) σ).set 44 (.inr (.inr (4, (mkC_44  ra rb rc re rf (.ref 23) σ).set 13 (.int ci_0))))) (fun _ _ => rfl) ?_
  rw [mkC_I44_13]
  refine bfr_run 2 9 [some (.ref 44), some (.int ci_0), some (.int ci_0)] [] [] (mkC ra rb rc re rf (.ref 23) (uI σ 44 13 ci_0)) (fun _ _ => rfl) ?_
  exact k_cReader_takeSum_b9 n d q _ _ _ _ _ _ _ _ _ h
set_option maxRecDepth 100000 in
theorem k_cLaws_aim_s_b28 (n d : Nat) (q : bS) (o0 : Option Value) (o1 : Option Value) (ra : Nat) (rb : Nat) (rc : Nat) (re : Nat) (rf : Value) (rg : Value) (σ : bS) (h : cLaws_aim_s_b28 n σ = some q) : bfr MT (d + 0) M_X2_aim 28 [o0, o1] [] [] (mkC ra rb rc re rf rg σ) (none, mkC ra rb rc re rf rg q) := by
  unfold cLaws_aim_s_b28 at h
  cases h
  exact bfr_ret 1 (fun _ _ => rfl)
set_option maxRecDepth 100000 in
theorem k_cLaws_aim_s (n d : Nat) (q : bS) (x1 : Int32) (ra : Nat) (rb : Nat) (rc : Nat) (re : Nat) (rf : Value) (rg : Value) (σ : bS) (h : cLaws_aim_s n x1 σ = some q) : bfr MT (d + 0) M_X2_aim 0 [some (.ref 23), some (.int x1)] [] [] (mkC ra rb rc re rf rg σ) (none, mkC ra rb rc re rf rg q) := by
  unfold cLaws_aim_s at h
  refine bfr_br 2 (pc1 := 28) (L1 := [some (.ref 23), some (.int x1)]) (J1 := []) (st1 := []) (w1 := mkC ra rb rc re rf rg σ) (pc2 := 4) (L2 := [some (.ref 23), some (.int x1)]) (J2 := []) (st2 := []) (w2 := mkC ra rb rc re rf rg σ) (fun _ _ => rfl) h (fun h => ?_) (fun h => ?_)
  · exact k_cLaws_aim_s_b28 n d q _ _ _ _ _ _ _ _ _ h
  · refine bfr_br 4 (pc1 := 28) (L1 := [some (.ref 23), some (.int x1)]) (J1 := []) (st1 := []) (w1 := mkC ra rb rc re rf rg σ) (pc2 := 12) (L2 := [some (.ref 23), some (.int x1)]) (J2 := []) (st2 := []) (w2 := mkC ra rb rc re rf rg σ) (fun _ _ => rfl) h (fun h => ?_) (fun h => ?_)
    · exact k_cLaws_aim_s_b28 n d q _ _ _ _ _ _ _ _ _ h
    · refine bfr_run 6 23 [some (.ref 23), some (.int x1)] [] [(.int cb_8), (.int (sI σ 23 3)), (.int x1), (.ref 24)] (mkC ra rb rc re rf rg σ) (fun _ _ => rfl) ?_
      refine bfr_in (i := x1) (m := 402) 4 (pc1 := 28) (L1 := [some (.ref 23), some (.int x1)]) (J1 := []) (st1 := []) (w1 := ((mkC ra rb rc re rf rg σ).set 24 (.inl (0, 402, upd (σ.2.1 24) (x1).toNatClampNeg (((sI σ 23 3) * cb_8) + cb_6))))) (fun _ _ => rfl) h (fun h => ?_)
      rw [mkC_A24]
      exact k_cLaws_aim_s_b28 n d q _ _ _ _ _ _ _ _ _ h
set_option maxRecDepth 100000 in
theorem k_cReader_takeLaw_b118 (n d : Nat) (q : (Int32 × bS)) (x1 : Int32) (o2 : Option Value) (o3 : Option Value) (ra : Nat) (rb : Nat) (rc : Nat) (re : Nat) (rf : Value) (σ : bS) (h : cReader_takeLaw_b118 n x1 σ = some q) : bfr MT (d + 4) M_X4_takeLaw 118 [some (.ref 44), some (.int x1), o2, o3] [] [] (mkC ra rb rc re rf (.ref 23) σ) (some (.int q.1), mkC ra rb rc re rf (.ref 23) q.2) := by
  unfold cReader_takeLaw_b118 at h
  refine bfr_call 2 (d1 := d + 3) (M1 := M_X4_takeSum) (vs := [(.ref 44)]) (w1 := mkC ra rb rc re rf (.ref 23) σ) (pc2 := 122) (L2 := [some (.ref 44), some (.int x1), o2, o3]) (J2 := []) (rest := []) (fun _ => none) (fun a => mkC ra rb rc re rf (.ref 23) a) (fun _ _ => rfl) h (fun a ha => k_cReader_takeSum n (d + 0) _ _ _ _ _ _ _ ha) (fun q1 _ h => ?_)
  refine bfr_call 5 (d1 := d + 3) (M1 := M_X2_add) (vs := [(.ref 23), (.int cb_7), (.int ci_0)]) (w1 := mkC ra rb rc re rf (.ref 23) q1) (pc2 := 132) (L2 := [some (.ref 44), some (.int x1), o2, o3]) (J2 := []) (rest := []) (fun a => some (.int a.1)) (fun a => mkC ra rb rc re rf (.ref 23) a.2) (fun _ _ => rfl) h (fun a ha => k_cLaws_add_s n (d + 3) _ _ _ _ _ _ _ _ _ _ ha) (fun q2 _ h => ?_)
  refine bfr_call 4 (d1 := d + 3) (M1 := M_X4_take) (vs := [(.ref 44), (.int ci_4)]) (w1 := mkC ra rb rc re rf (.ref 23) q2.2) (pc2 := 138) (L2 := [some (.ref 44), some (.int x1), o2, o3]) (J2 := []) (rest := []) (fun _ => none) (fun a => mkC ra rb rc re rf (.ref 23) a) (fun _ _ => rfl) h (fun a ha => k_cReader_take n (d + 2) _ _ _ _ _ _ _ _ _ ha) (fun q3 _ h => ?_)
  cases h
  exact bfr_ret 2 (fun _ _ => rfl)
set_option maxRecDepth 100000 in
theorem k_cReader_takeLaw_b46 (n d : Nat) (r15 : Int32 → Int32 → bS → Option (Int32 × bS)) (q : (Int32 × bS)) (hr15 : ∀ (x1 : Int32) (x2 : Int32) (o3 : Option Value) (ra : Nat) (rb : Nat) (rc : Nat) (re : Nat) (rf : Value) (σ : bS), r15 x1 x2 σ = some q → bfr MT (d + 4) M_X4_takeLaw 15 [some (.ref 44), some (.int x1), some (.int x2), o3] [] [] (mkC ra rb rc re rf (.ref 23) σ) (some (.int q.1), mkC ra rb rc re rf (.ref 23) q.2)) (x1 : Int32) (x2 : Int32) (o3 : Option Value) (ra : Nat) (rb : Nat) (rc : Nat) (re : Nat) (rf : Value) (σ : bS) (h : cReader_takeLaw_b46 n r15 x1 x2 σ = some q) : bfr MT (d + 4) M_X4_takeLaw 46 [some (.ref 44), some (.int x1), some (.int x2), o3] [] [] (mkC ra rb rc re rf (.ref 23) σ) (some (.int q.1), mkC ra rb rc re rf (.ref 23) q.2) := by
  unfold cReader_takeLaw_b46 at h
  refine bfr_call 3 (d1 := d + 3) (M1 := M_X4_take) (vs := [(.ref 44), (.int cb_26)]) (w1 := mkC ra rb rc re rf (.ref 23) σ) (pc2 := 52) (L2 := [some (.ref 44), some (.int x1), some (.int x2), o3]) (J2 := []) (rest := []) (fun _ => none) (fun a => mkC ra rb rc re rf (.ref 23) a) (fun _ _ => rfl) h (fun a ha => k_cReader_take n (d + 2) _ _ _ _ _ _ _ _ _ ha) (fun q4 _ h => ?_)
  refine bfr_call 2 (d1 := d + 3) (M1 := M_X4_takeSum) (vs := [(.ref 44)]) (w1 := mkC ra rb rc re rf (.ref 23) q4) (pc2 := 56) (L2 := [some (.ref 44), some (.int x1), some (.int x2), o3]) (J2 := []) (rest := []) (fun _ => none) (fun a => mkC ra rb rc re rf (.ref 23) a) (fun _ _ => rfl) h (fun a ha => k_cReader_takeSum n (d + 0) _ _ _ _ _ _ _ ha) (fun q5 _ h => ?_)
  refine bfr_call 3 (d1 := d + 3) (M1 := M_X4_take) (vs := [(.ref 44), (.int cb_10)]) (w1 := mkC ra rb rc re rf (.ref 23) q5) (pc2 := 62) (L2 := [some (.ref 44), some (.int x1), some (.int x2), o3]) (J2 := []) (rest := []) (fun _ => none) (fun a => mkC ra rb rc re rf (.ref 23) a) (fun _ _ => rfl) h (fun a ha => k_cReader_take n (d + 2) _ _ _ _ _ _ _ _ _ ha) (fun q6 _ h => ?_)
  refine bfr_call 2 (d1 := d + 3) (M1 := M_X4_takeSum) (vs := [(.ref 44)]) (w1 := mkC ra rb rc re rf (.ref 23) q6) (pc2 := 66) (L2 := [some (.ref 44), some (.int x1), some (.int x2), o3]) (J2 := []) (rest := []) (fun _ => none) (fun a => mkC ra rb rc re rf (.ref 23) a) (fun _ _ => rfl) h (fun a ha => k_cReader_takeSum n (d + 0) _ _ _ _ _ _ _ ha) (fun q7 _ h => ?_)
  refine bfr_call 3 (d1 := d + 3) (M1 := M_X4_take) (vs := [(.ref 44), (.int cb_27)]) (w1 := mkC ra rb rc re rf (.ref 23) q7) (pc2 := 72) (L2 := [some (.ref 44), some (.int x1), some (.int x2), o3]) (J2 := []) (rest := []) (fun _ => none) (fun a => mkC ra rb rc re rf (.ref 23) a) (fun _ _ => rfl) h (fun a ha => k_cReader_take n (d + 2) _ _ _ _ _ _ _ _ _ ha) (fun q8 _ h => ?_)
  refine bfr_call 5 (d1 := d + 3) (M1 := M_X2_add) (vs := [(.ref 23), (.int cb_6), (.int ci_0)]) (w1 := mkC ra rb rc re rf (.ref 23) q8) (pc2 := 82) (L2 := [some (.ref 44), some (.int x1), some (.int x2), o3]) (J2 := []) (rest := []) (fun a => some (.int a.1)) (fun a => mkC ra rb rc re rf (.ref 23) a.2) (fun _ _ => rfl) h (fun a ha => k_cLaws_add_s n (d + 3) _ _ _ _ _ _ _ _ _ _ ha) (fun q9 _ h => ?_)
  refine bfr_call 3 (d1 := d + 3) (M1 := M_X4_takeSum) (vs := [(.ref 44)]) (w1 := mkC ra rb rc re rf (.ref 23) q9.2) (pc2 := 87) (L2 := [some (.ref 44), some (.int x1), some (.int x2), some (.int q9.1)]) (J2 := []) (rest := []) (fun _ => none) (fun a => mkC ra rb rc re rf (.ref 23) a) (fun _ _ => rfl) h (fun a ha => k_cReader_takeSum n (d + 0) _ _ _ _ _ _ _ ha) (fun q10 _ h => ?_)
  refine bfr_call 3 (d1 := d + 3) (M1 := M_X4_take) (vs := [(.ref 44), (.int cb_28)]) (w1 := mkC ra rb rc re rf (.ref 23) q10) (pc2 := 93) (L2 := [some (.ref 44), some (.int x1), some (.int x2), some (.int q9.1)]) (J2 := []) (rest := []) (fun _ => none) (fun a => mkC ra rb rc re rf (.ref 23) a) (fun _ _ => rfl) h (fun a ha => k_cReader_take n (d + 2) _ _ _ _ _ _ _ _ _ ha) (fun q11 _ h => ?_)
  refine bfr_call 5 (d1 := d + 3) (M1 := M_X2_add) (vs := [(.ref 23), (.int cb_7), (.int ci_0)]) (w1 := mkC ra rb rc re rf (.ref 23) q11) (pc2 := 103) (L2 := [some (.ref 44), some (.int x1), some (.int x2), some (.int q9.1)]) (J2 := []) (rest := []) (fun a => some (.int a.1)) (fun a => mkC ra rb rc re rf (.ref 23) a.2) (fun _ _ => rfl) h (fun a ha => k_cLaws_add_s n (d + 3) _ _ _ _ _ _ _ _ _ _ ha) (fun q12 _ h => ?_)
  refine bfr_call 5 (d1 := d + 3) (M1 := M_X2_aim) (vs := [(.ref 23), (.int q9.1)]) (w1 := mkC ra rb rc re rf (.ref 23) q12.2) (pc2 := 112) (L2 := [some (.ref 44), some (.int x1), some (.int x2), some (.int q9.1)]) (J2 := []) (rest := []) (fun _ => none) (fun a => mkC ra rb rc re rf (.ref 23) a) (fun _ _ => rfl) h (fun a ha => k_cLaws_aim_s n (d + 3) _ _ _ _ _ _ _ _ _ ha) (fun q13 _ h => ?_)
  refine bfr_run 1 115 [some (.ref 44), some (.int x1), some (.int (x2 + ci_1)), some (.int q9.1)] [] [] (mkC ra rb rc re rf (.ref 23) q13) (fun _ _ => rfl) ?_
  refine bfr_run 1 15 [some (.ref 44), some (.int x1), some (.int (x2 + ci_1)), some (.int q9.1)] [] [] (mkC ra rb rc re rf (.ref 23) q13) (fun _ _ => rfl) ?_
  exact hr15 _ _ _ _ _ _ _ _ _ h
set_option maxRecDepth 100000 in
theorem k_cReader_takeLaw_b15 (n d : Nat) (q : (Int32 × bS)) : ∀ (k : Nat) (x1 : Int32) (x2 : Int32) (o3 : Option Value) (ra : Nat) (rb : Nat) (rc : Nat) (re : Nat) (rf : Value) (σ : bS), cReader_takeLaw_b15 n k x1 x2 σ = some q → bfr MT (d + 4) M_X4_takeLaw 15 [some (.ref 44), some (.int x1), some (.int x2), o3] [] [] (mkC ra rb rc re rf (.ref 23) σ) (some (.int q.1), mkC ra rb rc re rf (.ref 23) q.2) := by
  intro k
  induction k with
  | zero => intro x1 x2 o3 ra rb rc re rf σ h; exact bno h
  | succ k ih =>
    intro x1 x2 o3 ra rb rc re rf σ h
    unfold cReader_takeLaw_b15 at h
    refine bfr_br 3 (pc1 := 118) (L1 := [some (.ref 44), some (.int x1), some (.int x2), o3]) (J1 := []) (st1 := []) (w1 := mkC ra rb rc re rf (.ref 23) σ) (pc2 := 20) (L2 := [some (.ref 44), some (.int x1), some (.int x2), o3]) (J2 := []) (st2 := []) (w2 := mkC ra rb rc re rf (.ref 23) σ) (fun _ _ => rfl) h (fun h => ?_) (fun h => ?_)
    · exact k_cReader_takeLaw_b118 n d q _ _ _ _ _ _ _ _ _ h
    · refine bfr_br 3 (pc1 := 27) (L1 := [some (.ref 44), some (.int x1), some (.int x2), o3]) (J1 := []) (st1 := []) (w1 := mkC ra rb rc re rf (.ref 23) σ) (pc2 := 118) (L2 := [some (.ref 44), some (.int x1), some (.int x2), o3]) (J2 := []) (st2 := []) (w2 := mkC ra rb rc re rf (.ref 23) σ) (fun _ _ => rfl) h (fun h => ?_) (fun h => ?_)
      · refine bfr_call 2 (d1 := d + 3) (M1 := M_X4_kind) (vs := [(.ref 44)]) (w1 := mkC ra rb rc re rf (.ref 23) σ) (pc2 := 31) (L2 := [some (.ref 44), some (.int x1), some (.int x2), o3]) (J2 := []) (rest := []) (fun a => some (.int a.1)) (fun a => mkC ra rb rc re rf (.ref 23) a.2) (fun _ _ => rfl) h (fun a ha => k_cReader_kind n (d + 3) _ _ _ _ _ _ _ _ ha) (fun q14 _ h => ?_)
        refine bfr_br 2 (pc1 := 36) (L1 := [some (.ref 44), some (.int x1), some (.int x2), o3]) (J1 := []) (st1 := []) (w1 := mkC ra rb rc re rf (.ref 23) q14.2) (pc2 := 118) (L2 := [some (.ref 44), some (.int x1), some (.int x2), o3]) (J2 := []) (st2 := []) (w2 := mkC ra rb rc re rf (.ref 23) q14.2) (fun _ _ => rfl) h (fun h => ?_) (fun h => ?_)
        · refine bfr_br 3 (pc1 := 41) (L1 := [some (.ref 44), some (.int x1), some (.int x2), o3]) (J1 := []) (st1 := []) (w1 := mkC ra rb rc re rf (.ref 23) q14.2) (pc2 := 46) (L2 := [some (.ref 44), some (.int x1), some (.int x2), o3]) (J2 := []) (st2 := []) (w2 := mkC ra rb rc re rf (.ref 23) q14.2) (fun _ _ => rfl) h (fun h => ?_) (fun h => ?_)
          · refine bfr_call 3 (d1 := d + 3) (M1 := M_X4_fail) (vs := [(.ref 44), (.int ci_2)]) (w1 := mkC ra rb rc re rf (.ref 23) q14.2) (pc2 := 46) (L2 := [some (.ref 44), some (.int x1), some (.int x2), o3]) (J2 := []) (rest := []) (fun _ => none) (fun a => mkC ra rb rc re rf (.ref 23) a) (fun _ _ => rfl) h (fun a ha => k_cReader_fail n (d + 3) _ _ _ _ _ _ _ _ _ ha) (fun q15 _ h => ?_)
            exact k_cReader_takeLaw_b46 n d _ q (ih) _ _ _ _ _ _ _ _ _ h
          · exact k_cReader_takeLaw_b46 n d _ q (ih) _ _ _ _ _ _ _ _ _ h
        · exact k_cReader_takeLaw_b118 n d q _ _ _ _ _ _ _ _ _ h
      · exact k_cReader_takeLaw_b118 n d q _ _ _ _ _ _ _ _ _ h
set_option maxRecDepth 100000 in
theorem k_cReader_takeLaw (n d : Nat) (q : (Int32 × bS)) (ra : Nat) (rb : Nat) (rc : Nat) (re : Nat) (rf : Value) (σ : bS) (h : cReader_takeLaw n σ = some q) : bfr MT (d + 4) M_X4_takeLaw 0 [some (.ref 44), none, none, none] [] [] (mkC ra rb rc re rf (.ref 23) σ) (some (.int q.1), mkC ra rb rc re rf (.ref 23) q.2) := by
  unfold cReader_takeLaw at h
  refine bfr_run 6 10 [some (.ref 44), some (.int (sI σ 23 3)), none, none] [] [(.int ci_5), (.ref 44)] (mkC ra rb rc re rf (.ref 23) σ) (fun _ _ => rfl) ?_
  refine bfr_call 1 (d1 := d + 3) (M1 := M_X4_take) (vs := [(.ref 44), (.int ci_5)]) (w1 := mkC ra rb rc re rf (.ref 23) σ) (pc2 := 13) (L2 := [some (.ref 44), some (.int (sI σ 23 3)), none, none]) (J2 := []) (rest := []) (fun _ => none) (fun a => mkC ra rb rc re rf (.ref 23) a) (fun _ _ => rfl) h (fun a ha => k_cReader_take n (d + 2) _ _ _ _ _ _ _ _ _ ha) (fun q16 _ h => ?_)
  refine bfr_run 2 15 [some (.ref 44), some (.int (sI σ 23 3)), some (.int ci_0), none] [] [] (mkC ra rb rc re rf (.ref 23) q16) (fun _ _ => rfl) ?_
  exact k_cReader_takeLaw_b15 n d q _ _ _ _ _ _ _ _ _ _ h
