set_option maxRecDepth 100000 in
theorem k_cReader_takePlainLaw (n d : Nat) (q : (Int32 × bS)) (x1 : Int32) (ra : Nat) (rb : Nat) (rc : Nat) (re : Nat) (rf : Value) (σ : bS) (h : cReader_takePlainLaw n x1 σ = some q) : bfr MT (d + 5) M_X4_takePlainLaw 0 [some (.ref 44), some (.int x1)] [] [] (mkC ra rb rc re rf (.ref 23) σ) (some (.int q.1), mkC ra rb rc re rf (.ref 23) q.2) := by
  unfold cReader_takePlainLaw at h
  refine bfr_call 3 (d1 := d + 4) (M1 := M_X4_take) (vs := [(.ref 44), (.int x1)]) (w1 := mkC ra rb rc re rf (.ref 23) σ) (pc2 := 5) (L2 := [some (.ref 44), some (.int x1)]) (J2 := []) (rest := []) (fun _ => none) (fun a => mkC ra rb rc re rf (.ref 23) a) (fun _ _ => rfl) h (fun a ha => k_cReader_take n (d + 3) _ _ _ _ _ _ _ _ _ ha) (fun q1 _ h => ?_)
  refine bfr_call 2 (d1 := d + 4) (M1 := M_X4_takeLaw) (vs := [(.ref 44)]) (w1 := mkC ra rb rc re rf (.ref 23) q1) (pc2 := 9) (L2 := [some (.ref 44), some (.int x1)]) (J2 := []) (rest := []) (fun a => some (.int a.1)) (fun a => mkC ra rb rc re rf (.ref 23) a.2) (fun _ _ => rfl) h (fun a ha => k_cReader_takeLaw n (d + 0) _ _ _ _ _ _ _ ha) (fun q2 _ h => ?_)
  cases h
  exact bfr_ret 1 (fun _ _ => rfl)
set_option maxRecDepth 100000 in
theorem k_cReader_takeName_b76 (n d : Nat) (r36 : Int32 → Int64 → Int32 → Int32 → bS → Option (Int32 × bS)) (q : (Int32 × bS)) (hr36 : ∀ (x1 : Int32) (x2 : Int64) (x4 : Int32) (x5 : Int32) (ra : Nat) (rb : Nat) (rc : Nat) (re : Nat) (rf : Value) (rg : Value) (σ : bS), r36 x1 x2 x4 x5 σ = some q → bfr MT (d + 2) M_X4_takeName 36 [some (.ref 44), some (.int x1), none, none, some (.int x4), some (.int x5)] [(2, x2)] [] (mkC ra rb rc re rf rg σ) (some (.int q.1), mkC ra rb rc re rf rg q.2)) (x1 : Int32) (x2 : Int64) (x4 : Int32) (x5 : Int32) (ra : Nat) (rb : Nat) (rc : Nat) (re : Nat) (rf : Value) (rg : Value) (σ : bS) (h : cReader_takeName_b76 n r36 x1 x2 x4 x5 σ = some q) : bfr MT (d + 2) M_X4_takeName 76 [some (.ref 44), some (.int x1), none, none, some (.int x4), some (.int x5)] [(2, x2)] [] (mkC ra rb rc re rf rg σ) (some (.int q.1), mkC ra rb rc re rf rg q.2) := by
  unfold cReader_takeName_b76 at h
  refine bfr_run 1 79 [some (.ref 44), some (.int x1), none, none, some (.int x4), some (.int (x5 + ci_1))] [(2, x2)] [] (mkC ra rb rc re rf rg σ) (fun _ _ => rfl) ?_
  refine bfr_run 1 36 [some (.ref 44), some (.int x1), none, none, some (.int x4), some (.int (x5 + ci_1))] [(2, x2)] [] (mkC ra rb rc re rf rg σ) (fun _ _ => rfl) ?_
  exact hr36 _ _ _ _ _ _ _ _ _ _ _ h
set_option maxRecDepth 100000 in
theorem k_cReader_takeName_b36 (n d : Nat) (q : (Int32 × bS)) : ∀ (k : Nat) (x1 : Int32) (x2 : Int64) (x4 : Int32) (x5 : Int32) (ra : Nat) (rb : Nat) (rc : Nat) (re : Nat) (rf : Value) (rg : Value) (σ : bS), cReader_takeName_b36 n k x1 x2 x4 x5 σ = some q → bfr MT (d + 2) M_X4_takeName 36 [some (.ref 44), some (.int x1), none, none, some (.int x4), some (.int x5)] [(2, x2)] [] (mkC ra rb rc re rf rg σ) (some (.int q.1), mkC ra rb rc re rf rg q.2) := by
  intro k
  induction k with
  | zero => intro x1 x2 x4 x5 ra rb rc re rf rg σ h; exact bno h
  | succ k ih =>
    intro x1 x2 x4 x5 ra rb rc re rf rg σ h
    unfold cReader_takeName_b36 at h
    refine bfr_br 4 (pc1 := 82) (L1 := [some (.ref 44), some (.int x1), none, none, some (.int x4), some (.int x5)]) (J1 := [(2, x2)]) (st1 := []) (w1 := mkC ra rb rc re rf rg σ) (pc2 := 45) (L2 := [some (.ref 44), some (.int x1), none, none, some (.int x4), some (.int x5)]) (J2 := [(2, x2)]) (st2 := []) (w2 := mkC ra rb rc re rf rg σ) (fun _ _ => rfl) h (fun h => ?_) (fun h => ?_)
    · refine bfr_call 4 (d1 := d + 1) (M1 := M_X4_note) (vs := [(.ref 44), (.int ci_4), (.int x4)]) (w1 := mkC ra rb rc re rf rg σ) (pc2 := 89) (L2 := [some (.ref 44), some (.int x1), none, none, some (.int x4), some (.int x5)]) (J2 := [(2, x2)]) (rest := []) (fun _ => none) (fun a => mkC ra rb rc re rf rg a) (fun _ _ => rfl) h (fun a ha => k_cReader_note n (d + 1) _ _ _ _ _ _ _ _ _ _ ha) (fun q1 _ h => ?_)
      cases h
      exact bfr_ret 2 (fun _ _ => rfl)
    · refine bfr_in (i := x5) (m := 17) 4 (pc1 := 52) (L1 := [some (.ref 44), some (.int x1), none, none, some (.int x4), some (.int x5)]) (J1 := [(2, x2)]) (st1 := [(.long (sJ σ 45 x5))]) (w1 := mkC ra rb rc re rf rg σ) (fun _ _ => rfl) h (fun h => ?_)
      refine bfr_br 3 (pc1 := 57) (L1 := [some (.ref 44), some (.int x1), none, none, some (.int x4), some (.int x5)]) (J1 := [(2, x2)]) (st1 := []) (w1 := mkC ra rb rc re rf rg σ) (pc2 := 76) (L2 := [some (.ref 44), some (.int x1), none, none, some (.int x4), some (.int x5)]) (J2 := [(2, x2)]) (st2 := []) (w2 := mkC ra rb rc re rf rg σ) (fun _ _ => rfl) h (fun h => ?_) (fun h => ?_)
      · refine bfr_in (i := x5) (m := 17) 4 (pc1 := 64) (L1 := [some (.ref 44), some (.int x1), none, none, some (.int x4), some (.int x5)]) (J1 := [(2, x2)]) (st1 := [(.int (sA σ 46 x5))]) (w1 := mkC ra rb rc re rf rg σ) (fun _ _ => rfl) h (fun h => ?_)
        refine bfr_br 2 (pc1 := 68) (L1 := [some (.ref 44), some (.int x1), none, none, some (.int x4), some (.int x5)]) (J1 := [(2, x2)]) (st1 := []) (w1 := mkC ra rb rc re rf rg σ) (pc2 := 76) (L2 := [some (.ref 44), some (.int x1), none, none, some (.int x4), some (.int x5)]) (J2 := [(2, x2)]) (st2 := []) (w2 := mkC ra rb rc re rf rg σ) (fun _ _ => rfl) h (fun h => ?_) (fun h => ?_)
        · refine bfr_in (i := x5) (m := 17) 4 (pc1 := 75) (L1 := [some (.ref 44), some (.int x1), none, none, some (.int x4), some (.int x5)]) (J1 := [(2, x2)]) (st1 := [(.int (sA σ 47 x5))]) (w1 := mkC ra rb rc re rf rg σ) (fun _ _ => rfl) h (fun h => ?_)
          cases h
          exact bfr_ret 1 (fun _ _ => rfl)
        · exact k_cReader_takeName_b76 n d _ q (ih) _ _ _ _ _ _ _ _ _ _ _ h
      · exact k_cReader_takeName_b76 n d _ q (ih) _ _ _ _ _ _ _ _ _ _ _ h
set_option maxRecDepth 100000 in
theorem k_cReader_takeName (n d : Nat) (q : (Int32 × bS)) (x1 : Int32) (ra : Nat) (rb : Nat) (rc : Nat) (re : Nat) (rf : Value) (rg : Value) (σ : bS) (h : cReader_takeName n x1 σ = some q) : bfr MT (d + 2) M_X4_takeName 0 [some (.ref 44), some (.int x1), none, none, none, none] [] [] (mkC ra rb rc re rf rg σ) (some (.int q.1), mkC ra rb rc re rf rg q.2) := by
  unfold cReader_takeName at h
  refine bfr_in (i := (sI σ 44 4)) (m := 401) 6 (pc1 := 12) (L1 := [some (.ref 44), some (.int x1), none, none, none, none]) (J1 := []) (st1 := [(.long (sJ σ 52 (sI σ 44 4)))]) (w1 := mkC ra rb rc re rf rg σ) (fun _ _ => rfl) h (fun h => ?_)
  refine bfr_run 6 21 [some (.ref 44), some (.int x1), none, none, some (.int (sI σ 44 4)), none] [(2, (sJ σ 52 (sI σ 44 4)))] [(.int ci_2), (.ref 44)] (mkC ra rb rc re rf rg σ) (fun _ _ => rfl) ?_
  refine bfr_call 1 (d1 := d + 1) (M1 := M_X4_take) (vs := [(.ref 44), (.int ci_2)]) (w1 := mkC ra rb rc re rf rg σ) (pc2 := 24) (L2 := [some (.ref 44), some (.int x1), none, none, some (.int (sI σ 44 4)), none]) (J2 := [(2, (sJ σ 52 (sI σ 44 4)))]) (rest := []) (fun _ => none) (fun a => mkC ra rb rc re rf rg a) (fun _ _ => rfl) h (fun a ha => k_cReader_take n (d + 0) _ _ _ _ _ _ _ _ _ ha) (fun q2 _ h => ?_)
  refine bfr_br 3 (pc1 := 33) (L1 := [some (.ref 44), some (.int x1), none, none, some (.int (sI σ 44 4)), none]) (J1 := [(2, (sJ σ 52 (sI σ 44 4)))]) (st1 := []) (w1 := mkC ra rb rc re rf rg q2) (pc2 := 31) (L2 := [some (.ref 44), some (.int x1), none, none, some (.int (sI σ 44 4)), none]) (J2 := [(2, (sJ σ 52 (sI σ 44 4)))]) (st2 := []) (w2 := mkC ra rb rc re rf rg q2) (fun _ _ => rfl) h (fun h => ?_) (fun h => ?_)
  · refine bfr_run 2 36 [some (.ref 44), some (.int x1), none, none, some (.int (sI σ 44 4)), some (.int ci_0)] [(2, (sJ σ 52 (sI σ 44 4)))] [] (mkC ra rb rc re rf rg q2) (fun _ _ => rfl) ?_
    exact k_cReader_takeName_b36 n d q _ _ _ _ _ _ _ _ _ _ _ _ h
  · cases h
    exact bfr_ret 2 (fun _ _ => rfl)
set_option maxRecDepth 100000 in
theorem k_cReader_readNamedLaw_22_b36 (n d : Nat) (q : bS) (o0 : Option Value) (o1 : Option Value) (o2 : Option Value) (o3 : Option Value) (o4 : Option Value) (o5 : Option Value) (ra : Nat) (rb : Nat) (rc : Nat) (re : Nat) (rf : Value) (σ : bS) (h : cReader_readNamedLaw_22_b36 n σ = some q) : bfr MT (d + 5) M_X4_readNamedLaw 36 [o0, o1, o2, o3, o4, o5] [] [] (mkC ra rb rc re rf (.ref 23) σ) (none, mkC ra rb rc re rf (.ref 23) q) := by
  unfold cReader_readNamedLaw_22_b36 at h
  cases h
  exact bfr_ret 1 (fun _ _ => rfl)
set_option maxRecDepth 100000 in
theorem k_cReader_readNamedLaw_22 (n d : Nat) (q : bS) (x1 : Int32) (x2 : Int32) (ra : Nat) (rb : Nat) (rc : Nat) (re : Nat) (rf : Value) (σ : bS) (h : cReader_readNamedLaw_22 n x1 x2 σ = some q) : bfr MT (d + 5) M_X4_readNamedLaw 0 [some (.ref 44), some (.int x1), some (.int x2), some (.ref 22), none, none] [] [] (mkC ra rb rc re rf (.ref 23) σ) (none, mkC ra rb rc re rf (.ref 23) q) := by
  unfold cReader_readNamedLaw_22 at h
  refine bfr_call 3 (d1 := d + 4) (M1 := M_X4_take) (vs := [(.ref 44), (.int x1)]) (w1 := mkC ra rb rc re rf (.ref 23) σ) (pc2 := 5) (L2 := [some (.ref 44), some (.int x1), some (.int x2), some (.ref 22), none, none]) (J2 := []) (rest := []) (fun _ => none) (fun a => mkC ra rb rc re rf (.ref 23) a) (fun _ _ => rfl) h (fun a ha => k_cReader_take n (d + 3) _ _ _ _ _ _ _ _ _ ha) (fun q1 _ h => ?_)
  refine bfr_call 3 (d1 := d + 4) (M1 := M_X4_takeName) (vs := [(.ref 44), (.int x2)]) (w1 := mkC ra rb rc re rf (.ref 23) q1) (pc2 := 10) (L2 := [some (.ref 44), some (.int x1), some (.int x2), some (.ref 22), none, none]) (J2 := []) (rest := []) (fun a => some (.int a.1)) (fun a => mkC ra rb rc re rf (.ref 23) a.2) (fun _ _ => rfl) h (fun a ha => k_cReader_takeName n (d + 2) _ _ _ _ _ _ _ _ _ ha) (fun q2 _ h => ?_)
  refine bfr_call 3 (d1 := d + 4) (M1 := M_X4_takeLaw) (vs := [(.ref 44)]) (w1 := mkC ra rb rc re rf (.ref 23) q2.2) (pc2 := 16) (L2 := [some (.ref 44), some (.int x1), some (.int x2), some (.ref 22), some (.int q2.1), none]) (J2 := []) (rest := []) (fun a => some (.int a.1)) (fun a => mkC ra rb rc re rf (.ref 23) a.2) (fun _ _ => rfl) h (fun a ha => k_cReader_takeLaw n (d + 0) _ _ _ _ _ _ _ ha) (fun q3 _ h => ?_)
  refine bfr_br 3 (pc1 := 36) (L1 := [some (.ref 44), some (.int x1), some (.int x2), some (.ref 22), some (.int q2.1), some (.int q3.1)]) (J1 := []) (st1 := []) (w1 := mkC ra rb rc re rf (.ref 23) q3.2) (pc2 := 23) (L2 := [some (.ref 44), some (.int x1), some (.int x2), some (.ref 22), some (.int q2.1), some (.int q3.1)]) (J2 := []) (st2 := []) (w2 := mkC ra rb rc re rf (.ref 23) q3.2) (fun _ _ => rfl) h (fun h => ?_) (fun h => ?_)
  · exact k_cReader_readNamedLaw_22_b36 n d q _ _ _ _ _ _ _ _ _ _ _ _ h
  · refine bfr_br 4 (pc1 := 36) (L1 := [some (.ref 44), some (.int x1), some (.int x2), some (.ref 22), some (.int q2.1), some (.int q3.1)]) (J1 := []) (st1 := []) (w1 := mkC ra rb rc re rf (.ref 23) q3.2) (pc2 := 30) (L2 := [some (.ref 44), some (.int x1), some (.int x2), some (.ref 22), some (.int q2.1), some (.int q3.1)]) (J2 := []) (st2 := []) (w2 := mkC ra rb rc re rf (.ref 23) q3.2) (fun _ _ => rfl) h (fun h => ?_) (fun h => ?_)
    · exact k_cReader_readNamedLaw_22_b36 n d q _ _ _ _ _ _ _ _ _ _ _ _ h
    · refine bfr_in (i := q2.1) (m := 4) 4 (pc1 := 36) (L1 := [some (.ref 44), some (.int x1), some (.int x2), some (.ref 22), some (.int q2.1), some (.int q3.1)]) (J1 := []) (st1 := []) (w1 := ((mkC ra rb rc re rf (.ref 23) q3.2).set 22 (.inl (0, 4, upd (q3.2.2.1 22) (q2.1).toNatClampNeg q3.1)))) (fun _ _ => rfl) h (fun h => ?_)
      rw [mkC_A22]
      exact k_cReader_readNamedLaw_22_b36 n d q _ _ _ _ _ _ _ _ _ _ _ _ h
set_option maxRecDepth 100000 in
theorem k_cReader_readNamedLaw_21_b36 (n d : Nat) (q : bS) (o0 : Option Value) (o1 : Option Value) (o2 : Option Value) (o3 : Option Value) (o4 : Option Value) (o5 : Option Value) (ra : Nat) (rb : Nat) (rc : Nat) (re : Nat) (rf : Value) (σ : bS) (h : cReader_readNamedLaw_21_b36 n σ = some q) : bfr MT (d + 5) M_X4_readNamedLaw 36 [o0, o1, o2, o3, o4, o5] [] [] (mkC ra rb rc re rf (.ref 23) σ) (none, mkC ra rb rc re rf (.ref 23) q) := by
  unfold cReader_readNamedLaw_21_b36 at h
  cases h
  exact bfr_ret 1 (fun _ _ => rfl)
set_option maxRecDepth 100000 in
theorem k_cReader_readNamedLaw_21 (n d : Nat) (q : bS) (x1 : Int32) (x2 : Int32) (ra : Nat) (rb : Nat) (rc : Nat) (re : Nat) (rf : Value) (σ : bS) (h : cReader_readNamedLaw_21 n x1 x2 σ = some q) : bfr MT (d + 5) M_X4_readNamedLaw 0 [some (.ref 44), some (.int x1), some (.int x2), some (.ref 21), none, none] [] [] (mkC ra rb rc re rf (.ref 23) σ) (none, mkC ra rb rc re rf (.ref 23) q) := by
  unfold cReader_readNamedLaw_21 at h
  refine bfr_call 3 (d1 := d + 4) (M1 := M_X4_take) (vs := [(.ref 44), (.int x1)]) (w1 := mkC ra rb rc re rf (.ref 23) σ) (pc2 := 5) (L2 := [some (.ref 44), some (.int x1), some (.int x2), some (.ref 21), none, none]) (J2 := []) (rest := []) (fun _ => none) (fun a => mkC ra rb rc re rf (.ref 23) a) (fun _ _ => rfl) h (fun a ha => k_cReader_take n (d + 3) _ _ _ _ _ _ _ _ _ ha) (fun q1 _ h => ?_)
  refine bfr_call 3 (d1 := d + 4) (M1 := M_X4_takeName) (vs := [(.ref 44), (.int x2)]) (w1 := mkC ra rb rc re rf (.ref 23) q1) (pc2 := 10) (L2 := [some (.ref 44), some (.int x1), some (.int x2), some (.ref 21), none, none]) (J2 := []) (rest := []) (fun a => some (.int a.1)) (fun a => mkC ra rb rc re rf (.ref 23) a.2) (fun _ _ => rfl) h (fun a ha => k_cReader_takeName n (d + 2) _ _ _ _ _ _ _ _ _ ha) (fun q2 _ h => ?_)
  refine bfr_call 3 (d1 := d + 4) (M1 := M_X4_takeLaw) (vs := [(.ref 44)]) (w1 := mkC ra rb rc re rf (.ref 23) q2.2) (pc2 := 16) (L2 := [some (.ref 44), some (.int x1), some (.int x2), some (.ref 21), some (.int q2.1), none]) (J2 := []) (rest := []) (fun a => some (.int a.1)) (fun a => mkC ra rb rc re rf (.ref 23) a.2) (fun _ _ => rfl) h (fun a ha => k_cReader_takeLaw n (d + 0) _ _ _ _ _ _ _ ha) (fun q3 _ h => ?_)
  refine bfr_br 3 (pc1 := 36) (L1 := [some (.ref 44), some (.int x1), some (.int x2), some (.ref 21), some (.int q2.1), some (.int q3.1)]) (J1 := []) (st1 := []) (w1 := mkC ra rb rc re rf (.ref 23) q3.2) (pc2 := 23) (L2 := [some (.ref 44), some (.int x1), some (.int x2), some (.ref 21), some (.int q2.1), some (.int q3.1)]) (J2 := []) (st2 := []) (w2 := mkC ra rb rc re rf (.ref 23) q3.2) (fun _ _ => rfl) h (fun h => ?_) (fun h => ?_)
  · exact k_cReader_readNamedLaw_21_b36 n d q _ _ _ _ _ _ _ _ _ _ _ _ h
  · refine bfr_br 4 (pc1 := 36) (L1 := [some (.ref 44), some (.int x1), some (.int x2), some (.ref 21), some (.int q2.1), some (.int q3.1)]) (J1 := []) (st1 := []) (w1 := mkC ra rb rc re rf (.ref 23) q3.2) (pc2 := 30) (L2 := [some (.ref 44), some (.int x1), some (.int x2), some (.ref 21), some (.int q2.1), some (.int q3.1)]) (J2 := []) (st2 := []) (w2 := mkC ra rb rc re rf (.ref 23) q3.2) (fun _ _ => rfl) h (fun h => ?_) (fun h => ?_)
    · exact k_cReader_readNamedLaw_21_b36 n d q _ _ _ _ _ _ _ _ _ _ _ _ h
    · refine bfr_in (i := q2.1) (m := 7) 4 (pc1 := 36) (L1 := [some (.ref 44), some (.int x1), some (.int x2), some (.ref 21), some (.int q2.1), some (.int q3.1)]) (J1 := []) (st1 := []) (w1 := ((mkC ra rb rc re rf (.ref 23) q3.2).set 21 (.inl (0, 7, upd (q3.2.2.1 21) (q2.1).toNatClampNeg q3.1)))) (fun _ _ => rfl) h (fun h => ?_)
      rw [mkC_A21]
      exact k_cReader_readNamedLaw_21_b36 n d q _ _ _ _ _ _ _ _ _ _ _ _ h
set_option maxRecDepth 100000 in
theorem k_cReader_takeFirst_b10 (n d : Nat) (q : bS) (x1 : Int32) (o2 : Option Value) (o3 : Option Value) (ra : Nat) (rb : Nat) (rc : Nat) (re : Nat) (rf : Value) (rg : Value) (σ : bS) (h : cReader_takeFirst_b10 n x1 σ = some q) : bfr MT (d + 2) M_X4_takeFirst 10 [some (.ref 44), some (.int x1), o2, o3] [] [] (mkC ra rb rc re rf rg σ) (none, mkC ra rb rc re rf rg q) := by
  unfold cReader_takeFirst_b10 at h
  refine bfr_call 3 (d1 := d + 1) (M1 := M_X4_take) (vs := [(.ref 44), (.int x1)]) (w1 := mkC ra rb rc re rf rg σ) (pc2 := 15) (L2 := [some (.ref 44), some (.int x1), o2, o3]) (J2 := []) (rest := []) (fun _ => none) (fun a => mkC ra rb rc re rf rg a) (fun _ _ => rfl) h (fun a ha => k_cReader_take n (d + 0) _ _ _ _ _ _ _ _ _ ha) (fun q1 _ h => ?_)
  cases h
  exact bfr_ret 1 (fun _ _ => rfl)
set_option maxRecDepth 100000 in
theorem k_cReader_takeFirst (n d : Nat) (q : bS) (x1 : Int32) (x2 : Int32) (x3 : Int32) (ra : Nat) (rb : Nat) (rc : Nat) (re : Nat) (rf : Value) (rg : Value) (σ : bS) (h : cReader_takeFirst n x1 x2 x3 σ = some q) : bfr MT (d + 2) M_X4_takeFirst 0 [some (.ref 44), some (.int x1), some (.int x2), some (.int x3)] [] [] (mkC ra rb rc re rf rg σ) (none, mkC ra rb rc re rf rg q) := by
  unfold cReader_takeFirst at h
  refine bfr_br 3 (pc1 := 10) (L1 := [some (.ref 44), some (.int x1), some (.int x2), some (.int x3)]) (J1 := []) (st1 := []) (w1 := mkC ra rb rc re rf rg σ) (pc2 := 5) (L2 := [some (.ref 44), some (.int x1), some (.int x2), some (.int x3)]) (J2 := []) (st2 := []) (w2 := mkC ra rb rc re rf rg σ) (fun _ _ => rfl) h (fun h => ?_) (fun h => ?_)
  · exact k_cReader_takeFirst_b10 n d q _ _ _ _ _ _ _ _ _ _ h
  · refine bfr_call 3 (d1 := d + 1) (M1 := M_X4_fail) (vs := [(.ref 44), (.int ci_2)]) (w1 := mkC ra rb rc re rf rg σ) (pc2 := 10) (L2 := [some (.ref 44), some (.int x1), some (.int x2), some (.int x3)]) (J2 := []) (rest := []) (fun _ => none) (fun a => mkC ra rb rc re rf rg a) (fun _ _ => rfl) h (fun a ha => k_cReader_fail n (d + 1) _ _ _ _ _ _ _ _ _ ha) (fun q2 _ h => ?_)
    exact k_cReader_takeFirst_b10 n d q _ _ _ _ _ _ _ _ _ _ h
set_option maxRecDepth 100000 in
theorem k_cReader_takeNewName_b121 (n d : Nat) (q : bS) (o0 : Option Value) (o1 : Option Value) (o2 : Option Value) (o5 : Option Value) (o6 : Option Value) (j3 : Int64) (ra : Nat) (rb : Nat) (rc : Nat) (re : Nat) (rf : Value) (rg : Value) (σ : bS) (h : cReader_takeNewName_b121 n σ = some q) : bfr MT (d + 2) M_X4_takeNewName 121 [o0, o1, o2, none, none, o5, o6] [(3, j3)] [] (mkC ra rb rc re rf rg σ) (none, mkC ra rb rc re rf rg q) := by
  unfold cReader_takeNewName_b121 at h
  cases h
  exact bfr_ret 1 (fun _ _ => rfl)
set_option maxRecDepth 100000 in
theorem k_cReader_takeNewName_b63 (n d : Nat) (r35 : Int32 → Int32 → Int64 → Int32 → Int32 → bS → Option bS) (q : bS) (hr35 : ∀ (x1 : Int32) (x2 : Int32) (x3 : Int64) (x5 : Int32) (x6 : Int32) (ra : Nat) (rb : Nat) (rc : Nat) (re : Nat) (rf : Value) (rg : Value) (σ : bS), r35 x1 x2 x3 x5 x6 σ = some q → bfr MT (d + 2) M_X4_takeNewName 35 [some (.ref 44), some (.int x1), some (.int x2), none, none, some (.int x5), some (.int x6)] [(3, x3)] [] (mkC ra rb rc re rf rg σ) (none, mkC ra rb rc re rf rg q)) (x1 : Int32) (x2 : Int32) (x3 : Int64) (x5 : Int32) (x6 : Int32) (ra : Nat) (rb : Nat) (rc : Nat) (re : Nat) (rf : Value) (rg : Value) (σ : bS) (h : cReader_takeNewName_b63 n r35 x1 x2 x3 x5 x6 σ = some q) : bfr MT (d + 2) M_X4_takeNewName 63 [some (.ref 44), some (.int x1), some (.int x2), none, none, some (.int x5), some (.int x6)] [(3, x3)] [] (mkC ra rb rc re rf rg σ) (none, mkC ra rb rc re rf rg q) := by
  unfold cReader_takeNewName_b63 at h
  refine bfr_run 1 66 [some (.ref 44), some (.int x1), some (.int x2), none, none, some (.int x5), some (.int (x6 + ci_1))] [(3, x3)] [] (mkC ra rb rc re rf rg σ) (fun _ _ => rfl) ?_
  refine bfr_run 1 35 [some (.ref 44), some (.int x1), some (.int x2), none, none, some (.int x5), some (.int (x6 + ci_1))] [(3, x3)] [] (mkC ra rb rc re rf rg σ) (fun _ _ => rfl) ?_
  exact hr35 _ _ _ _ _ _ _ _ _ _ _ _ h
set_option maxRecDepth 100000 in
theorem k_cReader_takeNewName_b35 (n d : Nat) (q : bS) : ∀ (k : Nat) (x1 : Int32) (x2 : Int32) (x3 : Int64) (x5 : Int32) (x6 : Int32) (ra : Nat) (rb : Nat) (rc : Nat) (re : Nat) (rf : Value) (rg : Value) (σ : bS), cReader_takeNewName_b35 n k x1 x2 x3 x5 x6 σ = some q → bfr MT (d + 2) M_X4_takeNewName 35 [some (.ref 44), some (.int x1), some (.int x2), none, none, some (.int x5), some (.int x6)] [(3, x3)] [] (mkC ra rb rc re rf rg σ) (none, mkC ra rb rc re rf rg q) := by
  intro k
  induction k with
  | zero => intro x1 x2 x3 x5 x6 ra rb rc re rf rg σ h; exact bno h
  | succ k ih =>
    intro x1 x2 x3 x5 x6 ra rb rc re rf rg σ h
    unfold cReader_takeNewName_b35 at h
    refine bfr_br 4 (pc1 := 69) (L1 := [some (.ref 44), some (.int x1), some (.int x2), none, none, some (.int x5), some (.int x6)]) (J1 := [(3, x3)]) (st1 := []) (w1 := mkC ra rb rc re rf rg σ) (pc2 := 44) (L2 := [some (.ref 44), some (.int x1), some (.int x2), none, none, some (.int x5), some (.int x6)]) (J2 := [(3, x3)]) (st2 := []) (w2 := mkC ra rb rc re rf rg σ) (fun _ _ => rfl) h (fun h => ?_) (fun h => ?_)
    · refine bfr_br 6 (pc1 := 121) (L1 := [some (.ref 44), some (.int x1), some (.int x2), none, none, some (.int x5), some (.int x6)]) (J1 := [(3, x3)]) (st1 := []) (w1 := mkC ra rb rc re rf rg σ) (pc2 := 81) (L2 := [some (.ref 44), some (.int x1), some (.int x2), none, none, some (.int x5), some (.int x6)]) (J2 := [(3, x3)]) (st2 := []) (w2 := mkC ra rb rc re rf rg σ) (fun _ _ => rfl) h (fun h => ?_) (fun h => ?_)
      · exact k_cReader_takeNewName_b121 n d q _ _ _ _ _ _ _ _ _ _ _ _ _ h
      · refine bfr_in (i := (sI σ 44 11)) (m := 17) 6 (pc1 := 91) (L1 := [some (.ref 44), some (.int x1), some (.int x2), none, none, some (.int x5), some (.int x6)]) (J1 := [(3, x3)]) (st1 := []) (w1 := ((mkC ra rb rc re rf rg σ).set 45 (.inr (.inl (17, vp_updL (σ.2.2 45) ((sI σ 44 11)).toNatClampNeg x3))))) (fun _ _ => rfl) h (fun h => ?_)
        rw [mkC_A45]
        refine bfr_in (i := (sI (uJ σ 45 (sI σ 44 11) x3) 44 11)) (m := 17) 6 (pc1 := 101) (L1 := [some (.ref 44), some (.int x1), some (.int x2), none, none, some (.int x5), some (.int x6)]) (J1 := [(3, x3)]) (st1 := []) (w1 := ((mkC ra rb rc re rf rg (uJ σ 45 (sI σ 44 11) x3)).set 46 (.inl (0, 17, upd ((uJ σ 45 (sI σ 44 11) x3).2.1 46) ((sI (uJ σ 45 (sI σ 44 11) x3) 44 11)).toNatClampNeg x1)))) (fun _ _ => rfl) h (fun h => ?_)
        rw [mkC_A46]
        refine bfr_in (i := (sI (uA (uJ σ 45 (sI σ 44 11) x3) 46 (sI (uJ σ 45 (sI σ 44 11) x3) 44 11) x1) 44 11)) (m := 17) 6 (pc1 := 111) (L1 := [some (.ref 44), some (.int x1), some (.int x2), none, none, some (.int x5), some (.int x6)]) (J1 := [(3, x3)]) (st1 := []) (w1 := ((mkC ra rb rc re rf rg (uA (uJ σ 45 (sI σ 44 11) x3) 46 (sI (uJ σ 45 (sI σ 44 11) x3) 44 11) x1)).set 47 (.inl (0, 17, upd ((uA (uJ σ 45 (sI σ 44 11) x3) 46 (sI (uJ σ 45 (sI σ 44 11) x3) 44 11) x1).2.1 47) ((sI (uA (uJ σ 45 (sI σ 44 11) x3) 46 (sI (uJ σ 45 (sI σ 44 11) x3) 44 11) x1) 44 11)).toNatClampNeg x2)))) (fun _ _ => rfl) h (fun h => ?_)
        rw [mkC_A47]
        refine bfr_run 6 121 [some (.ref 44), some (.int x1), some (.int x2), none, none, some (.int x5), some (.int x6)] [(3, x3)] [] ((mkC ra rb rc re rf rg (uA (uA (uJ σ 45 (sI σ 44 11) x3) 46 (sI (uJ σ 45 (sI σ 44 11) x3) 44 11) x1) 47 (sI (uA (uJ σ 45 (sI σ 44 11) x3) 46 (sI (uJ σ 45 (sI σ 44 11) x3) 44 11) x1) 44 11) x2)).set 44 (.inr (.inr (4, (mkC_44  ra rb rc re rf rg (uA (uA (uJ σ 45 (sI σ 44 11) x3) 46 (sI (uJ σ 45 (sI σ 44 11) x3) 44 11) x1) 47 (sI (uA (uJ σ 45 (sI σ 44 11) x3) 46 (sI (uJ σ 45 (sI σ 44 11) x3) 44 11) x1) 44 11) x2)).set 11 (.int ((sI (uA (uA (uJ σ 45 (sI σ 44 11) x3) 46 (sI (uJ σ 45 (sI σ 44 11) x3) 44 11) x1) 47 (sI (uA (uJ σ 45 (sI σ 44 11) x3) 46 (sI (uJ σ 45 (sI σ 44 11) x3) 44 11) x1) 44 11) x2) 44 11) + ci_1)))))) (fun _ _ => rfl) ?_
        rw [mkC_I44_11]
        exact k_cReader_takeNewName_b121 n d q _ _ _ _ _ _ _ _ _ _ _ _ _ h
    · refine bfr_in (i := x6) (m := 17) 4 (pc1 := 51) (L1 := [some (.ref 44), some (.int x1), some (.int x2), none, none, some (.int x5), some (.int x6)]) (J1 := [(3, x3)]) (st1 := [(.long (sJ σ 45 x6))]) (w1 := mkC ra rb rc re rf rg σ) (fun _ _ => rfl) h (fun h => ?_)
      refine bfr_br 3 (pc1 := 56) (L1 := [some (.ref 44), some (.int x1), some (.int x2), none, none, some (.int x5), some (.int x6)]) (J1 := [(3, x3)]) (st1 := []) (w1 := mkC ra rb rc re rf rg σ) (pc2 := 63) (L2 := [some (.ref 44), some (.int x1), some (.int x2), none, none, some (.int x5), some (.int x6)]) (J2 := [(3, x3)]) (st2 := []) (w2 := mkC ra rb rc re rf rg σ) (fun _ _ => rfl) h (fun h => ?_) (fun h => ?_)
      · refine bfr_call 4 (d1 := d + 1) (M1 := M_X4_note) (vs := [(.ref 44), (.int ci_3), (.int x5)]) (w1 := mkC ra rb rc re rf rg σ) (pc2 := 63) (L2 := [some (.ref 44), some (.int x1), some (.int x2), none, none, some (.int x5), some (.int x6)]) (J2 := [(3, x3)]) (rest := []) (fun _ => none) (fun a => mkC ra rb rc re rf rg a) (fun _ _ => rfl) h (fun a ha => k_cReader_note n (d + 1) _ _ _ _ _ _ _ _ _ _ ha) (fun q1 _ h => ?_)
        exact k_cReader_takeNewName_b63 n d _ q (ih) _ _ _ _ _ _ _ _ _ _ _ _ h
      · exact k_cReader_takeNewName_b63 n d _ q (ih) _ _ _ _ _ _ _ _ _ _ _ _ h
set_option maxRecDepth 100000 in
theorem k_cReader_takeNewName (n d : Nat) (q : bS) (x1 : Int32) (x2 : Int32) (ra : Nat) (rb : Nat) (rc : Nat) (re : Nat) (rf : Value) (rg : Value) (σ : bS) (h : cReader_takeNewName n x1 x2 σ = some q) : bfr MT (d + 2) M_X4_takeNewName 0 [some (.ref 44), some (.int x1), some (.int x2), none, none, none, none] [] [] (mkC ra rb rc re rf rg σ) (none, mkC ra rb rc re rf rg q) := by
  unfold cReader_takeNewName at h
  refine bfr_in (i := (sI σ 44 4)) (m := 401) 6 (pc1 := 12) (L1 := [some (.ref 44), some (.int x1), some (.int x2), none, none, none, none]) (J1 := []) (st1 := [(.long (sJ σ 52 (sI σ 44 4)))]) (w1 := mkC ra rb rc re rf rg σ) (fun _ _ => rfl) h (fun h => ?_)
  refine bfr_run 6 21 [some (.ref 44), some (.int x1), some (.int x2), none, none, some (.int (sI σ 44 4)), none] [(3, (sJ σ 52 (sI σ 44 4)))] [(.int ci_2), (.ref 44)] (mkC ra rb rc re rf rg σ) (fun _ _ => rfl) ?_
  refine bfr_call 1 (d1 := d + 1) (M1 := M_X4_take) (vs := [(.ref 44), (.int ci_2)]) (w1 := mkC ra rb rc re rf rg σ) (pc2 := 24) (L2 := [some (.ref 44), some (.int x1), some (.int x2), none, none, some (.int (sI σ 44 4)), none]) (J2 := [(3, (sJ σ 52 (sI σ 44 4)))]) (rest := []) (fun _ => none) (fun a => mkC ra rb rc re rf rg a) (fun _ _ => rfl) h (fun a ha => k_cReader_take n (d + 0) _ _ _ _ _ _ _ _ _ ha) (fun q2 _ h => ?_)
  refine bfr_br 3 (pc1 := 32) (L1 := [some (.ref 44), some (.int x1), some (.int x2), none, none, some (.int (sI σ 44 4)), none]) (J1 := [(3, (sJ σ 52 (sI σ 44 4)))]) (st1 := []) (w1 := mkC ra rb rc re rf rg q2) (pc2 := 31) (L2 := [some (.ref 44), some (.int x1), some (.int x2), none, none, some (.int (sI σ 44 4)), none]) (J2 := [(3, (sJ σ 52 (sI σ 44 4)))]) (st2 := []) (w2 := mkC ra rb rc re rf rg q2) (fun _ _ => rfl) h (fun h => ?_) (fun h => ?_)
  · refine bfr_run 2 35 [some (.ref 44), some (.int x1), some (.int x2), none, none, some (.int (sI σ 44 4)), some (.int ci_0)] [(3, (sJ σ 52 (sI σ 44 4)))] [] (mkC ra rb rc re rf rg q2) (fun _ _ => rfl) ?_
    exact k_cReader_takeNewName_b35 n d q _ _ _ _ _ _ _ _ _ _ _ _ _ h
  · cases h
    exact bfr_ret 1 (fun _ _ => rfl)
set_option maxRecDepth 100000 in
theorem k_cTold_addMan_s_b49 (n d : Nat) (q : bS) (o0 : Option Value) (o1 : Option Value) (o2 : Option Value) (o3 : Option Value) (ra : Nat) (rb : Nat) (rc : Nat) (re : Nat) (rf : Value) (rg : Value) (σ : bS) (h : cTold_addMan_s_b49 n σ = some q) : bfr MT (d + 0) M_X9_addMan 49 [o0, o1, o2, o3] [] [] (mkC ra rb rc re rf rg σ) (none, mkC ra rb rc re rf rg q) := by
  unfold cTold_addMan_s_b49 at h
  cases h
  exact bfr_ret 1 (fun _ _ => rfl)
set_option maxRecDepth 100000 in
theorem k_cTold_addMan_s (n d : Nat) (q : bS) (x1 : Int32) (x2 : Int32) (x3 : Int32) (ra : Nat) (rb : Nat) (rc : Nat) (re : Nat) (rf : Value) (rg : Value) (σ : bS) (h : cTold_addMan_s n x1 x2 x3 σ = some q) : bfr MT (d + 0) M_X9_addMan 0 [some (.ref 14), some (.int x1), some (.int x2), some (.int x3)] [] [] (mkC ra rb rc re rf rg σ) (none, mkC ra rb rc re rf rg q) := by
  unfold cTold_addMan_s at h
  refine bfr_br 4 (pc1 := 49) (L1 := [some (.ref 14), some (.int x1), some (.int x2), some (.int x3)]) (J1 := []) (st1 := []) (w1 := mkC ra rb rc re rf rg σ) (pc2 := 9) (L2 := [some (.ref 14), some (.int x1), some (.int x2), some (.int x3)]) (J2 := []) (st2 := []) (w2 := mkC ra rb rc re rf rg σ) (fun _ _ => rfl) h (fun h => ?_) (fun h => ?_)
  · exact k_cTold_addMan_s_b49 n d q _ _ _ _ _ _ _ _ _ _ _ h
  · refine bfr_in (i := (sI σ 14 3)) (m := 7) 6 (pc1 := 19) (L1 := [some (.ref 14), some (.int x1), some (.int x2), some (.int x3)]) (J1 := []) (st1 := []) (w1 := ((mkC ra rb rc re rf rg σ).set 18 (.inl (0, 7, upd (σ.2.1 18) ((sI σ 14 3)).toNatClampNeg x1)))) (fun _ _ => rfl) h (fun h => ?_)
    rw [mkC_A18]
    refine bfr_in (i := (sI (uA σ 18 (sI σ 14 3) x1) 14 3)) (m := 7) 6 (pc1 := 29) (L1 := [some (.ref 14), some (.int x1), some (.int x2), some (.int x3)]) (J1 := []) (st1 := []) (w1 := ((mkC ra rb rc re rf rg (uA σ 18 (sI σ 14 3) x1)).set 19 (.inl (0, 7, upd ((uA σ 18 (sI σ 14 3) x1).2.1 19) ((sI (uA σ 18 (sI σ 14 3) x1) 14 3)).toNatClampNeg x2)))) (fun _ _ => rfl) h (fun h => ?_)
    rw [mkC_A19]
    refine bfr_in (i := (sI (uA (uA σ 18 (sI σ 14 3) x1) 19 (sI (uA σ 18 (sI σ 14 3) x1) 14 3) x2) 14 3)) (m := 7) 6 (pc1 := 39) (L1 := [some (.ref 14), some (.int x1), some (.int x2), some (.int x3)]) (J1 := []) (st1 := []) (w1 := ((mkC ra rb rc re rf rg (uA (uA σ 18 (sI σ 14 3) x1) 19 (sI (uA σ 18 (sI σ 14 3) x1) 14 3) x2)).set 20 (.inl (0, 7, upd ((uA (uA σ 18 (sI σ 14 3) x1) 19 (sI (uA σ 18 (sI σ 14 3) x1) 14 3) x2).2.1 20) ((sI (uA (uA σ 18 (sI σ 14 3) x1) 19 (sI (uA σ 18 (sI σ 14 3) x1) 14 3) x2) 14 3)).toNatClampNeg x3)))) (fun _ _ => rfl) h (fun h => ?_)
    rw [mkC_A20]
    refine bfr_run 6 49 [some (.ref 14), some (.int x1), some (.int x2), some (.int x3)] [] [] ((mkC ra rb rc re rf rg (uA (uA (uA σ 18 (sI σ 14 3) x1) 19 (sI (uA σ 18 (sI σ 14 3) x1) 14 3) x2) 20 (sI (uA (uA σ 18 (sI σ 14 3) x1) 19 (sI (uA σ 18 (sI σ 14 3) x1) 14 3) x2) 14 3) x3)).set 14 (.inr (.inr (9, (mkC_14  ra rb rc re rf rg (uA (uA (uA σ 18 (sI σ 14 3) x1) 19 (sI (uA σ 18 (sI σ 14 3) x1) 14 3) x2) 20 (sI (uA (uA σ 18 (sI σ 14 3) x1) 19 (sI (uA σ 18 (sI σ 14 3) x1) 14 3) x2) 14 3) x3)).set 3 (.int ((sI (uA (uA (uA σ 18 (sI σ 14 3) x1) 19 (sI (uA σ 18 (sI σ 14 3) x1) 14 3) x2) 20 (sI (uA (uA σ 18 (sI σ 14 3) x1) 19 (sI (uA σ 18 (sI σ 14 3) x1) 14 3) x2) 14 3) x3) 14 3) + ci_1)))))) (fun _ _ => rfl) ?_
    rw [mkC_I14_3]
    exact k_cTold_addMan_s_b49 n d q _ _ _ _ _ _ _ _ _ _ _ h
set_option maxRecDepth 100000 in
theorem k_cReader_readMan_b73 (n d : Nat) (q : bS) (o0 : Option Value) (o1 : Option Value) (o2 : Option Value) (o3 : Option Value) (ra : Nat) (rb : Nat) (rc : Nat) (re : Nat) (rg : Value) (σ : bS) (h : cReader_readMan_b73 n σ = some q) : bfr MT (d + 3) M_X4_readMan 73 [o0, o1, o2, o3] [] [] (mkC ra rb rc re (.ref 14) rg σ) (none, mkC ra rb rc re (.ref 14) rg q) := by
  unfold cReader_readMan_b73 at h
  cases h
  exact bfr_ret 1 (fun _ _ => rfl)
set_option maxRecDepth 100000 in
theorem k_cReader_readMan (n d : Nat) (q : bS) (ra : Nat) (rb : Nat) (rc : Nat) (re : Nat) (rg : Value) (σ : bS) (h : cReader_readMan n σ = some q) : bfr MT (d + 3) M_X4_readMan 0 [some (.ref 44), none, none, none] [] [] (mkC ra rb rc re (.ref 14) rg σ) (none, mkC ra rb rc re (.ref 14) rg q) := by
  unfold cReader_readMan at h
  refine bfr_run 6 12 [some (.ref 44), none, none, none] [] [(.int cb_7), (.int (sI σ 14 3)), (.int cb_16), (.ref 44)] (mkC ra rb rc re (.ref 14) rg σ) (fun _ _ => rfl) ?_
  refine bfr_call 1 (d1 := d + 2) (M1 := M_X4_takeFirst) (vs := [(.ref 44), (.int cb_16), (.int (sI σ 14 3)), (.int cb_7)]) (w1 := mkC ra rb rc re (.ref 14) rg σ) (pc2 := 15) (L2 := [some (.ref 44), none, none, none]) (J2 := []) (rest := []) (fun _ => none) (fun a => mkC ra rb rc re (.ref 14) rg a) (fun _ _ => rfl) h (fun a ha => k_cReader_takeFirst n (d + 0) _ _ _ _ _ _ _ _ _ _ _ ha) (fun q1 _ h => ?_)
  refine bfr_call 6 (d1 := d + 2) (M1 := M_X4_takeNewName) (vs := [(.ref 44), (.int cb_16), (.int (sI q1 14 3))]) (w1 := mkC ra rb rc re (.ref 14) rg q1) (pc2 := 28) (L2 := [some (.ref 44), none, none, none]) (J2 := []) (rest := []) (fun _ => none) (fun a => mkC ra rb rc re (.ref 14) rg a) (fun _ _ => rfl) h (fun a ha => k_cReader_takeNewName n (d + 0) _ _ _ _ _ _ _ _ _ _ ha) (fun q2 _ h => ?_)
  refine bfr_call 3 (d1 := d + 2) (M1 := M_X4_takeName) (vs := [(.ref 44), (.int cb_13)]) (w1 := mkC ra rb rc re (.ref 14) rg q2) (pc2 := 34) (L2 := [some (.ref 44), none, none, none]) (J2 := []) (rest := []) (fun a => some (.int a.1)) (fun a => mkC ra rb rc re (.ref 14) rg a.2) (fun _ _ => rfl) h (fun a ha => k_cReader_takeName n (d + 0) _ _ _ _ _ _ _ _ _ ha) (fun q3 _ h => ?_)
  refine bfr_call 4 (d1 := d + 2) (M1 := M_X4_takeName) (vs := [(.ref 44), (.int cb_13)]) (w1 := mkC ra rb rc re (.ref 14) rg q3.2) (pc2 := 41) (L2 := [some (.ref 44), some (.int q3.1), none, none]) (J2 := []) (rest := []) (fun a => some (.int a.1)) (fun a => mkC ra rb rc re (.ref 14) rg a.2) (fun _ _ => rfl) h (fun a ha => k_cReader_takeName n (d + 0) _ _ _ _ _ _ _ _ _ ha) (fun q4 _ h => ?_)
  refine bfr_call 5 (d1 := d + 2) (M1 := M_X4_takeInt) (vs := [(.ref 44), (.int ci_0), (.int cs_999)]) (w1 := mkC ra rb rc re (.ref 14) rg q4.2) (pc2 := 50) (L2 := [some (.ref 44), some (.int q3.1), some (.int q4.1), none]) (J2 := []) (rest := []) (fun a => some (.int a.1)) (fun a => mkC ra rb rc re (.ref 14) rg a.2) (fun _ _ => rfl) h (fun a ha => k_cReader_takeInt n (d + 0) _ _ _ _ _ _ _ _ _ _ ha) (fun q5 _ h => ?_)
  refine bfr_call 4 (d1 := d + 2) (M1 := M_X4_take) (vs := [(.ref 44), (.int ci_4)]) (w1 := mkC ra rb rc re (.ref 14) rg q5.2) (pc2 := 56) (L2 := [some (.ref 44), some (.int q3.1), some (.int q4.1), some (.int q5.1)]) (J2 := []) (rest := []) (fun _ => none) (fun a => mkC ra rb rc re (.ref 14) rg a) (fun _ _ => rfl) h (fun a ha => k_cReader_take n (d + 1) _ _ _ _ _ _ _ _ _ ha) (fun q6 _ h => ?_)
  refine bfr_br 3 (pc1 := 63) (L1 := [some (.ref 44), some (.int q3.1), some (.int q4.1), some (.int q5.1)]) (J1 := []) (st1 := []) (w1 := mkC ra rb rc re (.ref 14) rg q6) (pc2 := 73) (L2 := [some (.ref 44), some (.int q3.1), some (.int q4.1), some (.int q5.1)]) (J2 := []) (st2 := []) (w2 := mkC ra rb rc re (.ref 14) rg q6) (fun _ _ => rfl) h (fun h => ?_) (fun h => ?_)
  · refine bfr_call 6 (d1 := d + 2) (M1 := M_X9_addMan) (vs := [(.ref 14), (.int q3.1), (.int q4.1), (.int q5.1)]) (w1 := mkC ra rb rc re (.ref 14) rg q6) (pc2 := 73) (L2 := [some (.ref 44), some (.int q3.1), some (.int q4.1), some (.int q5.1)]) (J2 := []) (rest := []) (fun _ => none) (fun a => mkC ra rb rc re (.ref 14) rg a) (fun _ _ => rfl) h (fun a ha => k_cTold_addMan_s n (d + 2) _ _ _ _ _ _ _ _ _ _ _ ha) (fun q7 _ h => ?_)
    exact k_cReader_readMan_b73 n d q _ _ _ _ _ _ _ _ _ _ h
  · exact k_cReader_readMan_b73 n d q _ _ _ _ _ _ _ _ _ _ h
set_option maxRecDepth 100000 in
theorem k_cTold_addBridge_s_b38 (n d : Nat) (q : bS) (o0 : Option Value) (o1 : Option Value) (o2 : Option Value) (ra : Nat) (rb : Nat) (rc : Nat) (re : Nat) (rf : Value) (rg : Value) (σ : bS) (h : cTold_addBridge_s_b38 n σ = some q) : bfr MT (d + 0) M_X9_addBridge 38 [o0, o1, o2] [] [] (mkC ra rb rc re rf rg σ) (none, mkC ra rb rc re rf rg q) := by
  unfold cTold_addBridge_s_b38 at h
  cases h
  exact bfr_ret 1 (fun _ _ => rfl)
set_option maxRecDepth 100000 in
theorem k_cTold_addBridge_s (n d : Nat) (q : bS) (x1 : Int32) (x2 : Int32) (ra : Nat) (rb : Nat) (rc : Nat) (re : Nat) (rf : Value) (rg : Value) (σ : bS) (h : cTold_addBridge_s n x1 x2 σ = some q) : bfr MT (d + 0) M_X9_addBridge 0 [some (.ref 14), some (.int x1), some (.int x2)] [] [] (mkC ra rb rc re rf rg σ) (none, mkC ra rb rc re rf rg q) := by
  unfold cTold_addBridge_s at h
  refine bfr_br 4 (pc1 := 38) (L1 := [some (.ref 14), some (.int x1), some (.int x2)]) (J1 := []) (st1 := []) (w1 := mkC ra rb rc re rf rg σ) (pc2 := 8) (L2 := [some (.ref 14), some (.int x1), some (.int x2)]) (J2 := []) (st2 := []) (w2 := mkC ra rb rc re rf rg σ) (fun _ _ => rfl) h (fun h => ?_) (fun h => ?_)
  · exact k_cTold_addBridge_s_b38 n d q _ _ _ _ _ _ _ _ _ _ h
  · refine bfr_in (i := (sI σ 14 2)) (m := 4) 6 (pc1 := 18) (L1 := [some (.ref 14), some (.int x1), some (.int x2)]) (J1 := []) (st1 := []) (w1 := ((mkC ra rb rc re rf rg σ).set 16 (.inl (0, 4, upd (σ.2.1 16) ((sI σ 14 2)).toNatClampNeg x1)))) (fun _ _ => rfl) h (fun h => ?_)
    rw [mkC_A16]
    refine bfr_in (i := (sI (uA σ 16 (sI σ 14 2) x1) 14 2)) (m := 4) 6 (pc1 := 28) (L1 := [some (.ref 14), some (.int x1), some (.int x2)]) (J1 := []) (st1 := []) (w1 := ((mkC ra rb rc re rf rg (uA σ 16 (sI σ 14 2) x1)).set 17 (.inl (0, 4, upd ((uA σ 16 (sI σ 14 2) x1).2.1 17) ((sI (uA σ 16 (sI σ 14 2) x1) 14 2)).toNatClampNeg x2)))) (fun _ _ => rfl) h (fun h => ?_)
    rw [mkC_A17]
    refine bfr_run 6 38 [some (.ref 14), some (.int x1), some (.int x2)] [] [] ((mkC ra rb rc re rf rg (uA (uA σ 16 (sI σ 14 2) x1) 17 (sI (uA σ 16 (sI σ 14 2) x1) 14 2) x2)).set 14 (.inr (.inr (9, (mkC_14  ra rb rc re rf rg (uA (uA σ 16 (sI σ 14 2) x1) 17 (sI (uA σ 16 (sI σ 14 2) x1) 14 2) x2)).set 2 (.int ((sI (uA (uA σ 16 (sI σ 14 2) x1) 17 (sI (uA σ 16 (sI σ 14 2) x1) 14 2) x2) 14 2) + ci_1)))))) (fun _ _ => rfl) ?_
    rw [mkC_I14_2]
    exact k_cTold_addBridge_s_b38 n d q _ _ _ _ _ _ _ _ _ _ h
set_option maxRecDepth 100000 in
theorem k_cReader_readBridge_b74 (n d : Nat) (q : bS) (o0 : Option Value) (o1 : Option Value) (o2 : Option Value) (ra : Nat) (rb : Nat) (rc : Nat) (re : Nat) (rg : Value) (σ : bS) (h : cReader_readBridge_b74 n σ = some q) : bfr MT (d + 3) M_X4_readBridge 74 [o0, o1, o2] [] [] (mkC ra rb rc re (.ref 14) rg σ) (none, mkC ra rb rc re (.ref 14) rg q) := by
  unfold cReader_readBridge_b74 at h
  cases h
  exact bfr_ret 1 (fun _ _ => rfl)
set_option maxRecDepth 100000 in
theorem k_cReader_readBridge_b52 (n d : Nat) (q : bS) (x1 : Int32) (s0 : Int32) (o2 : Option Value) (ra : Nat) (rb : Nat) (rc : Nat) (re : Nat) (rg : Value) (σ : bS) (h : cReader_readBridge_b52 n x1 s0 σ = some q) : bfr MT (d + 3) M_X4_readBridge 52 [some (.ref 44), some (.int x1), o2] [] [(.int s0)] (mkC ra rb rc re (.ref 14) rg σ) (none, mkC ra rb rc re (.ref 14) rg q) := by
  unfold cReader_readBridge_b52 at h
  refine bfr_call 4 (d1 := d + 2) (M1 := M_X4_take) (vs := [(.ref 44), (.int ci_4)]) (w1 := mkC ra rb rc re (.ref 14) rg σ) (pc2 := 58) (L2 := [some (.ref 44), some (.int x1), some (.int s0)]) (J2 := []) (rest := []) (fun _ => none) (fun a => mkC ra rb rc re (.ref 14) rg a) (fun _ _ => rfl) h (fun a ha => k_cReader_take n (d + 1) _ _ _ _ _ _ _ _ _ ha) (fun q1 _ h => ?_)
  refine bfr_br 3 (pc1 := 65) (L1 := [some (.ref 44), some (.int x1), some (.int s0)]) (J1 := []) (st1 := []) (w1 := mkC ra rb rc re (.ref 14) rg q1) (pc2 := 74) (L2 := [some (.ref 44), some (.int x1), some (.int s0)]) (J2 := []) (st2 := []) (w2 := mkC ra rb rc re (.ref 14) rg q1) (fun _ _ => rfl) h (fun h => ?_) (fun h => ?_)
  · refine bfr_call 5 (d1 := d + 2) (M1 := M_X9_addBridge) (vs := [(.ref 14), (.int x1), (.int s0)]) (w1 := mkC ra rb rc re (.ref 14) rg q1) (pc2 := 74) (L2 := [some (.ref 44), some (.int x1), some (.int s0)]) (J2 := []) (rest := []) (fun _ => none) (fun a => mkC ra rb rc re (.ref 14) rg a) (fun _ _ => rfl) h (fun a ha => k_cTold_addBridge_s n (d + 2) _ _ _ _ _ _ _ _ _ _ ha) (fun q2 _ h => ?_)
    exact k_cReader_readBridge_b74 n d q _ _ _ _ _ _ _ _ _ h
  · exact k_cReader_readBridge_b74 n d q _ _ _ _ _ _ _ _ _ h
set_option maxRecDepth 100000 in
theorem k_cReader_readBridge (n d : Nat) (q : bS) (ra : Nat) (rb : Nat) (rc : Nat) (re : Nat) (rg : Value) (σ : bS) (h : cReader_readBridge n σ = some q) : bfr MT (d + 3) M_X4_readBridge 0 [some (.ref 44), none, none] [] [] (mkC ra rb rc re (.ref 14) rg σ) (none, mkC ra rb rc re (.ref 14) rg q) := by
  unfold cReader_readBridge at h
  refine bfr_run 6 11 [some (.ref 44), none, none] [] [(.int ci_4), (.int (sI σ 14 2)), (.int cb_15), (.ref 44)] (mkC ra rb rc re (.ref 14) rg σ) (fun _ _ => rfl) ?_
  refine bfr_call 1 (d1 := d + 2) (M1 := M_X4_takeFirst) (vs := [(.ref 44), (.int cb_15), (.int (sI σ 14 2)), (.int ci_4)]) (w1 := mkC ra rb rc re (.ref 14) rg σ) (pc2 := 14) (L2 := [some (.ref 44), none, none]) (J2 := []) (rest := []) (fun _ => none) (fun a => mkC ra rb rc re (.ref 14) rg a) (fun _ _ => rfl) h (fun a ha => k_cReader_takeFirst n (d + 0) _ _ _ _ _ _ _ _ _ _ _ ha) (fun q3 _ h => ?_)
  refine bfr_call 6 (d1 := d + 2) (M1 := M_X4_takeNewName) (vs := [(.ref 44), (.int cb_15), (.int (sI q3 14 2))]) (w1 := mkC ra rb rc re (.ref 14) rg q3) (pc2 := 27) (L2 := [some (.ref 44), none, none]) (J2 := []) (rest := []) (fun _ => none) (fun a => mkC ra rb rc re (.ref 14) rg a) (fun _ _ => rfl) h (fun a ha => k_cReader_takeNewName n (d + 0) _ _ _ _ _ _ _ _ _ _ ha) (fun q4 _ h => ?_)
  refine bfr_call 3 (d1 := d + 2) (M1 := M_X4_takeName) (vs := [(.ref 44), (.int cb_13)]) (w1 := mkC ra rb rc re (.ref 14) rg q4) (pc2 := 33) (L2 := [some (.ref 44), none, none]) (J2 := []) (rest := []) (fun a => some (.int a.1)) (fun a => mkC ra rb rc re (.ref 14) rg a.2) (fun _ _ => rfl) h (fun a ha => k_cReader_takeName n (d + 0) _ _ _ _ _ _ _ _ _ ha) (fun q5 _ h => ?_)
  refine bfr_call 3 (d1 := d + 2) (M1 := M_X4_kind) (vs := [(.ref 44)]) (w1 := mkC ra rb rc re (.ref 14) rg q5.2) (pc2 := 38) (L2 := [some (.ref 44), some (.int q5.1), none]) (J2 := []) (rest := []) (fun a => some (.int a.1)) (fun a => mkC ra rb rc re (.ref 14) rg a.2) (fun _ _ => rfl) h (fun a ha => k_cReader_kind n (d + 2) _ _ _ _ _ _ _ _ ha) (fun q6 _ h => ?_)
  refine bfr_br 2 (pc1 := 42) (L1 := [some (.ref 44), some (.int q5.1), none]) (J1 := []) (st1 := []) (w1 := mkC ra rb rc re (.ref 14) rg q6.2) (pc2 := 51) (L2 := [some (.ref 44), some (.int q5.1), none]) (J2 := []) (st2 := []) (w2 := mkC ra rb rc re (.ref 14) rg q6.2) (fun _ _ => rfl) h (fun h => ?_) (fun h => ?_)
  · refine bfr_call 3 (d1 := d + 2) (M1 := M_X4_takeName) (vs := [(.ref 44), (.int cb_13)]) (w1 := mkC ra rb rc re (.ref 14) rg q6.2) (pc2 := 48) (L2 := [some (.ref 44), some (.int q5.1), none]) (J2 := []) (rest := []) (fun a => some (.int a.1)) (fun a => mkC ra rb rc re (.ref 14) rg a.2) (fun _ _ => rfl) h (fun a ha => k_cReader_takeName n (d + 0) _ _ _ _ _ _ _ _ _ ha) (fun q7 _ h => ?_)
    refine bfr_run 1 52 [some (.ref 44), some (.int q5.1), none] [] [(.int q7.1)] (mkC ra rb rc re (.ref 14) rg q7.2) (fun _ _ => rfl) ?_
    exact k_cReader_readBridge_b52 n d q _ _ _ _ _ _ _ _ _ h
  · refine bfr_run 1 52 [some (.ref 44), some (.int q5.1), none] [] [(.int ci_m1)] (mkC ra rb rc re (.ref 14) rg q6.2) (fun _ _ => rfl) ?_
    exact k_cReader_readBridge_b52 n d q _ _ _ _ _ _ _ _ _ h
set_option maxRecDepth 100000 in
theorem k_cTold_pathHours_s (n d : Nat) (q : (Int32 × bS)) (x1 : Int32) (x2 : Int32) (ra : Nat) (rb : Nat) (rc : Nat) (re : Nat) (rf : Value) (rg : Value) (σ : bS) (h : cTold_pathHours_s n x1 x2 σ = some q) : bfr MT (d + 0) M_X9_pathHours 0 [some (.ref 14), some (.int x1), some (.int x2)] [] [] (mkC ra rb rc re rf rg σ) (some (.int q.1), mkC ra rb rc re rf rg q.2) := by
  unfold cTold_pathHours_s at h
  refine bfr_run 6 9 [some (.ref 14), some (.int x1), some (.int x2)] [] [(.int x2), (.int (x1 * cb_6)), (.ref 15)] (mkC ra rb rc re rf rg σ) (fun _ _ => rfl) ?_
  refine bfr_in (i := ((x1 * cb_6) + x2)) (m := 36) 2 (pc1 := 11) (L1 := [some (.ref 14), some (.int x1), some (.int x2)]) (J1 := []) (st1 := [(.int (sA σ 15 ((x1 * cb_6) + x2)))]) (w1 := mkC ra rb rc re rf rg σ) (fun _ _ => rfl) h (fun h => ?_)
  cases h
  exact bfr_ret 1 (fun _ _ => rfl)
set_option maxRecDepth 100000 in
theorem k_cTold_addPath_s_b62 (n d : Nat) (q : bS) (o0 : Option Value) (o1 : Option Value) (o2 : Option Value) (o3 : Option Value) (o4 : Option Value) (ra : Nat) (rb : Nat) (rc : Nat) (re : Nat) (rf : Value) (rg : Value) (σ : bS) (h : cTold_addPath_s_b62 n σ = some q) : bfr MT (d + 1) M_X9_addPath 62 [o0, o1, o2, o3, o4] [] [] (mkC ra rb rc re rf rg σ) (none, mkC ra rb rc re rf rg q) := by
  unfold cTold_addPath_s_b62 at h
  cases h
  exact bfr_ret 1 (fun _ _ => rfl)
set_option maxRecDepth 100000 in
theorem k_cTold_addPath_s_b38 (n d : Nat) (q : bS) (x1 : Int32) (x2 : Int32) (x3 : Int32) (o4 : Option Value) (ra : Nat) (rb : Nat) (rc : Nat) (re : Nat) (rf : Value) (rg : Value) (σ : bS) (h : cTold_addPath_s_b38 n x1 x2 x3 σ = some q) : bfr MT (d + 1) M_X9_addPath 38 [some (.ref 14), some (.int x1), some (.int x2), some (.int x3), o4] [] [] (mkC ra rb rc re rf rg σ) (none, mkC ra rb rc re rf rg q) := by
  unfold cTold_addPath_s_b38 at h
  refine bfr_run 6 47 [some (.ref 14), some (.int x1), some (.int x2), some (.int x3), o4] [] [(.int x2), (.int (x1 * cb_6)), (.ref 15)] (mkC ra rb rc re rf rg σ) (fun _ _ => rfl) ?_
  refine bfr_in (i := ((x1 * cb_6) + x2)) (m := 36) 3 (pc1 := 50) (L1 := [some (.ref 14), some (.int x1), some (.int x2), some (.int x3), o4]) (J1 := []) (st1 := []) (w1 := ((mkC ra rb rc re rf rg σ).set 15 (.inl (0, 36, upd (σ.2.1 15) (((x1 * cb_6) + x2)).toNatClampNeg x3)))) (fun _ _ => rfl) h (fun h => ?_)
  rw [mkC_A15]
  refine bfr_run 6 59 [some (.ref 14), some (.int x1), some (.int x2), some (.int x3), o4] [] [(.int x1), (.int (x2 * cb_6)), (.ref 15)] (mkC ra rb rc re rf rg (uA σ 15 ((x1 * cb_6) + x2) x3)) (fun _ _ => rfl) ?_
  refine bfr_in (i := ((x2 * cb_6) + x1)) (m := 36) 3 (pc1 := 62) (L1 := [some (.ref 14), some (.int x1), some (.int x2), some (.int x3), o4]) (J1 := []) (st1 := []) (w1 := ((mkC ra rb rc re rf rg (uA σ 15 ((x1 * cb_6) + x2) x3)).set 15 (.inl (0, 36, upd ((uA σ 15 ((x1 * cb_6) + x2) x3).2.1 15) (((x2 * cb_6) + x1)).toNatClampNeg x3)))) (fun _ _ => rfl) h (fun h => ?_)
  rw [mkC_A15]
  exact k_cTold_addPath_s_b62 n d q _ _ _ _ _ _ _ _ _ _ _ _ h
set_option maxRecDepth 100000 in
theorem k_cTold_addPath_s_b18 (n d : Nat) (q : bS) (o0 : Option Value) (o1 : Option Value) (o2 : Option Value) (o3 : Option Value) (o4 : Option Value) (ra : Nat) (rb : Nat) (rc : Nat) (re : Nat) (rf : Value) (rg : Value) (σ : bS) (h : cTold_addPath_s_b18 n σ = some q) : bfr MT (d + 1) M_X9_addPath 18 [o0, o1, o2, o3, o4] [] [] (mkC ra rb rc re rf rg σ) (none, mkC ra rb rc re rf rg q) := by
  unfold cTold_addPath_s_b18 at h
  cases h
  exact bfr_ret 1 (fun _ _ => rfl)
set_option maxRecDepth 100000 in
theorem k_cTold_addPath_s (n d : Nat) (q : bS) (x1 : Int32) (x2 : Int32) (x3 : Int32) (ra : Nat) (rb : Nat) (rc : Nat) (re : Nat) (rf : Value) (rg : Value) (σ : bS) (h : cTold_addPath_s n x1 x2 x3 σ = some q) : bfr MT (d + 1) M_X9_addPath 0 [some (.ref 14), some (.int x1), some (.int x2), some (.int x3), none] [] [] (mkC ra rb rc re rf rg σ) (none, mkC ra rb rc re rf rg q) := by
  unfold cTold_addPath_s at h
  refine bfr_run 6 10 [some (.ref 14), some (.int x1), some (.int x2), some (.int x3), none] [] [] ((mkC ra rb rc re rf rg σ).set 14 (.inr (.inr (9, (mkC_14  ra rb rc re rf rg σ).set 1 (.int ((sI σ 14 1) + ci_1)))))) (fun _ _ => rfl) ?_
  rw [mkC_I14_1]
  refine bfr_br 2 (pc1 := 18) (L1 := [some (.ref 14), some (.int x1), some (.int x2), some (.int x3), none]) (J1 := []) (st1 := []) (w1 := mkC ra rb rc re rf rg (uI σ 14 1 ((sI σ 14 1) + ci_1))) (pc2 := 14) (L2 := [some (.ref 14), some (.int x1), some (.int x2), some (.int x3), none]) (J2 := []) (st2 := []) (w2 := mkC ra rb rc re rf rg (uI σ 14 1 ((sI σ 14 1) + ci_1))) (fun _ _ => rfl) h (fun h => ?_) (fun h => ?_)
  · exact k_cTold_addPath_s_b18 n d q _ _ _ _ _ _ _ _ _ _ _ _ h
  · refine bfr_br 2 (pc1 := 19) (L1 := [some (.ref 14), some (.int x1), some (.int x2), some (.int x3), none]) (J1 := []) (st1 := []) (w1 := mkC ra rb rc re rf rg (uI σ 14 1 ((sI σ 14 1) + ci_1))) (pc2 := 18) (L2 := [some (.ref 14), some (.int x1), some (.int x2), some (.int x3), none]) (J2 := []) (st2 := []) (w2 := mkC ra rb rc re rf rg (uI σ 14 1 ((sI σ 14 1) + ci_1))) (fun _ _ => rfl) h (fun h => ?_) (fun h => ?_)
    · refine bfr_call 4 (d1 := d + 0) (M1 := M_X9_pathHours) (vs := [(.ref 14), (.int x1), (.int x2)]) (w1 := mkC ra rb rc re rf rg (uI σ 14 1 ((sI σ 14 1) + ci_1))) (pc2 := 25) (L2 := [some (.ref 14), some (.int x1), some (.int x2), some (.int x3), none]) (J2 := []) (rest := []) (fun a => some (.int a.1)) (fun a => mkC ra rb rc re rf rg a.2) (fun _ _ => rfl) h (fun a ha => k_cTold_pathHours_s n (d + 0) _ _ _ _ _ _ _ _ _ _ ha) (fun q1 _ h => ?_)
      refine bfr_br 3 (pc1 := 38) (L1 := [some (.ref 14), some (.int x1), some (.int x2), some (.int x3), some (.int q1.1)]) (J1 := []) (st1 := []) (w1 := mkC ra rb rc re rf rg q1.2) (pc2 := 32) (L2 := [some (.ref 14), some (.int x1), some (.int x2), some (.int x3), some (.int q1.1)]) (J2 := []) (st2 := []) (w2 := mkC ra rb rc re rf rg q1.2) (fun _ _ => rfl) h (fun h => ?_) (fun h => ?_)
      · exact k_cTold_addPath_s_b38 n d q _ _ _ _ _ _ _ _ _ _ _ h
      · refine bfr_br 3 (pc1 := 62) (L1 := [some (.ref 14), some (.int x1), some (.int x2), some (.int x3), some (.int q1.1)]) (J1 := []) (st1 := []) (w1 := mkC ra rb rc re rf rg q1.2) (pc2 := 38) (L2 := [some (.ref 14), some (.int x1), some (.int x2), some (.int x3), some (.int q1.1)]) (J2 := []) (st2 := []) (w2 := mkC ra rb rc re rf rg q1.2) (fun _ _ => rfl) h (fun h => ?_) (fun h => ?_)
        · exact k_cTold_addPath_s_b62 n d q _ _ _ _ _ _ _ _ _ _ _ _ h
        · exact k_cTold_addPath_s_b38 n d q _ _ _ _ _ _ _ _ _ _ _ h
    · exact k_cTold_addPath_s_b18 n d q _ _ _ _ _ _ _ _ _ _ _ _ h
set_option maxRecDepth 100000 in
theorem k_cReader_readPath_b88 (n d : Nat) (q : bS) (o0 : Option Value) (o1 : Option Value) (o2 : Option Value) (o3 : Option Value) (o4 : Option Value) (ra : Nat) (rb : Nat) (rc : Nat) (re : Nat) (rg : Value) (σ : bS) (h : cReader_readPath_b88 n σ = some q) : bfr MT (d + 3) M_X4_readPath 88 [o0, o1, o2, o3, o4] [] [] (mkC ra rb rc re (.ref 14) rg σ) (none, mkC ra rb rc re (.ref 14) rg q) := by
  unfold cReader_readPath_b88 at h
  cases h
  exact bfr_ret 1 (fun _ _ => rfl)
set_option maxRecDepth 100000 in
theorem k_cReader_readPath_b56 (n d : Nat) (q : bS) (x1 : Int32) (x3 : Int32) (o2 : Option Value) (o4 : Option Value) (ra : Nat) (rb : Nat) (rc : Nat) (re : Nat) (rg : Value) (σ : bS) (h : cReader_readPath_b56 n x1 x3 σ = some q) : bfr MT (d + 3) M_X4_readPath 56 [some (.ref 44), some (.int x1), o2, some (.int x3), o4] [] [] (mkC ra rb rc re (.ref 14) rg σ) (none, mkC ra rb rc re (.ref 14) rg q) := by
  unfold cReader_readPath_b56 at h
  refine bfr_call 4 (d1 := d + 2) (M1 := M_X4_takeInt) (vs := [(.ref 44), (.int ci_1), (.int cb_9)]) (w1 := mkC ra rb rc re (.ref 14) rg σ) (pc2 := 63) (L2 := [some (.ref 44), some (.int x1), o2, some (.int x3), o4]) (J2 := []) (rest := []) (fun a => some (.int a.1)) (fun a => mkC ra rb rc re (.ref 14) rg a.2) (fun _ _ => rfl) h (fun a ha => k_cReader_takeInt n (d + 0) _ _ _ _ _ _ _ _ _ _ ha) (fun q1 _ h => ?_)
  refine bfr_call 4 (d1 := d + 2) (M1 := M_X4_take) (vs := [(.ref 44), (.int ci_4)]) (w1 := mkC ra rb rc re (.ref 14) rg q1.2) (pc2 := 70) (L2 := [some (.ref 44), some (.int x1), o2, some (.int x3), some (.int q1.1)]) (J2 := []) (rest := []) (fun _ => none) (fun a => mkC ra rb rc re (.ref 14) rg a) (fun _ _ => rfl) h (fun a ha => k_cReader_take n (d + 1) _ _ _ _ _ _ _ _ _ ha) (fun q2 _ h => ?_)
  refine bfr_br 3 (pc1 := 77) (L1 := [some (.ref 44), some (.int x1), o2, some (.int x3), some (.int q1.1)]) (J1 := []) (st1 := []) (w1 := mkC ra rb rc re (.ref 14) rg q2) (pc2 := 88) (L2 := [some (.ref 44), some (.int x1), o2, some (.int x3), some (.int q1.1)]) (J2 := []) (st2 := []) (w2 := mkC ra rb rc re (.ref 14) rg q2) (fun _ _ => rfl) h (fun h => ?_) (fun h => ?_)
  · refine bfr_call 6 (d1 := d + 2) (M1 := M_X9_addPath) (vs := [(.ref 14), (.int x1), (.int x3), (.int q1.1)]) (w1 := mkC ra rb rc re (.ref 14) rg q2) (pc2 := 88) (L2 := [some (.ref 44), some (.int x1), o2, some (.int x3), some (.int q1.1)]) (J2 := []) (rest := []) (fun _ => none) (fun a => mkC ra rb rc re (.ref 14) rg a) (fun _ _ => rfl) h (fun a ha => k_cTold_addPath_s n (d + 1) _ _ _ _ _ _ _ _ _ _ _ ha) (fun q3 _ h => ?_)
    exact k_cReader_readPath_b88 n d q _ _ _ _ _ _ _ _ _ _ _ h
  · exact k_cReader_readPath_b88 n d q _ _ _ _ _ _ _ _ _ _ _ h
set_option maxRecDepth 100000 in
theorem k_cReader_readPath (n d : Nat) (q : bS) (ra : Nat) (rb : Nat) (rc : Nat) (re : Nat) (rg : Value) (σ : bS) (h : cReader_readPath n σ = some q) : bfr MT (d + 3) M_X4_readPath 0 [some (.ref 44), none, none, none, none] [] [] (mkC ra rb rc re (.ref 14) rg σ) (none, mkC ra rb rc re (.ref 14) rg q) := by
  unfold cReader_readPath at h
  refine bfr_run 6 12 [some (.ref 44), none, none, none, none] [] [(.int cb_10), (.int (sI σ 14 1)), (.int cb_14), (.ref 44)] (mkC ra rb rc re (.ref 14) rg σ) (fun _ _ => rfl) ?_
  refine bfr_call 1 (d1 := d + 2) (M1 := M_X4_takeFirst) (vs := [(.ref 44), (.int cb_14), (.int (sI σ 14 1)), (.int cb_10)]) (w1 := mkC ra rb rc re (.ref 14) rg σ) (pc2 := 15) (L2 := [some (.ref 44), none, none, none, none]) (J2 := []) (rest := []) (fun _ => none) (fun a => mkC ra rb rc re (.ref 14) rg a) (fun _ _ => rfl) h (fun a ha => k_cReader_takeFirst n (d + 0) _ _ _ _ _ _ _ _ _ _ _ ha) (fun q4 _ h => ?_)
  refine bfr_call 3 (d1 := d + 2) (M1 := M_X4_takeName) (vs := [(.ref 44), (.int cb_13)]) (w1 := mkC ra rb rc re (.ref 14) rg q4) (pc2 := 21) (L2 := [some (.ref 44), none, none, none, none]) (J2 := []) (rest := []) (fun a => some (.int a.1)) (fun a => mkC ra rb rc re (.ref 14) rg a.2) (fun _ _ => rfl) h (fun a ha => k_cReader_takeName n (d + 0) _ _ _ _ _ _ _ _ _ ha) (fun q5 _ h => ?_)
  refine bfr_run 6 30 [some (.ref 44), some (.int q5.1), some (.int (sI q5.2 44 4)), none, none] [] [(.int cb_13), (.ref 44)] (mkC ra rb rc re (.ref 14) rg q5.2) (fun _ _ => rfl) ?_
  refine bfr_call 1 (d1 := d + 2) (M1 := M_X4_takeName) (vs := [(.ref 44), (.int cb_13)]) (w1 := mkC ra rb rc re (.ref 14) rg q5.2) (pc2 := 33) (L2 := [some (.ref 44), some (.int q5.1), some (.int (sI q5.2 44 4)), none, none]) (J2 := []) (rest := []) (fun a => some (.int a.1)) (fun a => mkC ra rb rc re (.ref 14) rg a.2) (fun _ _ => rfl) h (fun a ha => k_cReader_takeName n (d + 0) _ _ _ _ _ _ _ _ _ ha) (fun q6 _ h => ?_)
  refine bfr_br 4 (pc1 := 41) (L1 := [some (.ref 44), some (.int q5.1), some (.int (sI q5.2 44 4)), some (.int q6.1), none]) (J1 := []) (st1 := []) (w1 := mkC ra rb rc re (.ref 14) rg q6.2) (pc2 := 56) (L2 := [some (.ref 44), some (.int q5.1), some (.int (sI q5.2 44 4)), some (.int q6.1), none]) (J2 := []) (st2 := []) (w2 := mkC ra rb rc re (.ref 14) rg q6.2) (fun _ _ => rfl) h (fun h => ?_) (fun h => ?_)
  · refine bfr_br 2 (pc1 := 56) (L1 := [some (.ref 44), some (.int q5.1), some (.int (sI q5.2 44 4)), some (.int q6.1), none]) (J1 := []) (st1 := []) (w1 := mkC ra rb rc re (.ref 14) rg q6.2) (pc2 := 45) (L2 := [some (.ref 44), some (.int q5.1), some (.int (sI q5.2 44 4)), some (.int q6.1), none]) (J2 := []) (st2 := []) (w2 := mkC ra rb rc re (.ref 14) rg q6.2) (fun _ _ => rfl) h (fun h => ?_) (fun h => ?_)
    · exact k_cReader_readPath_b56 n d q _ _ _ _ _ _ _ _ _ _ h
    · refine bfr_br 3 (pc1 := 50) (L1 := [some (.ref 44), some (.int q5.1), some (.int (sI q5.2 44 4)), some (.int q6.1), none]) (J1 := []) (st1 := []) (w1 := mkC ra rb rc re (.ref 14) rg q6.2) (pc2 := 56) (L2 := [some (.ref 44), some (.int q5.1), some (.int (sI q5.2 44 4)), some (.int q6.1), none]) (J2 := []) (st2 := []) (w2 := mkC ra rb rc re (.ref 14) rg q6.2) (fun _ _ => rfl) h (fun h => ?_) (fun h => ?_)
      · refine bfr_call 4 (d1 := d + 2) (M1 := M_X4_note) (vs := [(.ref 44), (.int ci_3), (.int (sI q5.2 44 4))]) (w1 := mkC ra rb rc re (.ref 14) rg q6.2) (pc2 := 56) (L2 := [some (.ref 44), some (.int q5.1), some (.int (sI q5.2 44 4)), some (.int q6.1), none]) (J2 := []) (rest := []) (fun _ => none) (fun a => mkC ra rb rc re (.ref 14) rg a) (fun _ _ => rfl) h (fun a ha => k_cReader_note n (d + 2) _ _ _ _ _ _ _ _ _ _ ha) (fun q7 _ h => ?_)
        exact k_cReader_readPath_b56 n d q _ _ _ _ _ _ _ _ _ _ h
      · exact k_cReader_readPath_b56 n d q _ _ _ _ _ _ _ _ _ _ h
  · exact k_cReader_readPath_b56 n d q _ _ _ _ _ _ _ _ _ _ h
set_option maxRecDepth 100000 in
theorem k_cReader_readBank_b53 (n d : Nat) (q : bS) (o0 : Option Value) (ra : Nat) (rb : Nat) (rc : Nat) (re : Nat) (rg : Value) (σ : bS) (h : cReader_readBank_b53 n σ = some q) : bfr MT (d + 3) M_X4_readBank 53 [o0] [] [] (mkC ra rb rc re (.ref 14) rg σ) (none, mkC ra rb rc re (.ref 14) rg q) := by
  unfold cReader_readBank_b53 at h
  cases h
  exact bfr_ret 1 (fun _ _ => rfl)
set_option maxRecDepth 100000 in
theorem k_cReader_readBank (n d : Nat) (q : bS) (ra : Nat) (rb : Nat) (rc : Nat) (re : Nat) (rg : Value) (σ : bS) (h : cReader_readBank n σ = some q) : bfr MT (d + 3) M_X4_readBank 0 [some (.ref 44)] [] [] (mkC ra rb rc re (.ref 14) rg σ) (none, mkC ra rb rc re (.ref 14) rg q) := by
  unfold cReader_readBank at h
  refine bfr_run 6 12 [some (.ref 44)] [] [(.int cb_6), (.int (sI σ 14 0)), (.int cb_13), (.ref 44)] (mkC ra rb rc re (.ref 14) rg σ) (fun _ _ => rfl) ?_
  refine bfr_call 1 (d1 := d + 2) (M1 := M_X4_takeFirst) (vs := [(.ref 44), (.int cb_13), (.int (sI σ 14 0)), (.int cb_6)]) (w1 := mkC ra rb rc re (.ref 14) rg σ) (pc2 := 15) (L2 := [some (.ref 44)]) (J2 := []) (rest := []) (fun _ => none) (fun a => mkC ra rb rc re (.ref 14) rg a) (fun _ _ => rfl) h (fun a ha => k_cReader_takeFirst n (d + 0) _ _ _ _ _ _ _ _ _ _ _ ha) (fun q1 _ h => ?_)
  refine bfr_call 6 (d1 := d + 2) (M1 := M_X4_takeNewName) (vs := [(.ref 44), (.int cb_13), (.int (sI q1 14 0))]) (w1 := mkC ra rb rc re (.ref 14) rg q1) (pc2 := 28) (L2 := [some (.ref 44)]) (J2 := []) (rest := []) (fun _ => none) (fun a => mkC ra rb rc re (.ref 14) rg a) (fun _ _ => rfl) h (fun a ha => k_cReader_takeNewName n (d + 0) _ _ _ _ _ _ _ _ _ _ ha) (fun q2 _ h => ?_)
  refine bfr_call 3 (d1 := d + 2) (M1 := M_X4_take) (vs := [(.ref 44), (.int ci_4)]) (w1 := mkC ra rb rc re (.ref 14) rg q2) (pc2 := 33) (L2 := [some (.ref 44)]) (J2 := []) (rest := []) (fun _ => none) (fun a => mkC ra rb rc re (.ref 14) rg a) (fun _ _ => rfl) h (fun a ha => k_cReader_take n (d + 1) _ _ _ _ _ _ _ _ _ ha) (fun q3 _ h => ?_)
  refine bfr_br 3 (pc1 := 40) (L1 := [some (.ref 44)]) (J1 := []) (st1 := []) (w1 := mkC ra rb rc re (.ref 14) rg q3) (pc2 := 53) (L2 := [some (.ref 44)]) (J2 := []) (st2 := []) (w2 := mkC ra rb rc re (.ref 14) rg q3) (fun _ _ => rfl) h (fun h => ?_) (fun h => ?_)
  · refine bfr_run 6 50 [some (.ref 44)] [] [(.int ((sI q3 14 0) + ci_1)), (.ref 14)] (mkC ra rb rc re (.ref 14) rg q3) (fun _ _ => rfl) ?_
    refine bfr_run 1 53 [some (.ref 44)] [] [] ((mkC ra rb rc re (.ref 14) rg q3).set 14 (.inr (.inr (9, (mkC_14  ra rb rc re (.ref 14) rg q3).set 0 (.int ((sI q3 14 0) + ci_1)))))) (fun _ _ => rfl) ?_
    rw [mkC_I14_0]
    exact k_cReader_readBank_b53 n d q _ _ _ _ _ _ _ h
  · exact k_cReader_readBank_b53 n d q _ _ _ _ _ _ _ h
set_option maxRecDepth 100000 in
theorem k_cReader_readInto_14_43_b323 (n d : Nat) (q : (Int32 × bS)) (o1 : Option Value) (o2 : Option Value) (o3 : Option Value) (o4 : Option Value) (ra : Nat) (rb : Nat) (rc : Nat) (re : Nat) (σ : bS) (h : cReader_readInto_14_43_b323 n σ = some q) : bfr MT (d + 6) M_X4_readInto 323 [some (.ref 44), o1, o2, o3, o4] [] [] (mkC ra rb rc re (.ref 14) (.ref 23) σ) (some (.int q.1), mkC ra rb rc re (.ref 14) (.ref 23) q.2) := by
  unfold cReader_readInto_14_43_b323 at h
  cases h
  exact bfr_ret 3 (fun _ _ => rfl)
set_option maxRecDepth 100000 in
theorem k_cReader_readInto_14_43_b300 (n d : Nat) (q : (Int32 × bS)) (o1 : Option Value) (o2 : Option Value) (o3 : Option Value) (o4 : Option Value) (ra : Nat) (rb : Nat) (rc : Nat) (re : Nat) (σ : bS) (h : cReader_readInto_14_43_b300 n σ = some q) : bfr MT (d + 6) M_X4_readInto 300 [some (.ref 44), o1, o2, o3, o4] [] [] (mkC ra rb rc re (.ref 14) (.ref 23) σ) (some (.int q.1), mkC ra rb rc re (.ref 14) (.ref 23) q.2) := by
  unfold cReader_readInto_14_43_b300 at h
  refine bfr_br 3 (pc1 := 307) (L1 := [some (.ref 44), o1, o2, o3, o4]) (J1 := []) (st1 := []) (w1 := mkC ra rb rc re (.ref 14) (.ref 23) σ) (pc2 := 323) (L2 := [some (.ref 44), o1, o2, o3, o4]) (J2 := []) (st2 := []) (w2 := mkC ra rb rc re (.ref 14) (.ref 23) σ) (fun _ _ => rfl) h (fun h => ?_) (fun h => ?_)
  · refine bfr_run 4 315 [some (.ref 44), o1, o2, o3, o4] [] [] ((mkC ra rb rc re (.ref 14) (.ref 23) σ).set 44 (.inr (.inr (4, (mkC_44  ra rb rc re (.ref 14) (.ref 23) σ).set 5 (.int (sI σ 44 6)))))) (fun _ _ => rfl) ?_
    rw [mkC_I44_5]
    refine bfr_run 4 323 [some (.ref 44), o1, o2, o3, o4] [] [] ((mkC ra rb rc re (.ref 14) (.ref 23) (uI σ 44 5 (sI σ 44 6))).set 44 (.inr (.inr (4, (mkC_44  ra rb rc re (.ref 14) (.ref 23) (uI σ 44 5 (sI σ 44 6))).set 0 (.int (sI (uI σ 44 5 (sI σ 44 6)) 44 7)))))) (fun _ _ => rfl) ?_
    rw [mkC_I44_0]
    exact k_cReader_readInto_14_43_b323 n d q _ _ _ _ _ _ _ _ _ h
  · exact k_cReader_readInto_14_43_b323 n d q _ _ _ _ _ _ _ _ _ h
set_option maxRecDepth 100000 in
theorem k_cReader_readInto_14_43_b294 (n d : Nat) (r10 : Int32 → bS → Option (Int32 × bS)) (q : (Int32 × bS)) (hr10 : ∀ (x4 : Int32) (o1 : Option Value) (o2 : Option Value) (o3 : Option Value) (ra : Nat) (rb : Nat) (rc : Nat) (re : Nat) (σ : bS), r10 x4 σ = some q → bfr MT (d + 6) M_X4_readInto 10 [some (.ref 44), o1, o2, o3, some (.int x4)] [] [] (mkC ra rb rc re (.ref 14) (.ref 23) σ) (some (.int q.1), mkC ra rb rc re (.ref 14) (.ref 23) q.2)) (x4 : Int32) (o1 : Option Value) (o2 : Option Value) (o3 : Option Value) (ra : Nat) (rb : Nat) (rc : Nat) (re : Nat) (σ : bS) (h : cReader_readInto_14_43_b294 n r10 x4 σ = some q) : bfr MT (d + 6) M_X4_readInto 294 [some (.ref 44), o1, o2, o3, some (.int x4)] [] [] (mkC ra rb rc re (.ref 14) (.ref 23) σ) (some (.int q.1), mkC ra rb rc re (.ref 14) (.ref 23) q.2) := by
  unfold cReader_readInto_14_43_b294 at h
  refine bfr_run 1 297 [some (.ref 44), o1, o2, o3, some (.int (x4 + ci_1))] [] [] (mkC ra rb rc re (.ref 14) (.ref 23) σ) (fun _ _ => rfl) ?_
  refine bfr_run 1 10 [some (.ref 44), o1, o2, o3, some (.int (x4 + ci_1))] [] [] (mkC ra rb rc re (.ref 14) (.ref 23) σ) (fun _ _ => rfl) ?_
  exact hr10 _ _ _ _ _ _ _ _ _ h
set_option maxRecDepth 100000 in
theorem k_cReader_readInto_14_43_b10 (n d : Nat) (q : (Int32 × bS)) : ∀ (k : Nat) (x4 : Int32) (o1 : Option Value) (o2 : Option Value) (o3 : Option Value) (ra : Nat) (rb : Nat) (rc : Nat) (re : Nat) (σ : bS), cReader_readInto_14_43_b10 n k x4 σ = some q → bfr MT (d + 6) M_X4_readInto 10 [some (.ref 44), o1, o2, o3, some (.int x4)] [] [] (mkC ra rb rc re (.ref 14) (.ref 23) σ) (some (.int q.1), mkC ra rb rc re (.ref 14) (.ref 23) q.2) := by
  intro k
  induction k with
  | zero => intro x4 o1 o2 o3 ra rb rc re σ h; exact bno h
  | succ k ih =>
    intro x4 o1 o2 o3 ra rb rc re σ h
    unfold cReader_readInto_14_43_b10 at h
    refine bfr_br 3 (pc1 := 300) (L1 := [some (.ref 44), o1, o2, o3, some (.int x4)]) (J1 := []) (st1 := []) (w1 := mkC ra rb rc re (.ref 14) (.ref 23) σ) (pc2 := 18) (L2 := [some (.ref 44), o1, o2, o3, some (.int x4)]) (J2 := []) (st2 := []) (w2 := mkC ra rb rc re (.ref 14) (.ref 23) σ) (fun _ _ => rfl) h (fun h => ?_) (fun h => ?_)
    · exact k_cReader_readInto_14_43_b300 n d q _ _ _ _ _ _ _ _ _ h
    · refine bfr_br 3 (pc1 := 25) (L1 := [some (.ref 44), o1, o2, o3, some (.int x4)]) (J1 := []) (st1 := []) (w1 := mkC ra rb rc re (.ref 14) (.ref 23) σ) (pc2 := 300) (L2 := [some (.ref 44), o1, o2, o3, some (.int x4)]) (J2 := []) (st2 := []) (w2 := mkC ra rb rc re (.ref 14) (.ref 23) σ) (fun _ _ => rfl) h (fun h => ?_) (fun h => ?_)
      · refine bfr_call 2 (d1 := d + 5) (M1 := M_X4_kind) (vs := [(.ref 44)]) (w1 := mkC ra rb rc re (.ref 14) (.ref 23) σ) (pc2 := 29) (L2 := [some (.ref 44), o1, o2, o3, some (.int x4)]) (J2 := []) (rest := []) (fun a => some (.int a.1)) (fun a => mkC ra rb rc re (.ref 14) (.ref 23) a.2) (fun _ _ => rfl) h (fun a ha => k_cReader_kind n (d + 5) _ _ _ _ _ _ _ _ ha) (fun q1 _ h => ?_)
        refine bfr_br 1 (pc1 := 300) (L1 := [some (.ref 44), o1, o2, o3, some (.int x4)]) (J1 := []) (st1 := []) (w1 := mkC ra rb rc re (.ref 14) (.ref 23) q1.2) (pc2 := 32) (L2 := [some (.ref 44), o1, o2, o3, some (.int x4)]) (J2 := []) (st2 := []) (w2 := mkC ra rb rc re (.ref 14) (.ref 23) q1.2) (fun _ _ => rfl) h (fun h => ?_) (fun h => ?_)
        · exact k_cReader_readInto_14_43_b300 n d q _ _ _ _ _ _ _ _ _ h
        · refine bfr_call 2 (d1 := d + 5) (M1 := M_X4_kind) (vs := [(.ref 44)]) (w1 := mkC ra rb rc re (.ref 14) (.ref 23) q1.2) (pc2 := 36) (L2 := [some (.ref 44), o1, o2, o3, some (.int x4)]) (J2 := []) (rest := []) (fun a => some (.int a.1)) (fun a => mkC ra rb rc re (.ref 14) (.ref 23) a.2) (fun _ _ => rfl) h (fun a ha => k_cReader_kind n (d + 5) _ _ _ _ _ _ _ _ ha) (fun q2 _ h => ?_)
          refine bfr_of 1 (fun K => (if (q2.1).toInt = 13 then K 104 [some (.ref 44), o1, o2, o3, some (.int x4)] [] [] (mkC ra rb rc re (.ref 14) (.ref 23) q2.2) else (if (q2.1).toInt = 14 then K 111 [some (.ref 44), o1, o2, o3, some (.int x4)] [] [] (mkC ra rb rc re (.ref 14) (.ref 23) q2.2) else (if (q2.1).toInt = 15 then K 118 [some (.ref 44), o1, o2, o3, some (.int x4)] [] [] (mkC ra rb rc re (.ref 14) (.ref 23) q2.2) else (if (q2.1).toInt = 16 then K 125 [some (.ref 44), o1, o2, o3, some (.int x4)] [] [] (mkC ra rb rc re (.ref 14) (.ref 23) q2.2) else (if (q2.1).toInt = 17 then K 132 [some (.ref 44), o1, o2, o3, some (.int x4)] [] [] (mkC ra rb rc re (.ref 14) (.ref 23) q2.2) else (if (q2.1).toInt = 18 then K 150 [some (.ref 44), o1, o2, o3, some (.int x4)] [] [] (mkC ra rb rc re (.ref 14) (.ref 23) q2.2) else (if (q2.1).toInt = 19 then K 168 [some (.ref 44), o1, o2, o3, some (.int x4)] [] [] (mkC ra rb rc re (.ref 14) (.ref 23) q2.2) else (if (q2.1).toInt = 20 then K 184 [some (.ref 44), o1, o2, o3, some (.int x4)] [] [] (mkC ra rb rc re (.ref 14) (.ref 23) q2.2) else (if (q2.1).toInt = 21 then K 200 [some (.ref 44), o1, o2, o3, some (.int x4)] [] [] (mkC ra rb rc re (.ref 14) (.ref 23) q2.2) else (if (q2.1).toInt = 22 then K 216 [some (.ref 44), o1, o2, o3, some (.int x4)] [] [] (mkC ra rb rc re (.ref 14) (.ref 23) q2.2) else (if (q2.1).toInt = 23 then K 234 [some (.ref 44), o1, o2, o3, some (.int x4)] [] [] (mkC ra rb rc re (.ref 14) (.ref 23) q2.2) else (if (q2.1).toInt = 24 then K 252 [some (.ref 44), o1, o2, o3, some (.int x4)] [] [] (mkC ra rb rc re (.ref 14) (.ref 23) q2.2) else (if (q2.1).toInt = 25 then K 270 [some (.ref 44), o1, o2, o3, some (.int x4)] [] [] (mkC ra rb rc re (.ref 14) (.ref 23) q2.2) else K 289 [some (.ref 44), o1, o2, o3, some (.int x4)] [] [] (mkC ra rb rc re (.ref 14) (.ref 23) q2.2))))))))))))))) (fun _ _ => rfl) ?_
          refine bres_if h (fun h => ?_) (fun h => ?_)
          · refine bfr_call 2 (d1 := d + 5) (M1 := M_X4_readBank) (vs := [(.ref 44)]) (w1 := mkC ra rb rc re (.ref 14) (.ref 23) q2.2) (pc2 := 108) (L2 := [some (.ref 44), o1, o2, o3, some (.int x4)]) (J2 := []) (rest := []) (fun _ => none) (fun a => mkC ra rb rc re (.ref 14) (.ref 23) a) (fun _ _ => rfl) h (fun a ha => k_cReader_readBank n (d + 2) _ _ _ _ _ _ _ ha) (fun q3 _ h => ?_)
            refine bfr_run 1 294 [some (.ref 44), o1, o2, o3, some (.int x4)] [] [] (mkC ra rb rc re (.ref 14) (.ref 23) q3) (fun _ _ => rfl) ?_
            exact k_cReader_readInto_14_43_b294 n d _ q (ih) _ _ _ _ _ _ _ _ _ h
          refine bres_if h (fun h => ?_) (fun h => ?_)
          · refine bfr_call 2 (d1 := d + 5) (M1 := M_X4_readPath) (vs := [(.ref 44)]) (w1 := mkC ra rb rc re (.ref 14) (.ref 23) q2.2) (pc2 := 115) (L2 := [some (.ref 44), o1, o2, o3, some (.int x4)]) (J2 := []) (rest := []) (fun _ => none) (fun a => mkC ra rb rc re (.ref 14) (.ref 23) a) (fun _ _ => rfl) h (fun a ha => k_cReader_readPath n (d + 2) _ _ _ _ _ _ _ ha) (fun q4 _ h => ?_)
            refine bfr_run 1 294 [some (.ref 44), o1, o2, o3, some (.int x4)] [] [] (mkC ra rb rc re (.ref 14) (.ref 23) q4) (fun _ _ => rfl) ?_
            exact k_cReader_readInto_14_43_b294 n d _ q (ih) _ _ _ _ _ _ _ _ _ h
          refine bres_if h (fun h => ?_) (fun h => ?_)
          · refine bfr_call 2 (d1 := d + 5) (M1 := M_X4_readBridge) (vs := [(.ref 44)]) (w1 := mkC ra rb rc re (.ref 14) (.ref 23) q2.2) (pc2 := 122) (L2 := [some (.ref 44), o1, o2, o3, some (.int x4)]) (J2 := []) (rest := []) (fun _ => none) (fun a => mkC ra rb rc re (.ref 14) (.ref 23) a) (fun _ _ => rfl) h (fun a ha => k_cReader_readBridge n (d + 2) _ _ _ _ _ _ _ ha) (fun q5 _ h => ?_)
            refine bfr_run 1 294 [some (.ref 44), o1, o2, o3, some (.int x4)] [] [] (mkC ra rb rc re (.ref 14) (.ref 23) q5) (fun _ _ => rfl) ?_
            exact k_cReader_readInto_14_43_b294 n d _ q (ih) _ _ _ _ _ _ _ _ _ h
          refine bres_if h (fun h => ?_) (fun h => ?_)
          · refine bfr_call 2 (d1 := d + 5) (M1 := M_X4_readMan) (vs := [(.ref 44)]) (w1 := mkC ra rb rc re (.ref 14) (.ref 23) q2.2) (pc2 := 129) (L2 := [some (.ref 44), o1, o2, o3, some (.int x4)]) (J2 := []) (rest := []) (fun _ => none) (fun a => mkC ra rb rc re (.ref 14) (.ref 23) a) (fun _ _ => rfl) h (fun a ha => k_cReader_readMan n (d + 2) _ _ _ _ _ _ _ ha) (fun q6 _ h => ?_)
            refine bfr_run 1 294 [some (.ref 44), o1, o2, o3, some (.int x4)] [] [] (mkC ra rb rc re (.ref 14) (.ref 23) q6) (fun _ _ => rfl) ?_
            exact k_cReader_readInto_14_43_b294 n d _ q (ih) _ _ _ _ _ _ _ _ _ h
          refine bres_if h (fun h => ?_) (fun h => ?_)
          · refine bfr_run 6 144 [some (.ref 44), o1, o2, o3, some (.int x4)] [] [(.ref 21), (.int cb_16), (.int cb_17), (.ref 44)] (mkC ra rb rc re (.ref 14) (.ref 23) q2.2) (fun _ _ => rfl) ?_
            refine bfr_call 1 (d1 := d + 5) (M1 := M_X4_readNamedLaw) (vs := [(.ref 44), (.int cb_17), (.int cb_16), (.ref 21)]) (w1 := mkC ra rb rc re (.ref 14) (.ref 23) q2.2) (pc2 := 147) (L2 := [some (.ref 44), o1, o2, o3, some (.int x4)]) (J2 := []) (rest := []) (fun _ => none) (fun a => mkC ra rb rc re (.ref 14) (.ref 23) a) (fun _ _ => rfl) h (fun a ha => k_cReader_readNamedLaw_21 n (d + 0) _ _ _ _ _ _ _ _ _ ha) (fun q7 _ h => ?_)
            refine bfr_run 1 294 [some (.ref 44), o1, o2, o3, some (.int x4)] [] [] (mkC ra rb rc re (.ref 14) (.ref 23) q7) (fun _ _ => rfl) ?_
            exact k_cReader_readInto_14_43_b294 n d _ q (ih) _ _ _ _ _ _ _ _ _ h
          refine bres_if h (fun h => ?_) (fun h => ?_)
          · refine bfr_run 6 162 [some (.ref 44), o1, o2, o3, some (.int x4)] [] [(.ref 22), (.int cb_15), (.int cb_18), (.ref 44)] (mkC ra rb rc re (.ref 14) (.ref 23) q2.2) (fun _ _ => rfl) ?_
            refine bfr_call 1 (d1 := d + 5) (M1 := M_X4_readNamedLaw) (vs := [(.ref 44), (.int cb_18), (.int cb_15), (.ref 22)]) (w1 := mkC ra rb rc re (.ref 14) (.ref 23) q2.2) (pc2 := 165) (L2 := [some (.ref 44), o1, o2, o3, some (.int x4)]) (J2 := []) (rest := []) (fun _ => none) (fun a => mkC ra rb rc re (.ref 14) (.ref 23) a) (fun _ _ => rfl) h (fun a ha => k_cReader_readNamedLaw_22 n (d + 0) _ _ _ _ _ _ _ _ _ ha) (fun q8 _ h => ?_)
            refine bfr_run 1 294 [some (.ref 44), o1, o2, o3, some (.int x4)] [] [] (mkC ra rb rc re (.ref 14) (.ref 23) q8) (fun _ _ => rfl) ?_
            exact k_cReader_readInto_14_43_b294 n d _ q (ih) _ _ _ _ _ _ _ _ _ h
          refine bres_if h (fun h => ?_) (fun h => ?_)
          · refine bfr_call 5 (d1 := d + 5) (M1 := M_X4_takePlainLaw) (vs := [(.ref 44), (.int cb_19)]) (w1 := mkC ra rb rc re (.ref 14) (.ref 23) q2.2) (pc2 := 178) (L2 := [some (.ref 44), o1, o2, o3, some (.int x4)]) (J2 := []) (rest := [(.ref 14)]) (fun a => some (.int a.1)) (fun a => mkC ra rb rc re (.ref 14) (.ref 23) a.2) (fun _ _ => rfl) h (fun a ha => k_cReader_takePlainLaw n (d + 0) _ _ _ _ _ _ _ _ ha) (fun q9 _ h => ?_)
            refine bfr_run 1 181 [some (.ref 44), o1, o2, o3, some (.int x4)] [] [] ((mkC ra rb rc re (.ref 14) (.ref 23) q9.2).set 14 (.inr (.inr (9, (mkC_14  ra rb rc re (.ref 14) (.ref 23) q9.2).set 12 (.int q9.1))))) (fun _ _ => rfl) ?_
            rw [mkC_I14_12]
            refine bfr_run 1 294 [some (.ref 44), o1, o2, o3, some (.int x4)] [] [] (mkC ra rb rc re (.ref 14) (.ref 23) (uI q9.2 14 12 q9.1)) (fun _ _ => rfl) ?_
            exact k_cReader_readInto_14_43_b294 n d _ q (ih) _ _ _ _ _ _ _ _ _ h
          refine bres_if h (fun h => ?_) (fun h => ?_)
          · refine bfr_call 5 (d1 := d + 5) (M1 := M_X4_takePlainLaw) (vs := [(.ref 44), (.int cb_20)]) (w1 := mkC ra rb rc re (.ref 14) (.ref 23) q2.2) (pc2 := 194) (L2 := [some (.ref 44), o1, o2, o3, some (.int x4)]) (J2 := []) (rest := [(.ref 14)]) (fun a => some (.int a.1)) (fun a => mkC ra rb rc re (.ref 14) (.ref 23) a.2) (fun _ _ => rfl) h (fun a ha => k_cReader_takePlainLaw n (d + 0) _ _ _ _ _ _ _ _ ha) (fun q10 _ h => ?_)
            refine bfr_run 1 197 [some (.ref 44), o1, o2, o3, some (.int x4)] [] [] ((mkC ra rb rc re (.ref 14) (.ref 23) q10.2).set 14 (.inr (.inr (9, (mkC_14  ra rb rc re (.ref 14) (.ref 23) q10.2).set 13 (.int q10.1))))) (fun _ _ => rfl) ?_
            rw [mkC_I14_13]
            refine bfr_run 1 294 [some (.ref 44), o1, o2, o3, some (.int x4)] [] [] (mkC ra rb rc re (.ref 14) (.ref 23) (uI q10.2 14 13 q10.1)) (fun _ _ => rfl) ?_
            exact k_cReader_readInto_14_43_b294 n d _ q (ih) _ _ _ _ _ _ _ _ _ h
          refine bres_if h (fun h => ?_) (fun h => ?_)
          · refine bfr_call 5 (d1 := d + 5) (M1 := M_X4_takePlainLaw) (vs := [(.ref 44), (.int cb_21)]) (w1 := mkC ra rb rc re (.ref 14) (.ref 23) q2.2) (pc2 := 210) (L2 := [some (.ref 44), o1, o2, o3, some (.int x4)]) (J2 := []) (rest := [(.ref 14)]) (fun a => some (.int a.1)) (fun a => mkC ra rb rc re (.ref 14) (.ref 23) a.2) (fun _ _ => rfl) h (fun a ha => k_cReader_takePlainLaw n (d + 0) _ _ _ _ _ _ _ _ ha) (fun q11 _ h => ?_)
            refine bfr_run 1 213 [some (.ref 44), o1, o2, o3, some (.int x4)] [] [] ((mkC ra rb rc re (.ref 14) (.ref 23) q11.2).set 14 (.inr (.inr (9, (mkC_14  ra rb rc re (.ref 14) (.ref 23) q11.2).set 14 (.int q11.1))))) (fun _ _ => rfl) ?_
            rw [mkC_I14_14]
            refine bfr_run 1 294 [some (.ref 44), o1, o2, o3, some (.int x4)] [] [] (mkC ra rb rc re (.ref 14) (.ref 23) (uI q11.2 14 14 q11.1)) (fun _ _ => rfl) ?_
            exact k_cReader_readInto_14_43_b294 n d _ q (ih) _ _ _ _ _ _ _ _ _ h
          refine bres_if h (fun h => ?_) (fun h => ?_)
          · refine bfr_call 6 (d1 := d + 5) (M1 := M_X4_takeSetting) (vs := [(.ref 44), (.int cb_22), (.int cb_23)]) (w1 := mkC ra rb rc re (.ref 14) (.ref 23) q2.2) (pc2 := 228) (L2 := [some (.ref 44), o1, o2, o3, some (.int x4)]) (J2 := []) (rest := [(.ref 14)]) (fun a => some (.int a.1)) (fun a => mkC ra rb rc re (.ref 14) (.ref 23) a.2) (fun _ _ => rfl) h (fun a ha => k_cReader_takeSetting n (d + 2) _ _ _ _ _ _ _ _ _ _ ha) (fun q12 _ h => ?_)
            refine bfr_run 1 231 [some (.ref 44), o1, o2, o3, some (.int x4)] [] [] ((mkC ra rb rc re (.ref 14) (.ref 23) q12.2).set 14 (.inr (.inr (9, (mkC_14  ra rb rc re (.ref 14) (.ref 23) q12.2).set 15 (.int q12.1))))) (fun _ _ => rfl) ?_
            rw [mkC_I14_15]
            refine bfr_run 1 294 [some (.ref 44), o1, o2, o3, some (.int x4)] [] [] (mkC ra rb rc re (.ref 14) (.ref 23) (uI q12.2 14 15 q12.1)) (fun _ _ => rfl) ?_
            exact k_cReader_readInto_14_43_b294 n d _ q (ih) _ _ _ _ _ _ _ _ _ h
          refine bres_if h (fun h => ?_) (fun h => ?_)
          · refine bfr_call 6 (d1 := d + 5) (M1 := M_X4_takeSetting) (vs := [(.ref 44), (.int cb_23), (.int cb_100)]) (w1 := mkC ra rb rc re (.ref 14) (.ref 23) q2.2) (pc2 := 246) (L2 := [some (.ref 44), o1, o2, o3, some (.int x4)]) (J2 := []) (rest := [(.ref 14)]) (fun a => some (.int a.1)) (fun a => mkC ra rb rc re (.ref 14) (.ref 23) a.2) (fun _ _ => rfl) h (fun a ha => k_cReader_takeSetting n (d + 2) _ _ _ _ _ _ _ _ _ _ ha) (fun q13 _ h => ?_)
            refine bfr_run 1 249 [some (.ref 44), o1, o2, o3, some (.int x4)] [] [] ((mkC ra rb rc re (.ref 14) (.ref 23) q13.2).set 14 (.inr (.inr (9, (mkC_14  ra rb rc re (.ref 14) (.ref 23) q13.2).set 16 (.int q13.1))))) (fun _ _ => rfl) ?_
            rw [mkC_I14_16]
            refine bfr_run 1 294 [some (.ref 44), o1, o2, o3, some (.int x4)] [] [] (mkC ra rb rc re (.ref 14) (.ref 23) (uI q13.2 14 16 q13.1)) (fun _ _ => rfl) ?_
            exact k_cReader_readInto_14_43_b294 n d _ q (ih) _ _ _ _ _ _ _ _ _ h
          refine bres_if h (fun h => ?_) (fun h => ?_)
          · refine bfr_call 6 (d1 := d + 5) (M1 := M_X4_takeSetting) (vs := [(.ref 44), (.int cb_24), (.int cb_99)]) (w1 := mkC ra rb rc re (.ref 14) (.ref 23) q2.2) (pc2 := 264) (L2 := [some (.ref 44), o1, o2, o3, some (.int x4)]) (J2 := []) (rest := [(.ref 14)]) (fun a => some (.int a.1)) (fun a => mkC ra rb rc re (.ref 14) (.ref 23) a.2) (fun _ _ => rfl) h (fun a ha => k_cReader_takeSetting n (d + 2) _ _ _ _ _ _ _ _ _ _ ha) (fun q14 _ h => ?_)
            refine bfr_run 1 267 [some (.ref 44), o1, o2, o3, some (.int x4)] [] [] ((mkC ra rb rc re (.ref 14) (.ref 23) q14.2).set 14 (.inr (.inr (9, (mkC_14  ra rb rc re (.ref 14) (.ref 23) q14.2).set 17 (.int q14.1))))) (fun _ _ => rfl) ?_
            rw [mkC_I14_17]
            refine bfr_run 1 294 [some (.ref 44), o1, o2, o3, some (.int x4)] [] [] (mkC ra rb rc re (.ref 14) (.ref 23) (uI q14.2 14 17 q14.1)) (fun _ _ => rfl) ?_
            exact k_cReader_readInto_14_43_b294 n d _ q (ih) _ _ _ _ _ _ _ _ _ h
          refine bres_if h (fun h => ?_) (fun h => ?_)
          · refine bfr_call 6 (d1 := d + 5) (M1 := M_X4_takeSetting) (vs := [(.ref 44), (.int cb_25), (.int cs_9999)]) (w1 := mkC ra rb rc re (.ref 14) (.ref 23) q2.2) (pc2 := 283) (L2 := [some (.ref 44), o1, o2, o3, some (.int x4)]) (J2 := []) (rest := [(.ref 14)]) (fun a => some (.int a.1)) (fun a => mkC ra rb rc re (.ref 14) (.ref 23) a.2) (fun _ _ => rfl) h (fun a ha => k_cReader_takeSetting n (d + 2) _ _ _ _ _ _ _ _ _ _ ha) (fun q15 _ h => ?_)
            refine bfr_run 1 286 [some (.ref 44), o1, o2, o3, some (.int x4)] [] [] ((mkC ra rb rc re (.ref 14) (.ref 23) q15.2).set 14 (.inr (.inr (9, (mkC_14  ra rb rc re (.ref 14) (.ref 23) q15.2).set 18 (.int q15.1))))) (fun _ _ => rfl) ?_
            rw [mkC_I14_18]
            refine bfr_run 1 294 [some (.ref 44), o1, o2, o3, some (.int x4)] [] [] (mkC ra rb rc re (.ref 14) (.ref 23) (uI q15.2 14 18 q15.1)) (fun _ _ => rfl) ?_
            exact k_cReader_readInto_14_43_b294 n d _ q (ih) _ _ _ _ _ _ _ _ _ h
          refine bfr_call 3 (d1 := d + 5) (M1 := M_X4_fail) (vs := [(.ref 44), (.int ci_1)]) (w1 := mkC ra rb rc re (.ref 14) (.ref 23) q2.2) (pc2 := 294) (L2 := [some (.ref 44), o1, o2, o3, some (.int x4)]) (J2 := []) (rest := []) (fun _ => none) (fun a => mkC ra rb rc re (.ref 14) (.ref 23) a) (fun _ _ => rfl) h (fun a ha => k_cReader_fail n (d + 5) _ _ _ _ _ _ _ _ _ ha) (fun q16 _ h => ?_)
          exact k_cReader_readInto_14_43_b294 n d _ q (ih) _ _ _ _ _ _ _ _ _ h
      · exact k_cReader_readInto_14_43_b300 n d q _ _ _ _ _ _ _ _ _ h
set_option maxRecDepth 100000 in
theorem k_cReader_readInto_14_43 (n d : Nat) (q : (Int32 × bS)) (x3 : Int32) (ra : Nat) (rb : Nat) (rc : Nat) (re : Nat) (rf : Value) (rg : Value) (σ : bS) (h : cReader_readInto_14_43 n x3 σ = some q) : bfr MT (d + 6) M_X4_readInto 0 [some (.ref 44), some (.ref 14), some (.ref 43), some (.int x3), none] [] [] (mkC ra rb rc re rf rg σ) (some (.int q.1), mkC ra rb rc re (.ref 14) (.ref 23) q.2) := by
  unfold cReader_readInto_14_43 at h
  refine bfr_call 5 (d1 := d + 5) (M1 := M_X4_begin) (vs := [(.ref 44), (.ref 14), (.ref 43), (.int x3)]) (w1 := mkC ra rb rc re rf rg σ) (pc2 := 7) (L2 := [some (.ref 44), some (.ref 14), some (.ref 43), some (.int x3), none]) (J2 := []) (rest := []) (fun _ => none) (fun a => mkC ra rb rc re (.ref 14) (.ref 23) a) (fun _ _ => rfl) h (fun a ha => k_cReader_begin_14_43 n (d + 1) _ _ _ _ _ _ _ _ _ ha) (fun q17 _ h => ?_)
  refine bfr_run 2 10 [some (.ref 44), some (.ref 14), some (.ref 43), some (.int x3), some (.int ci_0)] [] [] (mkC ra rb rc re (.ref 14) (.ref 23) q17) (fun _ _ => rfl) ?_
  exact k_cReader_readInto_14_43_b10 n d q _ _ _ _ _ _ _ _ _ _ h
set_option maxRecDepth 100000 in
theorem k_cj_fill_29_b5 (n d : Nat) (q : bS) : ∀ (k : Nat) (x1 : Int32) (x2 : Int32) (x3 : Int32) (ra : Nat) (rb : Nat) (rc : Nat) (re : Nat) (rf : Value) (rg : Value) (σ : bS), cj_fill_29_b5 n k x1 x2 x3 σ = some q → bfr MT (d + 0) M_J7_fill_53178 5 [some (.ref 29), some (.int x1), some (.int x2), some (.int x3)] [] [] (mkC ra rb rc re rf rg σ) (none, mkC ra rb rc re rf rg q) := by
  intro k
  induction k with
  | zero => intro x1 x2 x3 ra rb rc re rf rg σ h; exact bno h
  | succ k ih =>
    intro x1 x2 x3 ra rb rc re rf rg σ h
    unfold cj_fill_29_b5 at h
    refine bfr_br 3 (pc1 := 20) (L1 := [some (.ref 29), some (.int x1), some (.int x2), some (.int x3)]) (J1 := []) (st1 := []) (w1 := mkC ra rb rc re rf rg σ) (pc2 := 10) (L2 := [some (.ref 29), some (.int x1), some (.int x2), some (.int x3)]) (J2 := []) (st2 := []) (w2 := mkC ra rb rc re rf rg σ) (fun _ _ => rfl) h (fun h => ?_) (fun h => ?_)
    · cases h
      exact bfr_ret 1 (fun _ _ => rfl)
    · refine bfr_in (i := x2) (m := 4) 4 (pc1 := 14) (L1 := [some (.ref 29), some (.int x1), some (.int x2), some (.int x3)]) (J1 := []) (st1 := []) (w1 := ((mkC ra rb rc re rf rg σ).set 29 (.inl (0, 4, upd (σ.2.1 29) (x2).toNatClampNeg x1)))) (fun _ _ => rfl) h (fun h => ?_)
      rw [mkC_A29]
      refine bfr_run 1 17 [some (.ref 29), some (.int x1), some (.int (x2 + ci_1)), some (.int x3)] [] [] (mkC ra rb rc re rf rg (uA σ 29 x2 x1)) (fun _ _ => rfl) ?_
      refine bfr_run 1 5 [some (.ref 29), some (.int x1), some (.int (x2 + ci_1)), some (.int x3)] [] [] (mkC ra rb rc re rf rg (uA σ 29 x2 x1)) (fun _ _ => rfl) ?_
      exact ih _ _ _ _ _ _ _ _ _ _ h
set_option maxRecDepth 100000 in
theorem k_cj_fill_29 (n d : Nat) (q : bS) (x1 : Int32) (ra : Nat) (rb : Nat) (rc : Nat) (re : Nat) (rf : Value) (rg : Value) (σ : bS) (h : cj_fill_29 n x1 σ = some q) : bfr MT (d + 0) M_J7_fill_53178 0 [some (.ref 29), some (.int x1), none, none] [] [] (mkC ra rb rc re rf rg σ) (none, mkC ra rb rc re rf rg q) := by
  unfold cj_fill_29 at h
  refine bfr_run 5 5 [some (.ref 29), some (.int x1), some (.int ci_0), some (.int cn_4)] [] [] (mkC ra rb rc re rf rg σ) (fun _ _ => rfl) ?_
  exact k_cj_fill_29_b5 n d q _ _ _ _ _ _ _ _ _ _ _ h
set_option maxRecDepth 100000 in
theorem k_cj_fill_31_b5 (n d : Nat) (q : bS) : ∀ (k : Nat) (x1 : Int32) (x2 : Int32) (x3 : Int32) (ra : Nat) (rb : Nat) (rc : Nat) (re : Nat) (rf : Value) (rg : Value) (σ : bS), cj_fill_31_b5 n k x1 x2 x3 σ = some q → bfr MT (d + 0) M_J7_fill_53178 5 [some (.ref 31), some (.int x1), some (.int x2), some (.int x3)] [] [] (mkC ra rb rc re rf rg σ) (none, mkC ra rb rc re rf rg q) := by
  intro k
  induction k with
  | zero => intro x1 x2 x3 ra rb rc re rf rg σ h; exact bno h
  | succ k ih =>
    intro x1 x2 x3 ra rb rc re rf rg σ h
    unfold cj_fill_31_b5 at h
    refine bfr_br 3 (pc1 := 20) (L1 := [some (.ref 31), some (.int x1), some (.int x2), some (.int x3)]) (J1 := []) (st1 := []) (w1 := mkC ra rb rc re rf rg σ) (pc2 := 10) (L2 := [some (.ref 31), some (.int x1), some (.int x2), some (.int x3)]) (J2 := []) (st2 := []) (w2 := mkC ra rb rc re rf rg σ) (fun _ _ => rfl) h (fun h => ?_) (fun h => ?_)
    · cases h
      exact bfr_ret 1 (fun _ _ => rfl)
    · refine bfr_in (i := x2) (m := 7) 4 (pc1 := 14) (L1 := [some (.ref 31), some (.int x1), some (.int x2), some (.int x3)]) (J1 := []) (st1 := []) (w1 := ((mkC ra rb rc re rf rg σ).set 31 (.inl (0, 7, upd (σ.2.1 31) (x2).toNatClampNeg x1)))) (fun _ _ => rfl) h (fun h => ?_)
      rw [mkC_A31]
      refine bfr_run 1 17 [some (.ref 31), some (.int x1), some (.int (x2 + ci_1)), some (.int x3)] [] [] (mkC ra rb rc re rf rg (uA σ 31 x2 x1)) (fun _ _ => rfl) ?_
      refine bfr_run 1 5 [some (.ref 31), some (.int x1), some (.int (x2 + ci_1)), some (.int x3)] [] [] (mkC ra rb rc re rf rg (uA σ 31 x2 x1)) (fun _ _ => rfl) ?_
      exact ih _ _ _ _ _ _ _ _ _ _ h
set_option maxRecDepth 100000 in
theorem k_cj_fill_31 (n d : Nat) (q : bS) (x1 : Int32) (ra : Nat) (rb : Nat) (rc : Nat) (re : Nat) (rf : Value) (rg : Value) (σ : bS) (h : cj_fill_31 n x1 σ = some q) : bfr MT (d + 0) M_J7_fill_53178 0 [some (.ref 31), some (.int x1), none, none] [] [] (mkC ra rb rc re rf rg σ) (none, mkC ra rb rc re rf rg q) := by
  unfold cj_fill_31 at h
  refine bfr_run 5 5 [some (.ref 31), some (.int x1), some (.int ci_0), some (.int cn_7)] [] [] (mkC ra rb rc re rf rg σ) (fun _ _ => rfl) ?_
  exact k_cj_fill_31_b5 n d q _ _ _ _ _ _ _ _ _ _ _ h
set_option maxRecDepth 100000 in
theorem k_cj_fill_33_b5 (n d : Nat) (q : bS) : ∀ (k : Nat) (x1 : Int32) (x2 : Int32) (x3 : Int32) (ra : Nat) (rb : Nat) (rc : Nat) (re : Nat) (rf : Value) (rg : Value) (σ : bS), cj_fill_33_b5 n k x1 x2 x3 σ = some q → bfr MT (d + 0) M_J7_fill_53178 5 [some (.ref 33), some (.int x1), some (.int x2), some (.int x3)] [] [] (mkC ra rb rc re rf rg σ) (none, mkC ra rb rc re rf rg q) := by
  intro k
  induction k with
  | zero => intro x1 x2 x3 ra rb rc re rf rg σ h; exact bno h
  | succ k ih =>
    intro x1 x2 x3 ra rb rc re rf rg σ h
    unfold cj_fill_33_b5 at h
    refine bfr_br 3 (pc1 := 20) (L1 := [some (.ref 33), some (.int x1), some (.int x2), some (.int x3)]) (J1 := []) (st1 := []) (w1 := mkC ra rb rc re rf rg σ) (pc2 := 10) (L2 := [some (.ref 33), some (.int x1), some (.int x2), some (.int x3)]) (J2 := []) (st2 := []) (w2 := mkC ra rb rc re rf rg σ) (fun _ _ => rfl) h (fun h => ?_) (fun h => ?_)
    · cases h
      exact bfr_ret 1 (fun _ _ => rfl)
    · refine bfr_in (i := x2) (m := 7) 4 (pc1 := 14) (L1 := [some (.ref 33), some (.int x1), some (.int x2), some (.int x3)]) (J1 := []) (st1 := []) (w1 := ((mkC ra rb rc re rf rg σ).set 33 (.inl (0, 7, upd (σ.2.1 33) (x2).toNatClampNeg x1)))) (fun _ _ => rfl) h (fun h => ?_)
      rw [mkC_A33]
      refine bfr_run 1 17 [some (.ref 33), some (.int x1), some (.int (x2 + ci_1)), some (.int x3)] [] [] (mkC ra rb rc re rf rg (uA σ 33 x2 x1)) (fun _ _ => rfl) ?_
      refine bfr_run 1 5 [some (.ref 33), some (.int x1), some (.int (x2 + ci_1)), some (.int x3)] [] [] (mkC ra rb rc re rf rg (uA σ 33 x2 x1)) (fun _ _ => rfl) ?_
      exact ih _ _ _ _ _ _ _ _ _ _ h
set_option maxRecDepth 100000 in
theorem k_cj_fill_33 (n d : Nat) (q : bS) (x1 : Int32) (ra : Nat) (rb : Nat) (rc : Nat) (re : Nat) (rf : Value) (rg : Value) (σ : bS) (h : cj_fill_33 n x1 σ = some q) : bfr MT (d + 0) M_J7_fill_53178 0 [some (.ref 33), some (.int x1), none, none] [] [] (mkC ra rb rc re rf rg σ) (none, mkC ra rb rc re rf rg q) := by
  unfold cj_fill_33 at h
  refine bfr_run 5 5 [some (.ref 33), some (.int x1), some (.int ci_0), some (.int cn_7)] [] [] (mkC ra rb rc re rf rg σ) (fun _ _ => rfl) ?_
  exact k_cj_fill_33_b5 n d q _ _ _ _ _ _ _ _ _ _ _ h
set_option maxRecDepth 100000 in
theorem k_cj_fill_34_b5 (n d : Nat) (q : bS) : ∀ (k : Nat) (x1 : Int32) (x2 : Int32) (x3 : Int32) (ra : Nat) (rb : Nat) (rc : Nat) (re : Nat) (rf : Value) (rg : Value) (σ : bS), cj_fill_34_b5 n k x1 x2 x3 σ = some q → bfr MT (d + 0) M_J7_fill_53178 5 [some (.ref 34), some (.int x1), some (.int x2), some (.int x3)] [] [] (mkC ra rb rc re rf rg σ) (none, mkC ra rb rc re rf rg q) := by
  intro k
  induction k with
  | zero => intro x1 x2 x3 ra rb rc re rf rg σ h; exact bno h
  | succ k ih =>
    intro x1 x2 x3 ra rb rc re rf rg σ h
    unfold cj_fill_34_b5 at h
    refine bfr_br 3 (pc1 := 20) (L1 := [some (.ref 34), some (.int x1), some (.int x2), some (.int x3)]) (J1 := []) (st1 := []) (w1 := mkC ra rb rc re rf rg σ) (pc2 := 10) (L2 := [some (.ref 34), some (.int x1), some (.int x2), some (.int x3)]) (J2 := []) (st2 := []) (w2 := mkC ra rb rc re rf rg σ) (fun _ _ => rfl) h (fun h => ?_) (fun h => ?_)
    · cases h
      exact bfr_ret 1 (fun _ _ => rfl)
    · refine bfr_in (i := x2) (m := 7) 4 (pc1 := 14) (L1 := [some (.ref 34), some (.int x1), some (.int x2), some (.int x3)]) (J1 := []) (st1 := []) (w1 := ((mkC ra rb rc re rf rg σ).set 34 (.inl (0, 7, upd (σ.2.1 34) (x2).toNatClampNeg x1)))) (fun _ _ => rfl) h (fun h => ?_)
      rw [mkC_A34]
      refine bfr_run 1 17 [some (.ref 34), some (.int x1), some (.int (x2 + ci_1)), some (.int x3)] [] [] (mkC ra rb rc re rf rg (uA σ 34 x2 x1)) (fun _ _ => rfl) ?_
      refine bfr_run 1 5 [some (.ref 34), some (.int x1), some (.int (x2 + ci_1)), some (.int x3)] [] [] (mkC ra rb rc re rf rg (uA σ 34 x2 x1)) (fun _ _ => rfl) ?_
      exact ih _ _ _ _ _ _ _ _ _ _ h
set_option maxRecDepth 100000 in
theorem k_cj_fill_34 (n d : Nat) (q : bS) (x1 : Int32) (ra : Nat) (rb : Nat) (rc : Nat) (re : Nat) (rf : Value) (rg : Value) (σ : bS) (h : cj_fill_34 n x1 σ = some q) : bfr MT (d + 0) M_J7_fill_53178 0 [some (.ref 34), some (.int x1), none, none] [] [] (mkC ra rb rc re rf rg σ) (none, mkC ra rb rc re rf rg q) := by
  unfold cj_fill_34 at h
  refine bfr_run 5 5 [some (.ref 34), some (.int x1), some (.int ci_0), some (.int cn_7)] [] [] (mkC ra rb rc re rf rg σ) (fun _ _ => rfl) ?_
  exact k_cj_fill_34_b5 n d q _ _ _ _ _ _ _ _ _ _ _ h
set_option maxRecDepth 100000 in
theorem k_cGoing_begin_14 (n d : Nat) (q : bS) (ra : Nat) (rb : Nat) (rc : Nat) (re : Nat) (rf : Value) (rg : Value) (σ : bS) (h : cGoing_begin_14 n σ = some q) : bfr MT (d + 1) M_X1_begin 0 [some (.ref 27), some (.ref 14)] [] [] (mkC ra rb rc re rf rg σ) (none, mkC ra rb 14 re rf rg q) := by
  unfold cGoing_begin_14 at h
  refine bfr_run 3 5 [some (.ref 27), some (.ref 14)] [] [] ((mkC ra rb rc re rf rg σ).set 27 (.inr (.inr (1, (mkC_27 ra rb rc re rf rg σ).set 0 (.ref 14))))) (fun _ _ => rfl) ?_
  rw [mkC_R2]
  refine bfr_run 4 13 [some (.ref 27), some (.ref 14)] [] [] ((mkC ra rb 14 re rf rg σ).set 27 (.inr (.inr (1, (mkC_27  ra rb 14 re rf rg σ).set 1 (.int (sI σ 14 18)))))) (fun _ _ => rfl) ?_
  rw [mkC_I27_1]
  refine bfr_run 3 18 [some (.ref 27), some (.ref 14)] [] [] ((mkC ra rb 14 re rf rg (uI σ 27 1 (sI σ 14 18))).set 27 (.inr (.inr (1, (mkC_27  ra rb 14 re rf rg (uI σ 27 1 (sI σ 14 18))).set 2 (.int ci_0))))) (fun _ _ => rfl) ?_
  rw [mkC_I27_2]
  refine bfr_run 3 23 [some (.ref 27), some (.ref 14)] [] [] ((mkC ra rb 14 re rf rg (uI (uI σ 27 1 (sI σ 14 18)) 27 2 ci_0)).set 27 (.inr (.inr (1, (mkC_27  ra rb 14 re rf rg (uI (uI σ 27 1 (sI σ 14 18)) 27 2 ci_0)).set 3 (.int ci_0))))) (fun _ _ => rfl) ?_
  rw [mkC_I27_3]
  refine bfr_run 3 28 [some (.ref 27), some (.ref 14)] [] [] ((mkC ra rb 14 re rf rg (uI (uI (uI σ 27 1 (sI σ 14 18)) 27 2 ci_0) 27 3 ci_0)).set 27 (.inr (.inr (1, (mkC_27  ra rb 14 re rf rg (uI (uI (uI σ 27 1 (sI σ 14 18)) 27 2 ci_0) 27 3 ci_0)).set 4 (.int ci_0))))) (fun _ _ => rfl) ?_
  rw [mkC_I27_4]
  refine bfr_run 6 38 [some (.ref 27), some (.ref 14)] [] [(.int ci_0), (.ref 28), (.int ci_0), (.ref 17)] (mkC ra rb 14 re rf rg (uI (uI (uI (uI σ 27 1 (sI σ 14 18)) 27 2 ci_0) 27 3 ci_0) 27 4 ci_0)) (fun _ _ => rfl) ?_
  refine bfr_chk 2 (pc1 := 42) (L1 := [some (.ref 27), some (.ref 14)]) (J1 := []) (st1 := []) (w1 := ((mkC ra rb 14 re rf rg (uI (uI (uI (uI σ 27 1 (sI σ 14 18)) 27 2 ci_0) 27 3 ci_0) 27 4 ci_0)).set 28 (.inl (0, 4, va_cpy ((uI (uI (uI (uI σ 27 1 (sI σ 14 18)) 27 2 ci_0) 27 3 ci_0) 27 4 ci_0).2.1 17) ((uI (uI (uI (uI σ 27 1 (sI σ 14 18)) 27 2 ci_0) 27 3 ci_0) 27 4 ci_0).2.1 28) (ci_0).toNatClampNeg (ci_0).toNatClampNeg (ci_4).toNatClampNeg)))) (fun _ _ => rfl) h (fun h => ?_)
  rw [mkC_C28]
  refine bfr_call 4 (d1 := d + 0) (M1 := M_J7_fill_53178) (vs := [(.ref 29), (.int ci_0)]) (w1 := mkC ra rb 14 re rf rg (uC (uI (uI (uI (uI σ 27 1 (sI σ 14 18)) 27 2 ci_0) 27 3 ci_0) 27 4 ci_0) 17 28 ci_0 ci_0 ci_4)) (pc2 := 50) (L2 := [some (.ref 27), some (.ref 14)]) (J2 := []) (rest := []) (fun _ => none) (fun a => mkC ra rb 14 re rf rg a) (fun _ _ => rfl) h (fun a ha => k_cj_fill_29 n (d + 0) _ _ _ _ _ _ _ _ _ ha) (fun q1 _ h => ?_)
  refine bfr_run 6 60 [some (.ref 27), some (.ref 14)] [] [(.int ci_0), (.ref 30), (.int ci_0), (.ref 18)] (mkC ra rb 14 re rf rg q1) (fun _ _ => rfl) ?_
  refine bfr_chk 2 (pc1 := 65) (L1 := [some (.ref 27), some (.ref 14)]) (J1 := []) (st1 := []) (w1 := ((mkC ra rb 14 re rf rg q1).set 30 (.inl (0, 7, va_cpy (q1.2.1 18) (q1.2.1 30) (ci_0).toNatClampNeg (ci_0).toNatClampNeg (cb_7).toNatClampNeg)))) (fun _ _ => rfl) h (fun h => ?_)
  rw [mkC_C30]
  refine bfr_call 4 (d1 := d + 0) (M1 := M_J7_fill_53178) (vs := [(.ref 31), (.int ci_m1)]) (w1 := mkC ra rb 14 re rf rg (uC q1 18 30 ci_0 ci_0 cb_7)) (pc2 := 73) (L2 := [some (.ref 27), some (.ref 14)]) (J2 := []) (rest := []) (fun _ => none) (fun a => mkC ra rb 14 re rf rg a) (fun _ _ => rfl) h (fun a ha => k_cj_fill_31 n (d + 0) _ _ _ _ _ _ _ _ _ ha) (fun q2 _ h => ?_)
  refine bfr_run 6 83 [some (.ref 27), some (.ref 14)] [] [(.int ci_0), (.ref 32), (.int ci_0), (.ref 20)] (mkC ra rb 14 re rf rg q2) (fun _ _ => rfl) ?_
  refine bfr_chk 2 (pc1 := 88) (L1 := [some (.ref 27), some (.ref 14)]) (J1 := []) (st1 := []) (w1 := ((mkC ra rb 14 re rf rg q2).set 32 (.inl (0, 7, va_cpy (q2.2.1 20) (q2.2.1 32) (ci_0).toNatClampNeg (ci_0).toNatClampNeg (cb_7).toNatClampNeg)))) (fun _ _ => rfl) h (fun h => ?_)
  rw [mkC_C32]
  refine bfr_call 4 (d1 := d + 0) (M1 := M_J7_fill_53178) (vs := [(.ref 33), (.int ci_0)]) (w1 := mkC ra rb 14 re rf rg (uC q2 20 32 ci_0 ci_0 cb_7)) (pc2 := 96) (L2 := [some (.ref 27), some (.ref 14)]) (J2 := []) (rest := []) (fun _ => none) (fun a => mkC ra rb 14 re rf rg a) (fun _ _ => rfl) h (fun a ha => k_cj_fill_33 n (d + 0) _ _ _ _ _ _ _ _ _ ha) (fun q3 _ h => ?_)
  refine bfr_call 4 (d1 := d + 0) (M1 := M_J7_fill_53178) (vs := [(.ref 34), (.int ci_0)]) (w1 := mkC ra rb 14 re rf rg q3) (pc2 := 104) (L2 := [some (.ref 27), some (.ref 14)]) (J2 := []) (rest := []) (fun _ => none) (fun a => mkC ra rb 14 re rf rg a) (fun _ _ => rfl) h (fun a ha => k_cj_fill_34 n (d + 0) _ _ _ _ _ _ _ _ _ ha) (fun q4 _ h => ?_)
  cases h
  exact bfr_ret 1 (fun _ _ => rfl)
set_option maxRecDepth 100000 in
theorem k_cShelf_clear (n d : Nat) (q : bS) (ra : Nat) (rb : Nat) (rc : Nat) (re : Nat) (rf : Value) (rg : Value) (σ : bS) (h : cShelf_clear n σ = some q) : bfr MT (d + 0) M_X7_clear 0 [some (.ref 54)] [] [] (mkC ra rb rc re rf rg σ) (none, mkC ra rb rc re rf rg q) := by
  unfold cShelf_clear at h
  refine bfr_run 3 5 [some (.ref 54)] [] [] ((mkC ra rb rc re rf rg σ).set 54 (.inr (.inr (7, (mkC_54  ra rb rc re rf rg σ).set 2 (.int ci_0))))) (fun _ _ => rfl) ?_
  rw [mkC_I54_2]
  refine bfr_run 3 10 [some (.ref 54)] [] [] ((mkC ra rb rc re rf rg (uI σ 54 2 ci_0)).set 54 (.inr (.inr (7, (mkC_54  ra rb rc re rf rg (uI σ 54 2 ci_0)).set 3 (.int ci_0))))) (fun _ _ => rfl) ?_
  rw [mkC_I54_3]
  cases h
  exact bfr_ret 1 (fun _ _ => rfl)
set_option maxRecDepth 100000 in
theorem k_cj_fill_81_b5 (n d : Nat) (q : bS) : ∀ (k : Nat) (x1 : Int32) (x2 : Int32) (x3 : Int32) (ra : Nat) (rb : Nat) (rc : Nat) (re : Nat) (rf : Value) (rg : Value) (σ : bS), cj_fill_81_b5 n k x1 x2 x3 σ = some q → bfr MT (d + 0) M_J7_fill_53178 5 [some (.ref 81), some (.int x1), some (.int x2), some (.int x3)] [] [] (mkC ra rb rc re rf rg σ) (none, mkC ra rb rc re rf rg q) := by
  intro k
  induction k with
  | zero => intro x1 x2 x3 ra rb rc re rf rg σ h; exact bno h
  | succ k ih =>
    intro x1 x2 x3 ra rb rc re rf rg σ h
    unfold cj_fill_81_b5 at h
    refine bfr_br 3 (pc1 := 20) (L1 := [some (.ref 81), some (.int x1), some (.int x2), some (.int x3)]) (J1 := []) (st1 := []) (w1 := mkC ra rb rc re rf rg σ) (pc2 := 10) (L2 := [some (.ref 81), some (.int x1), some (.int x2), some (.int x3)]) (J2 := []) (st2 := []) (w2 := mkC ra rb rc re rf rg σ) (fun _ _ => rfl) h (fun h => ?_) (fun h => ?_)
    · cases h
      exact bfr_ret 1 (fun _ _ => rfl)
    · refine bfr_in (i := x2) (m := 7) 4 (pc1 := 14) (L1 := [some (.ref 81), some (.int x1), some (.int x2), some (.int x3)]) (J1 := []) (st1 := []) (w1 := ((mkC ra rb rc re rf rg σ).set 81 (.inl (0, 7, upd (σ.2.1 81) (x2).toNatClampNeg x1)))) (fun _ _ => rfl) h (fun h => ?_)
      rw [mkC_A81]
      refine bfr_run 1 17 [some (.ref 81), some (.int x1), some (.int (x2 + ci_1)), some (.int x3)] [] [] (mkC ra rb rc re rf rg (uA σ 81 x2 x1)) (fun _ _ => rfl) ?_
      refine bfr_run 1 5 [some (.ref 81), some (.int x1), some (.int (x2 + ci_1)), some (.int x3)] [] [] (mkC ra rb rc re rf rg (uA σ 81 x2 x1)) (fun _ _ => rfl) ?_
      exact ih _ _ _ _ _ _ _ _ _ _ h
set_option maxRecDepth 100000 in
theorem k_cj_fill_81 (n d : Nat) (q : bS) (x1 : Int32) (ra : Nat) (rb : Nat) (rc : Nat) (re : Nat) (rf : Value) (rg : Value) (σ : bS) (h : cj_fill_81 n x1 σ = some q) : bfr MT (d + 0) M_J7_fill_53178 0 [some (.ref 81), some (.int x1), none, none] [] [] (mkC ra rb rc re rf rg σ) (none, mkC ra rb rc re rf rg q) := by
  unfold cj_fill_81 at h
  refine bfr_run 5 5 [some (.ref 81), some (.int x1), some (.int ci_0), some (.int cn_7)] [] [] (mkC ra rb rc re rf rg σ) (fun _ _ => rfl) ?_
  exact k_cj_fill_81_b5 n d q _ _ _ _ _ _ _ _ _ _ _ h
set_option maxRecDepth 100000 in
theorem k_cSeen_clear (n d : Nat) (q : bS) (ra : Nat) (rb : Nat) (rc : Nat) (re : Nat) (rf : Value) (rg : Value) (σ : bS) (h : cSeen_clear n σ = some q) : bfr MT (d + 1) M_X6_clear 0 [some (.ref 77)] [] [] (mkC ra rb rc re rf rg σ) (none, mkC ra rb rc re rf rg q) := by
  unfold cSeen_clear at h
  refine bfr_run 3 5 [some (.ref 77)] [] [] ((mkC ra rb rc re rf rg σ).set 77 (.inr (.inr (6, (mkC_77  ra rb rc re rf rg σ).set 4 (.int ci_0))))) (fun _ _ => rfl) ?_
  rw [mkC_I77_4]
  refine bfr_call 4 (d1 := d + 0) (M1 := M_J7_fill_53178) (vs := [(.ref 81), (.int ci_m1)]) (w1 := mkC ra rb rc re rf rg (uI σ 77 4 ci_0)) (pc2 := 13) (L2 := [some (.ref 77)]) (J2 := []) (rest := []) (fun _ => none) (fun a => mkC ra rb rc re rf rg a) (fun _ _ => rfl) h (fun a ha => k_cj_fill_81 n (d + 0) _ _ _ _ _ _ _ _ _ ha) (fun q1 _ h => ?_)
  cases h
  exact bfr_ret 1 (fun _ _ => rfl)
set_option maxRecDepth 100000 in
theorem k_cTop_read_b41 (n d : Nat) (q : (Int32 × bS)) (x1 : Int32) (s1 : Int32) (o2 : Option Value) (ra : Nat) (rc : Nat) (re : Nat) (σ : bS) (h : cTop_read_b41 n x1 s1 σ = some q) : bfx MT (d + 7) M_X11_read 41 [some (.ref 0), some (.int x1), o2] [] [(.int s1), (.ref 0)] (mkC ra 14 rc re (.ref 14) (.ref 23) σ) (fun ze => (some (.int q.1), mkC (bif Nat.beq ze 0 then 14 else ra) (bif Nat.beq ze 0 then ra else 14) (bif Nat.beq ze 0 then 14 else rc) re (.ref 14) (.ref 23) q.2)) := by
  unfold cTop_read_b41 at h
  refine bfx_run 1 44 [some (.ref 0), some (.int x1), o2] [] [] ((mkC ra 14 rc re (.ref 14) (.ref 23) σ).set 0 (.inr (.inr (11, (mkC_0  ra 14 rc re (.ref 14) (.ref 23) σ).set 2 (.int s1))))) (fun _ _ => rfl) ?_
  rw [mkC_I0_2]
  refine bfx_br 2 (pc1 := 48) (L1 := [some (.ref 0), some (.int x1), o2]) (J1 := []) (st1 := []) (w1 := mkC ra 14 rc re (.ref 14) (.ref 23) (uI σ 0 2 s1)) (pc2 := 91) (L2 := [some (.ref 0), some (.int x1), o2]) (J2 := []) (st2 := []) (w2 := mkC ra 14 rc re (.ref 14) (.ref 23) (uI σ 0 2 s1)) (fun _ _ => rfl) h (fun h => ?_) (fun h => ?_)
  · refine bfx_run 6 58 [some (.ref 0), some (.int x1), some (.ref ra)] [] [(.ref 14), (.ref 0)] (mkC ra 14 rc re (.ref 14) (.ref 23) (uI σ 0 2 s1)) (fun _ _ => rfl) ?_
    refine bfx_run 1 61 [some (.ref 0), some (.int x1), some (.ref ra)] [] [] ((mkC ra 14 rc re (.ref 14) (.ref 23) (uI σ 0 2 s1)).set 0 (.inr (.inr (11, (mkC_0 ra 14 rc re (.ref 14) (.ref 23) (uI σ 0 2 s1)).set 3 (.ref 14))))) (fun _ _ => rfl) ?_
    rw [mkC_R0]
    refine bfx_run 3 66 [some (.ref 0), some (.int x1), some (.ref ra)] [] [] ((mkC 14 14 rc re (.ref 14) (.ref 23) (uI σ 0 2 s1)).set 0 (.inr (.inr (11, (mkC_0 14 14 rc re (.ref 14) (.ref 23) (uI σ 0 2 s1)).set 4 (.ref ra))))) (fun _ _ => rfl) ?_
    rw [mkC_R1]
    refine bfx_call 5 (d1 := d + 6) (M1 := M_X1_begin) (vs := [(.ref 27), (.ref 14)]) (w1 := mkC 14 ra rc re (.ref 14) (.ref 23) (uI σ 0 2 s1)) (pc2 := 77) (L2 := [some (.ref 0), some (.int x1), some (.ref ra)]) (J2 := []) (rest := []) (fun _ => none) (fun a => mkC 14 ra 14 re (.ref 14) (.ref 23) a) (fun _ _ => rfl) h (fun a ha => k_cGoing_begin_14 n (d + 5) _ _ _ _ _ _ _ _ ha) (fun q1 _ h => ?_)
    refine bfx_call 3 (d1 := d + 6) (M1 := M_X7_clear) (vs := [(.ref 54)]) (w1 := mkC 14 ra 14 re (.ref 14) (.ref 23) q1) (pc2 := 84) (L2 := [some (.ref 0), some (.int x1), some (.ref ra)]) (J2 := []) (rest := []) (fun _ => none) (fun a => mkC 14 ra 14 re (.ref 14) (.ref 23) a) (fun _ _ => rfl) h (fun a ha => k_cShelf_clear n (d + 6) _ _ _ _ _ _ _ _ ha) (fun q2 _ h => ?_)
    refine bfx_call 3 (d1 := d + 6) (M1 := M_X6_clear) (vs := [(.ref 77)]) (w1 := mkC 14 ra 14 re (.ref 14) (.ref 23) q2) (pc2 := 91) (L2 := [some (.ref 0), some (.int x1), some (.ref ra)]) (J2 := []) (rest := []) (fun _ => none) (fun a => mkC 14 ra 14 re (.ref 14) (.ref 23) a) (fun _ _ => rfl) h (fun a ha => k_cSeen_clear n (d + 5) _ _ _ _ _ _ _ _ ha) (fun q3 _ h => ?_)
    cases h
    exact ⟨0, bfr_ret 2 (fun _ _ => rfl)⟩
  · cases h
    exact ⟨1, bfr_ret 2 (fun _ _ => rfl)⟩
set_option maxRecDepth 100000 in
theorem k_cTop_read (n d : Nat) (q : (Int32 × bS)) (ra : Nat) (rc : Nat) (re : Nat) (rf : Value) (rg : Value) (σ : bS) (h : cTop_read n σ = some q) : bfx MT (d + 7) M_X11_read 0 [some (.ref 0), none, none] [] [] (mkC ra 14 rc re rf rg σ) (fun ze => (some (.int q.1), mkC (bif Nat.beq ze 0 then 14 else ra) (bif Nat.beq ze 0 then ra else 14) (bif Nat.beq ze 0 then 14 else rc) re (.ref 14) (.ref 23) q.2)) := by
  unfold cTop_read at h
  refine bfx_run 6 12 [some (.ref 0), none, none] [] [(.ref 43), (.ref 14), (.ref 44)] (mkC ra 14 rc re rf rg σ) (fun _ _ => rfl) ?_
  refine bfx_call 3 (d1 := d + 6) (M1 := M_X4_readInto) (vs := [(.ref 44), (.ref 14), (.ref 43), (.int (sI σ 0 1))]) (w1 := mkC ra 14 rc re rf rg σ) (pc2 := 19) (L2 := [some (.ref 0), none, none]) (J2 := []) (rest := []) (fun a => some (.int a.1)) (fun a => mkC ra 14 rc re (.ref 14) (.ref 23) a.2) (fun _ _ => rfl) h (fun a ha => k_cReader_readInto_14_43 n (d + 0) _ _ _ _ _ _ _ _ _ ha) (fun q4 _ h => ?_)
  refine bfx_run 4 25 [some (.ref 0), some (.int q4.1), none] [] [] ((mkC ra 14 rc re (.ref 14) (.ref 23) q4.2).set 0 (.inr (.inr (11, (mkC_0  ra 14 rc re (.ref 14) (.ref 23) q4.2).set 1 (.int ci_0))))) (fun _ _ => rfl) ?_
  rw [mkC_I0_1]
  refine bfx_br 3 (pc1 := 30) (L1 := [some (.ref 0), some (.int q4.1), none]) (J1 := []) (st1 := [(.ref 0)]) (w1 := mkC ra 14 rc re (.ref 14) (.ref 23) (uI q4.2 0 1 ci_0)) (pc2 := 34) (L2 := [some (.ref 0), some (.int q4.1), none]) (J2 := []) (st2 := [(.ref 0)]) (w2 := mkC ra 14 rc re (.ref 14) (.ref 23) (uI q4.2 0 1 ci_0)) (fun _ _ => rfl) h (fun h => ?_) (fun h => ?_)
  · refine bfx_run 2 41 [some (.ref 0), some (.int q4.1), none] [] [(.int ci_m1), (.ref 0)] (mkC ra 14 rc re (.ref 14) (.ref 23) (uI q4.2 0 1 ci_0)) (fun _ _ => rfl) ?_
    exact k_cTop_read_b41 n d q _ _ _ _ _ _ _ h
  · refine bfx_run 3 41 [some (.ref 0), some (.int q4.1), none] [] [(.int (sI (uI q4.2 0 1 ci_0) 44 0)), (.ref 0)] (mkC ra 14 rc re (.ref 14) (.ref 23) (uI q4.2 0 1 ci_0)) (fun _ _ => rfl) ?_
    exact k_cTop_read_b41 n d q _ _ _ _ _ _ _ h
set_option maxRecDepth 100000 in
theorem k_cTop_place (n d : Nat) (q : (Int32 × bS)) (ra : Nat) (rb : Nat) (rc : Nat) (re : Nat) (rf : Value) (rg : Value) (σ : bS) (h : cTop_place n σ = some q) : bfr MT (d + 0) M_X11_place 0 [some (.ref 0)] [] [] (mkC ra rb rc re rf rg σ) (some (.int q.1), mkC ra rb rc re rf rg q.2) := by
  unfold cTop_place at h
  cases h
  exact bfr_ret 3 (fun _ _ => rfl)
set_option maxRecDepth 100000 in
theorem k_cTop_isBank_b20 (n d : Nat) (q : (Int32 × bS)) (s0 : Int32) (o0 : Option Value) (o1 : Option Value) (rb : Nat) (rc : Nat) (re : Nat) (rf : Value) (rg : Value) (σ : bS) (h : cTop_isBank_b20 n s0 σ = some q) : bfr MT (d + 0) M_X11_isBank 20 [o0, o1] [] [(.int s0)] (mkC 1 rb rc re rf rg σ) (some (.int q.1), mkC 1 rb rc re rf rg q.2) := by
  unfold cTop_isBank_b20 at h
  exact bfr_bz (mk := mkC 1 rb rc re rf rg) 1 (fun _ _ => rfl) h
set_option maxRecDepth 100000 in
theorem k_cTop_isBank_b19 (n d : Nat) (q : (Int32 × bS)) (o0 : Option Value) (o1 : Option Value) (rb : Nat) (rc : Nat) (re : Nat) (rf : Value) (rg : Value) (σ : bS) (h : cTop_isBank_b19 n σ = some q) : bfr MT (d + 0) M_X11_isBank 19 [o0, o1] [] [] (mkC 1 rb rc re rf rg σ) (some (.int q.1), mkC 1 rb rc re rf rg q.2) := by
  unfold cTop_isBank_b19 at h
  refine bfr_run 1 20 [o0, o1] [] [(.int ci_0)] (mkC 1 rb rc re rf rg σ) (fun _ _ => rfl) ?_
  exact k_cTop_isBank_b20 n d q _ _ _ _ _ _ _ _ _ h
set_option maxRecDepth 100000 in
theorem k_cTop_isBank (n d : Nat) (q : (Int32 × bS)) (x1 : Int32) (rb : Nat) (rc : Nat) (re : Nat) (rf : Value) (rg : Value) (σ : bS) (h : cTop_isBank n x1 σ = some q) : bfr MT (d + 0) M_X11_isBank 0 [some (.ref 0), some (.int x1)] [] [] (mkC 1 rb rc re rf rg σ) (some (.int q.1), mkC 1 rb rc re rf rg q.2) := by
  unfold cTop_isBank at h
  refine bfr_br 2 (pc1 := 19) (L1 := [some (.ref 0), some (.int x1)]) (J1 := []) (st1 := []) (w1 := mkC 1 rb rc re rf rg σ) (pc2 := 4) (L2 := [some (.ref 0), some (.int x1)]) (J2 := []) (st2 := []) (w2 := mkC 1 rb rc re rf rg σ) (fun _ _ => rfl) h (fun h => ?_) (fun h => ?_)
  · exact k_cTop_isBank_b19 n d q _ _ _ _ _ _ _ _ h
  · refine bfr_br 5 (pc1 := 19) (L1 := [some (.ref 0), some (.int x1)]) (J1 := []) (st1 := []) (w1 := mkC 1 rb rc re rf rg σ) (pc2 := 15) (L2 := [some (.ref 0), some (.int x1)]) (J2 := []) (st2 := []) (w2 := mkC 1 rb rc re rf rg σ) (fun _ _ => rfl) h (fun h => ?_) (fun h => ?_)
    · exact k_cTop_isBank_b19 n d q _ _ _ _ _ _ _ _ h
    · refine bfr_run 2 20 [some (.ref 0), some (.int x1)] [] [(.int ci_1)] (mkC 1 rb rc re rf rg σ) (fun _ _ => rfl) ?_
      exact k_cTop_isBank_b20 n d q _ _ _ _ _ _ _ _ _ h
set_option maxRecDepth 100000 in
theorem k_cTop_isBridge_b20 (n d : Nat) (q : (Int32 × bS)) (s0 : Int32) (o0 : Option Value) (o1 : Option Value) (rb : Nat) (rc : Nat) (re : Nat) (rf : Value) (rg : Value) (σ : bS) (h : cTop_isBridge_b20 n s0 σ = some q) : bfr MT (d + 0) M_X11_isBridge 20 [o0, o1] [] [(.int s0)] (mkC 1 rb rc re rf rg σ) (some (.int q.1), mkC 1 rb rc re rf rg q.2) := by
  unfold cTop_isBridge_b20 at h
  exact bfr_bz (mk := mkC 1 rb rc re rf rg) 1 (fun _ _ => rfl) h
set_option maxRecDepth 100000 in
theorem k_cTop_isBridge_b19 (n d : Nat) (q : (Int32 × bS)) (o0 : Option Value) (o1 : Option Value) (rb : Nat) (rc : Nat) (re : Nat) (rf : Value) (rg : Value) (σ : bS) (h : cTop_isBridge_b19 n σ = some q) : bfr MT (d + 0) M_X11_isBridge 19 [o0, o1] [] [] (mkC 1 rb rc re rf rg σ) (some (.int q.1), mkC 1 rb rc re rf rg q.2) := by
  unfold cTop_isBridge_b19 at h
  refine bfr_run 1 20 [o0, o1] [] [(.int ci_0)] (mkC 1 rb rc re rf rg σ) (fun _ _ => rfl) ?_
  exact k_cTop_isBridge_b20 n d q _ _ _ _ _ _ _ _ _ h
set_option maxRecDepth 100000 in
theorem k_cTop_isBridge (n d : Nat) (q : (Int32 × bS)) (x1 : Int32) (rb : Nat) (rc : Nat) (re : Nat) (rf : Value) (rg : Value) (σ : bS) (h : cTop_isBridge n x1 σ = some q) : bfr MT (d + 0) M_X11_isBridge 0 [some (.ref 0), some (.int x1)] [] [] (mkC 1 rb rc re rf rg σ) (some (.int q.1), mkC 1 rb rc re rf rg q.2) := by
  unfold cTop_isBridge at h
  refine bfr_br 2 (pc1 := 19) (L1 := [some (.ref 0), some (.int x1)]) (J1 := []) (st1 := []) (w1 := mkC 1 rb rc re rf rg σ) (pc2 := 4) (L2 := [some (.ref 0), some (.int x1)]) (J2 := []) (st2 := []) (w2 := mkC 1 rb rc re rf rg σ) (fun _ _ => rfl) h (fun h => ?_) (fun h => ?_)
  · exact k_cTop_isBridge_b19 n d q _ _ _ _ _ _ _ _ h
  · refine bfr_br 5 (pc1 := 19) (L1 := [some (.ref 0), some (.int x1)]) (J1 := []) (st1 := []) (w1 := mkC 1 rb rc re rf rg σ) (pc2 := 15) (L2 := [some (.ref 0), some (.int x1)]) (J2 := []) (st2 := []) (w2 := mkC 1 rb rc re rf rg σ) (fun _ _ => rfl) h (fun h => ?_) (fun h => ?_)
    · exact k_cTop_isBridge_b19 n d q _ _ _ _ _ _ _ _ h
    · refine bfr_run 2 20 [some (.ref 0), some (.int x1)] [] [(.int ci_1)] (mkC 1 rb rc re rf rg σ) (fun _ _ => rfl) ?_
      exact k_cTop_isBridge_b20 n d q _ _ _ _ _ _ _ _ _ h
set_option maxRecDepth 100000 in
theorem k_cTop_isMan_b20 (n d : Nat) (q : (Int32 × bS)) (s0 : Int32) (o0 : Option Value) (o1 : Option Value) (rb : Nat) (rc : Nat) (re : Nat) (rf : Value) (rg : Value) (σ : bS) (h : cTop_isMan_b20 n s0 σ = some q) : bfr MT (d + 0) M_X11_isMan 20 [o0, o1] [] [(.int s0)] (mkC 1 rb rc re rf rg σ) (some (.int q.1), mkC 1 rb rc re rf rg q.2) := by
  unfold cTop_isMan_b20 at h
  exact bfr_bz (mk := mkC 1 rb rc re rf rg) 1 (fun _ _ => rfl) h
set_option maxRecDepth 100000 in
theorem k_cTop_isMan_b19 (n d : Nat) (q : (Int32 × bS)) (o0 : Option Value) (o1 : Option Value) (rb : Nat) (rc : Nat) (re : Nat) (rf : Value) (rg : Value) (σ : bS) (h : cTop_isMan_b19 n σ = some q) : bfr MT (d + 0) M_X11_isMan 19 [o0, o1] [] [] (mkC 1 rb rc re rf rg σ) (some (.int q.1), mkC 1 rb rc re rf rg q.2) := by
  unfold cTop_isMan_b19 at h
  refine bfr_run 1 20 [o0, o1] [] [(.int ci_0)] (mkC 1 rb rc re rf rg σ) (fun _ _ => rfl) ?_
  exact k_cTop_isMan_b20 n d q _ _ _ _ _ _ _ _ _ h
set_option maxRecDepth 100000 in
theorem k_cTop_isMan (n d : Nat) (q : (Int32 × bS)) (x1 : Int32) (rb : Nat) (rc : Nat) (re : Nat) (rf : Value) (rg : Value) (σ : bS) (h : cTop_isMan n x1 σ = some q) : bfr MT (d + 0) M_X11_isMan 0 [some (.ref 0), some (.int x1)] [] [] (mkC 1 rb rc re rf rg σ) (some (.int q.1), mkC 1 rb rc re rf rg q.2) := by
  unfold cTop_isMan at h
  refine bfr_br 2 (pc1 := 19) (L1 := [some (.ref 0), some (.int x1)]) (J1 := []) (st1 := []) (w1 := mkC 1 rb rc re rf rg σ) (pc2 := 4) (L2 := [some (.ref 0), some (.int x1)]) (J2 := []) (st2 := []) (w2 := mkC 1 rb rc re rf rg σ) (fun _ _ => rfl) h (fun h => ?_) (fun h => ?_)
  · exact k_cTop_isMan_b19 n d q _ _ _ _ _ _ _ _ h
  · refine bfr_br 5 (pc1 := 19) (L1 := [some (.ref 0), some (.int x1)]) (J1 := []) (st1 := []) (w1 := mkC 1 rb rc re rf rg σ) (pc2 := 15) (L2 := [some (.ref 0), some (.int x1)]) (J2 := []) (st2 := []) (w2 := mkC 1 rb rc re rf rg σ) (fun _ _ => rfl) h (fun h => ?_) (fun h => ?_)
    · exact k_cTop_isMan_b19 n d q _ _ _ _ _ _ _ _ h
    · refine bfr_run 2 20 [some (.ref 0), some (.int x1)] [] [(.int ci_1)] (mkC 1 rb rc re rf rg σ) (fun _ _ => rfl) ?_
      exact k_cTop_isMan_b20 n d q _ _ _ _ _ _ _ _ _ h
set_option maxRecDepth 100000 in
theorem k_cTop_orNot_b10 (n d : Nat) (q : (Int32 × bS)) (s0 : Int32) (o0 : Option Value) (ra : Nat) (rb : Nat) (rc : Nat) (re : Nat) (rf : Value) (rg : Value) (σ : bS) (h : cTop_orNot_b10 n s0 σ = some q) : bfr MT (d + 0) M_X11_orNot 10 [o0] [] [(.int s0)] (mkC ra rb rc re rf rg σ) (some (.int q.1), mkC ra rb rc re rf rg q.2) := by
  unfold cTop_orNot_b10 at h
  cases h
  exact bfr_ret 1 (fun _ _ => rfl)
set_option maxRecDepth 100000 in
theorem k_cTop_orNot (n d : Nat) (q : (Int32 × bS)) (x0 : Int32) (ra : Nat) (rb : Nat) (rc : Nat) (re : Nat) (rf : Value) (rg : Value) (σ : bS) (h : cTop_orNot n x0 σ = some q) : bfr MT (d + 0) M_X11_orNot 0 [some (.int x0)] [] [] (mkC ra rb rc re rf rg σ) (some (.int q.1), mkC ra rb rc re rf rg q.2) := by
  unfold cTop_orNot at h
  refine bfr_br 2 (pc1 := 9) (L1 := [some (.int x0)]) (J1 := []) (st1 := []) (w1 := mkC ra rb rc re rf rg σ) (pc2 := 4) (L2 := [some (.int x0)]) (J2 := []) (st2 := []) (w2 := mkC ra rb rc re rf rg σ) (fun _ _ => rfl) h (fun h => ?_) (fun h => ?_)
  · refine bfr_run 1 10 [some (.int x0)] [] [(.int x0)] (mkC ra rb rc re rf rg σ) (fun _ _ => rfl) ?_
    exact k_cTop_orNot_b10 n d q _ _ _ _ _ _ _ _ _ h
  · refine bfr_run 2 10 [some (.int x0)] [] [(.int cb_m2)] (mkC ra rb rc re rf rg σ) (fun _ _ => rfl) ?_
    exact k_cTop_orNot_b10 n d q _ _ _ _ _ _ _ _ _ h
set_option maxRecDepth 100000 in
theorem k_cGoing_menAt_b31 (n d : Nat) (r4 : Int32 → Int32 → Int32 → bS → Option (Int32 × bS)) (q : (Int32 × bS)) (hr4 : ∀ (x1 : Int32) (x2 : Int32) (x3 : Int32) (ra : Nat) (rb : Nat) (re : Nat) (rf : Value) (rg : Value) (σ : bS), r4 x1 x2 x3 σ = some q → bfr MT (d + 0) M_X1_menAt 4 [some (.ref 27), some (.int x1), some (.int x2), some (.int x3)] [] [] (mkC ra rb 1 re rf rg σ) (some (.int q.1), mkC ra rb 1 re rf rg q.2)) (x1 : Int32) (x2 : Int32) (x3 : Int32) (ra : Nat) (rb : Nat) (re : Nat) (rf : Value) (rg : Value) (σ : bS) (h : cGoing_menAt_b31 n r4 x1 x2 x3 σ = some q) : bfr MT (d + 0) M_X1_menAt 31 [some (.ref 27), some (.int x1), some (.int x2), some (.int x3)] [] [] (mkC ra rb 1 re rf rg σ) (some (.int q.1), mkC ra rb 1 re rf rg q.2) := by
  unfold cGoing_menAt_b31 at h
  refine bfr_run 1 34 [some (.ref 27), some (.int x1), some (.int x2), some (.int (x3 + ci_1))] [] [] (mkC ra rb 1 re rf rg σ) (fun _ _ => rfl) ?_
  refine bfr_run 1 4 [some (.ref 27), some (.int x1), some (.int x2), some (.int (x3 + ci_1))] [] [] (mkC ra rb 1 re rf rg σ) (fun _ _ => rfl) ?_
  exact hr4 _ _ _ _ _ _ _ _ _ h
set_option maxRecDepth 100000 in
theorem k_cGoing_menAt_b4 (n d : Nat) (q : (Int32 × bS)) : ∀ (k : Nat) (x1 : Int32) (x2 : Int32) (x3 : Int32) (ra : Nat) (rb : Nat) (re : Nat) (rf : Value) (rg : Value) (σ : bS), cGoing_menAt_b4 n k x1 x2 x3 σ = some q → bfr MT (d + 0) M_X1_menAt 4 [some (.ref 27), some (.int x1), some (.int x2), some (.int x3)] [] [] (mkC ra rb 1 re rf rg σ) (some (.int q.1), mkC ra rb 1 re rf rg q.2) := by
  intro k
  induction k with
  | zero => intro x1 x2 x3 ra rb re rf rg σ h; exact bno h
  | succ k ih =>
    intro x1 x2 x3 ra rb re rf rg σ h
    unfold cGoing_menAt_b4 at h
    refine bfr_br 5 (pc1 := 37) (L1 := [some (.ref 27), some (.int x1), some (.int x2), some (.int x3)]) (J1 := []) (st1 := []) (w1 := mkC ra rb 1 re rf rg σ) (pc2 := 15) (L2 := [some (.ref 27), some (.int x1), some (.int x2), some (.int x3)]) (J2 := []) (st2 := []) (w2 := mkC ra rb 1 re rf rg σ) (fun _ _ => rfl) h (fun h => ?_) (fun h => ?_)
    · cases h
      exact bfr_ret 2 (fun _ _ => rfl)
    · refine bfr_in (i := x3) (m := 7) 4 (pc1 := 21) (L1 := [some (.ref 27), some (.int x1), some (.int x2), some (.int x3)]) (J1 := []) (st1 := [(.int (sA σ 30 x3))]) (w1 := mkC ra rb 1 re rf rg σ) (fun _ _ => rfl) h (fun h => ?_)
      refine bfr_br 2 (pc1 := 25) (L1 := [some (.ref 27), some (.int x1), some (.int x2), some (.int x3)]) (J1 := []) (st1 := []) (w1 := mkC ra rb 1 re rf rg σ) (pc2 := 31) (L2 := [some (.ref 27), some (.int x1), some (.int x2), some (.int x3)]) (J2 := []) (st2 := []) (w2 := mkC ra rb 1 re rf rg σ) (fun _ _ => rfl) h (fun h => ?_) (fun h => ?_)
      · refine bfr_run 6 31 [some (.ref 27), some (.int x1), some (.int (x2 ||| (ci_1 <<< (x3 &&& 31)))), some (.int x3)] [] [] (mkC ra rb 1 re rf rg σ) (fun _ _ => rfl) ?_
        exact k_cGoing_menAt_b31 n d _ q (ih) _ _ _ _ _ _ _ _ _ h
      · exact k_cGoing_menAt_b31 n d _ q (ih) _ _ _ _ _ _ _ _ _ h
set_option maxRecDepth 100000 in
theorem k_cGoing_menAt (n d : Nat) (q : (Int32 × bS)) (x1 : Int32) (ra : Nat) (rb : Nat) (re : Nat) (rf : Value) (rg : Value) (σ : bS) (h : cGoing_menAt n x1 σ = some q) : bfr MT (d + 0) M_X1_menAt 0 [some (.ref 27), some (.int x1), none, none] [] [] (mkC ra rb 1 re rf rg σ) (some (.int q.1), mkC ra rb 1 re rf rg q.2) := by
  unfold cGoing_menAt at h
  refine bfr_run 4 4 [some (.ref 27), some (.int x1), some (.int ci_0), some (.int ci_0)] [] [] (mkC ra rb 1 re rf rg σ) (fun _ _ => rfl) ?_
  exact k_cGoing_menAt_b4 n d q _ _ _ _ _ _ _ _ _ _ h
set_option maxRecDepth 100000 in
theorem k_cTop_bank_b20 (n d : Nat) (q : (Int32 × bS)) (s0 : Int32) (o0 : Option Value) (o1 : Option Value) (rb : Nat) (re : Nat) (rf : Value) (rg : Value) (σ : bS) (h : cTop_bank_b20 n s0 σ = some q) : bfr MT (d + 1) M_X11_bank 20 [o0, o1] [] [(.int s0)] (mkC 1 rb 1 re rf rg σ) (some (.int q.1), mkC 1 rb 1 re rf rg q.2) := by
  unfold cTop_bank_b20 at h
  cases h
  exact bfr_ret 1 (fun _ _ => rfl)
set_option maxRecDepth 100000 in
theorem k_cTop_bank (n d : Nat) (q : (Int32 × bS)) (x1 : Int32) (rb : Nat) (re : Nat) (rf : Value) (rg : Value) (σ : bS) (h : cTop_bank n x1 σ = some q) : bfr MT (d + 1) M_X11_bank 0 [some (.ref 0), some (.int x1)] [] [] (mkC 1 rb 1 re rf rg σ) (some (.int q.1), mkC 1 rb 1 re rf rg q.2) := by
  unfold cTop_bank at h
  refine bfr_call 3 (d1 := d + 0) (M1 := M_X11_isBank) (vs := [(.ref 0), (.int x1)]) (w1 := mkC 1 rb 1 re rf rg σ) (pc2 := 5) (L2 := [some (.ref 0), some (.int x1)]) (J2 := []) (rest := []) (fun a => some (.int a.1)) (fun a => mkC 1 rb 1 re rf rg a.2) (fun _ _ => rfl) h (fun a ha => k_cTop_isBank n (d + 0) _ _ _ _ _ _ _ _ ha) (fun q1 _ h => ?_)
  refine bfr_br 1 (pc1 := 19) (L1 := [some (.ref 0), some (.int x1)]) (J1 := []) (st1 := []) (w1 := mkC 1 rb 1 re rf rg q1.2) (pc2 := 8) (L2 := [some (.ref 0), some (.int x1)]) (J2 := []) (st2 := []) (w2 := mkC 1 rb 1 re rf rg q1.2) (fun _ _ => rfl) h (fun h => ?_) (fun h => ?_)
  · refine bfr_run 1 20 [some (.ref 0), some (.int x1)] [] [(.int ci_m1)] (mkC 1 rb 1 re rf rg q1.2) (fun _ _ => rfl) ?_
    exact k_cTop_bank_b20 n d q _ _ _ _ _ _ _ _ h
  · refine bfr_call 4 (d1 := d + 0) (M1 := M_X1_menAt) (vs := [(.ref 27), (.int x1)]) (w1 := mkC 1 rb 1 re rf rg q1.2) (pc2 := 16) (L2 := [some (.ref 0), some (.int x1)]) (J2 := []) (rest := []) (fun a => some (.int a.1)) (fun a => mkC 1 rb 1 re rf rg a.2) (fun _ _ => rfl) h (fun a ha => k_cGoing_menAt n (d + 0) _ _ _ _ _ _ _ _ ha) (fun q2 _ h => ?_)
    refine bfr_run 1 20 [some (.ref 0), some (.int x1)] [] [(.int q2.1)] (mkC 1 rb 1 re rf rg q2.2) (fun _ _ => rfl) ?_
    exact k_cTop_bank_b20 n d q _ _ _ _ _ _ _ _ h
set_option maxRecDepth 100000 in
theorem k_cGoing_menOn_b31 (n d : Nat) (r4 : Int32 → Int32 → Int32 → bS → Option (Int32 × bS)) (q : (Int32 × bS)) (hr4 : ∀ (x1 : Int32) (x2 : Int32) (x3 : Int32) (ra : Nat) (rb : Nat) (re : Nat) (rf : Value) (rg : Value) (σ : bS), r4 x1 x2 x3 σ = some q → bfr MT (d + 0) M_X1_menOn 4 [some (.ref 27), some (.int x1), some (.int x2), some (.int x3)] [] [] (mkC ra rb 1 re rf rg σ) (some (.int q.1), mkC ra rb 1 re rf rg q.2)) (x1 : Int32) (x2 : Int32) (x3 : Int32) (ra : Nat) (rb : Nat) (re : Nat) (rf : Value) (rg : Value) (σ : bS) (h : cGoing_menOn_b31 n r4 x1 x2 x3 σ = some q) : bfr MT (d + 0) M_X1_menOn 31 [some (.ref 27), some (.int x1), some (.int x2), some (.int x3)] [] [] (mkC ra rb 1 re rf rg σ) (some (.int q.1), mkC ra rb 1 re rf rg q.2) := by
  unfold cGoing_menOn_b31 at h
  refine bfr_run 1 34 [some (.ref 27), some (.int x1), some (.int x2), some (.int (x3 + ci_1))] [] [] (mkC ra rb 1 re rf rg σ) (fun _ _ => rfl) ?_
  refine bfr_run 1 4 [some (.ref 27), some (.int x1), some (.int x2), some (.int (x3 + ci_1))] [] [] (mkC ra rb 1 re rf rg σ) (fun _ _ => rfl) ?_
  exact hr4 _ _ _ _ _ _ _ _ _ h
set_option maxRecDepth 100000 in
theorem k_cGoing_menOn_b4 (n d : Nat) (q : (Int32 × bS)) : ∀ (k : Nat) (x1 : Int32) (x2 : Int32) (x3 : Int32) (ra : Nat) (rb : Nat) (re : Nat) (rf : Value) (rg : Value) (σ : bS), cGoing_menOn_b4 n k x1 x2 x3 σ = some q → bfr MT (d + 0) M_X1_menOn 4 [some (.ref 27), some (.int x1), some (.int x2), some (.int x3)] [] [] (mkC ra rb 1 re rf rg σ) (some (.int q.1), mkC ra rb 1 re rf rg q.2) := by
  intro k
  induction k with
  | zero => intro x1 x2 x3 ra rb re rf rg σ h; exact bno h
  | succ k ih =>
    intro x1 x2 x3 ra rb re rf rg σ h
    unfold cGoing_menOn_b4 at h
    refine bfr_br 5 (pc1 := 37) (L1 := [some (.ref 27), some (.int x1), some (.int x2), some (.int x3)]) (J1 := []) (st1 := []) (w1 := mkC ra rb 1 re rf rg σ) (pc2 := 15) (L2 := [some (.ref 27), some (.int x1), some (.int x2), some (.int x3)]) (J2 := []) (st2 := []) (w2 := mkC ra rb 1 re rf rg σ) (fun _ _ => rfl) h (fun h => ?_) (fun h => ?_)
    · cases h
      exact bfr_ret 2 (fun _ _ => rfl)
    · refine bfr_in (i := x3) (m := 7) 4 (pc1 := 21) (L1 := [some (.ref 27), some (.int x1), some (.int x2), some (.int x3)]) (J1 := []) (st1 := [(.int (sA σ 31 x3))]) (w1 := mkC ra rb 1 re rf rg σ) (fun _ _ => rfl) h (fun h => ?_)
      refine bfr_br 2 (pc1 := 25) (L1 := [some (.ref 27), some (.int x1), some (.int x2), some (.int x3)]) (J1 := []) (st1 := []) (w1 := mkC ra rb 1 re rf rg σ) (pc2 := 31) (L2 := [some (.ref 27), some (.int x1), some (.int x2), some (.int x3)]) (J2 := []) (st2 := []) (w2 := mkC ra rb 1 re rf rg σ) (fun _ _ => rfl) h (fun h => ?_) (fun h => ?_)
      · refine bfr_run 6 31 [some (.ref 27), some (.int x1), some (.int (x2 ||| (ci_1 <<< (x3 &&& 31)))), some (.int x3)] [] [] (mkC ra rb 1 re rf rg σ) (fun _ _ => rfl) ?_
        exact k_cGoing_menOn_b31 n d _ q (ih) _ _ _ _ _ _ _ _ _ h
      · exact k_cGoing_menOn_b31 n d _ q (ih) _ _ _ _ _ _ _ _ _ h
set_option maxRecDepth 100000 in
theorem k_cGoing_menOn (n d : Nat) (q : (Int32 × bS)) (x1 : Int32) (ra : Nat) (rb : Nat) (re : Nat) (rf : Value) (rg : Value) (σ : bS) (h : cGoing_menOn n x1 σ = some q) : bfr MT (d + 0) M_X1_menOn 0 [some (.ref 27), some (.int x1), none, none] [] [] (mkC ra rb 1 re rf rg σ) (some (.int q.1), mkC ra rb 1 re rf rg q.2) := by
  unfold cGoing_menOn at h
  refine bfr_run 4 4 [some (.ref 27), some (.int x1), some (.int ci_0), some (.int ci_0)] [] [] (mkC ra rb 1 re rf rg σ) (fun _ _ => rfl) ?_
  exact k_cGoing_menOn_b4 n d q _ _ _ _ _ _ _ _ _ _ h
set_option maxRecDepth 100000 in
theorem k_cTop_bridge (n d : Nat) (q : (Int32 × bS)) (x1 : Int32) (x2 : Int32) (rb : Nat) (re : Nat) (rf : Value) (rg : Value) (σ : bS) (h : cTop_bridge n x1 x2 σ = some q) : bfr MT (d + 1) M_X11_bridge 0 [some (.ref 0), some (.int x1), some (.int x2)] [] [] (mkC 1 rb 1 re rf rg σ) (some (.int q.1), mkC 1 rb 1 re rf rg q.2) := by
  unfold cTop_bridge at h
  refine bfr_call 3 (d1 := d + 0) (M1 := M_X11_isBridge) (vs := [(.ref 0), (.int x1)]) (w1 := mkC 1 rb 1 re rf rg σ) (pc2 := 5) (L2 := [some (.ref 0), some (.int x1), some (.int x2)]) (J2 := []) (rest := []) (fun a => some (.int a.1)) (fun a => mkC 1 rb 1 re rf rg a.2) (fun _ _ => rfl) h (fun a ha => k_cTop_isBridge n (d + 0) _ _ _ _ _ _ _ _ ha) (fun q1 _ h => ?_)
  refine bfr_br 1 (pc1 := 8) (L1 := [some (.ref 0), some (.int x1), some (.int x2)]) (J1 := []) (st1 := []) (w1 := mkC 1 rb 1 re rf rg q1.2) (pc2 := 10) (L2 := [some (.ref 0), some (.int x1), some (.int x2)]) (J2 := []) (st2 := []) (w2 := mkC 1 rb 1 re rf rg q1.2) (fun _ _ => rfl) h (fun h => ?_) (fun h => ?_)
  · cases h
    exact bfr_ret 2 (fun _ _ => rfl)
  · refine bfr_of 2 (fun K => (if (x2).toInt = 0 then K 40 [some (.ref 0), some (.int x1), some (.int x2)] [] [] (mkC 1 rb 1 re rf rg q1.2) else (if (x2).toInt = 1 then K 50 [some (.ref 0), some (.int x1), some (.int x2)] [] [] (mkC 1 rb 1 re rf rg q1.2) else (if (x2).toInt = 2 then K 63 [some (.ref 0), some (.int x1), some (.int x2)] [] [] (mkC 1 rb 1 re rf rg q1.2) else (if (x2).toInt = 3 then K 72 [some (.ref 0), some (.int x1), some (.int x2)] [] [] (mkC 1 rb 1 re rf rg q1.2) else K 82 [some (.ref 0), some (.int x1), some (.int x2)] [] [] (mkC 1 rb 1 re rf rg q1.2)))))) (fun _ _ => rfl) ?_
    refine bres_if h (fun h => ?_) (fun h => ?_)
    · refine bfr_in (i := x1) (m := 4) 5 (pc1 := 49) (L1 := [some (.ref 0), some (.int x1), some (.int x2)]) (J1 := []) (st1 := [(.int (sA q1.2 3 x1))]) (w1 := mkC 1 rb 1 re rf rg q1.2) (fun _ _ => rfl) h (fun h => ?_)
      cases h
      exact bfr_ret 1 (fun _ _ => rfl)
    refine bres_if h (fun h => ?_) (fun h => ?_)
    · refine bfr_in (i := x1) (m := 4) 5 (pc1 := 59) (L1 := [some (.ref 0), some (.int x1), some (.int x2)]) (J1 := []) (st1 := [(.int (sA q1.2 28 x1))]) (w1 := mkC 1 rb 1 re rf rg q1.2) (fun _ _ => rfl) h (fun h => ?_)
      refine bfr_call 1 (d1 := d + 0) (M1 := M_X11_orNot) (vs := [(.int (sA q1.2 28 x1))]) (w1 := mkC 1 rb 1 re rf rg q1.2) (pc2 := 62) (L2 := [some (.ref 0), some (.int x1), some (.int x2)]) (J2 := []) (rest := []) (fun a => some (.int a.1)) (fun a => mkC 1 rb 1 re rf rg a.2) (fun _ _ => rfl) h (fun a ha => k_cTop_orNot n (d + 0) _ _ _ _ _ _ _ _ _ ha) (fun q2 _ h => ?_)
      cases h
      exact bfr_ret 1 (fun _ _ => rfl)
    refine bres_if h (fun h => ?_) (fun h => ?_)
    · refine bfr_call 4 (d1 := d + 0) (M1 := M_X1_menOn) (vs := [(.ref 27), (.int x1)]) (w1 := mkC 1 rb 1 re rf rg q1.2) (pc2 := 71) (L2 := [some (.ref 0), some (.int x1), some (.int x2)]) (J2 := []) (rest := []) (fun a => some (.int a.1)) (fun a => mkC 1 rb 1 re rf rg a.2) (fun _ _ => rfl) h (fun a ha => k_cGoing_menOn n (d + 0) _ _ _ _ _ _ _ _ ha) (fun q3 _ h => ?_)
      cases h
      exact bfr_ret 1 (fun _ _ => rfl)
    refine bres_if h (fun h => ?_) (fun h => ?_)
    · refine bfr_in (i := x1) (m := 4) 5 (pc1 := 81) (L1 := [some (.ref 0), some (.int x1), some (.int x2)]) (J1 := []) (st1 := [(.int (sA q1.2 29 x1))]) (w1 := mkC 1 rb 1 re rf rg q1.2) (fun _ _ => rfl) h (fun h => ?_)
      cases h
      exact bfr_ret 1 (fun _ _ => rfl)
    cases h
    exact bfr_ret 2 (fun _ _ => rfl)
set_option maxRecDepth 100000 in
theorem k_cTop_man (n d : Nat) (q : (Int32 × bS)) (x1 : Int32) (x2 : Int32) (rb : Nat) (rc : Nat) (re : Nat) (rf : Value) (rg : Value) (σ : bS) (h : cTop_man n x1 x2 σ = some q) : bfr MT (d + 1) M_X11_man 0 [some (.ref 0), some (.int x1), some (.int x2)] [] [] (mkC 1 rb rc re rf rg σ) (some (.int q.1), mkC 1 rb rc re rf rg q.2) := by
  unfold cTop_man at h
  refine bfr_call 3 (d1 := d + 0) (M1 := M_X11_isMan) (vs := [(.ref 0), (.int x1)]) (w1 := mkC 1 rb rc re rf rg σ) (pc2 := 5) (L2 := [some (.ref 0), some (.int x1), some (.int x2)]) (J2 := []) (rest := []) (fun a => some (.int a.1)) (fun a => mkC 1 rb rc re rf rg a.2) (fun _ _ => rfl) h (fun a ha => k_cTop_isMan n (d + 0) _ _ _ _ _ _ _ _ ha) (fun q1 _ h => ?_)
  refine bfr_br 1 (pc1 := 8) (L1 := [some (.ref 0), some (.int x1), some (.int x2)]) (J1 := []) (st1 := []) (w1 := mkC 1 rb rc re rf rg q1.2) (pc2 := 10) (L2 := [some (.ref 0), some (.int x1), some (.int x2)]) (J2 := []) (st2 := []) (w2 := mkC 1 rb rc re rf rg q1.2) (fun _ _ => rfl) h (fun h => ?_) (fun h => ?_)
  · cases h
    exact bfr_ret 2 (fun _ _ => rfl)
  · refine bfr_of 2 (fun K => (if (x2).toInt = 0 then K 48 [some (.ref 0), some (.int x1), some (.int x2)] [] [] (mkC 1 rb rc re rf rg q1.2) else (if (x2).toInt = 1 then K 61 [some (.ref 0), some (.int x1), some (.int x2)] [] [] (mkC 1 rb rc re rf rg q1.2) else (if (x2).toInt = 2 then K 71 [some (.ref 0), some (.int x1), some (.int x2)] [] [] (mkC 1 rb rc re rf rg q1.2) else (if (x2).toInt = 3 then K 81 [some (.ref 0), some (.int x1), some (.int x2)] [] [] (mkC 1 rb rc re rf rg q1.2) else (if (x2).toInt = 4 then K 91 [some (.ref 0), some (.int x1), some (.int x2)] [] [] (mkC 1 rb rc re rf rg q1.2) else (if (x2).toInt = 5 then K 101 [some (.ref 0), some (.int x1), some (.int x2)] [] [] (mkC 1 rb rc re rf rg q1.2) else K 114 [some (.ref 0), some (.int x1), some (.int x2)] [] [] (mkC 1 rb rc re rf rg q1.2)))))))) (fun _ _ => rfl) ?_
    refine bres_if h (fun h => ?_) (fun h => ?_)
    · refine bfr_in (i := x1) (m := 7) 5 (pc1 := 57) (L1 := [some (.ref 0), some (.int x1), some (.int x2)]) (J1 := []) (st1 := [(.int (sA q1.2 30 x1))]) (w1 := mkC 1 rb rc re rf rg q1.2) (fun _ _ => rfl) h (fun h => ?_)
      refine bfr_call 1 (d1 := d + 0) (M1 := M_X11_orNot) (vs := [(.int (sA q1.2 30 x1))]) (w1 := mkC 1 rb rc re rf rg q1.2) (pc2 := 60) (L2 := [some (.ref 0), some (.int x1), some (.int x2)]) (J2 := []) (rest := []) (fun a => some (.int a.1)) (fun a => mkC 1 rb rc re rf rg a.2) (fun _ _ => rfl) h (fun a ha => k_cTop_orNot n (d + 0) _ _ _ _ _ _ _ _ _ ha) (fun q2 _ h => ?_)
      cases h
      exact bfr_ret 1 (fun _ _ => rfl)
    refine bres_if h (fun h => ?_) (fun h => ?_)
    · refine bfr_in (i := x1) (m := 7) 5 (pc1 := 70) (L1 := [some (.ref 0), some (.int x1), some (.int x2)]) (J1 := []) (st1 := [(.int (sA q1.2 6 x1))]) (w1 := mkC 1 rb rc re rf rg q1.2) (fun _ _ => rfl) h (fun h => ?_)
      cases h
      exact bfr_ret 1 (fun _ _ => rfl)
    refine bres_if h (fun h => ?_) (fun h => ?_)
    · refine bfr_in (i := x1) (m := 7) 5 (pc1 := 80) (L1 := [some (.ref 0), some (.int x1), some (.int x2)]) (J1 := []) (st1 := [(.int (sA q1.2 32 x1))]) (w1 := mkC 1 rb rc re rf rg q1.2) (fun _ _ => rfl) h (fun h => ?_)
      cases h
      exact bfr_ret 1 (fun _ _ => rfl)
    refine bres_if h (fun h => ?_) (fun h => ?_)
    · refine bfr_in (i := x1) (m := 7) 5 (pc1 := 90) (L1 := [some (.ref 0), some (.int x1), some (.int x2)]) (J1 := []) (st1 := [(.int (sA q1.2 33 x1))]) (w1 := mkC 1 rb rc re rf rg q1.2) (fun _ _ => rfl) h (fun h => ?_)
      cases h
      exact bfr_ret 1 (fun _ _ => rfl)
    refine bres_if h (fun h => ?_) (fun h => ?_)
    · refine bfr_in (i := x1) (m := 7) 5 (pc1 := 100) (L1 := [some (.ref 0), some (.int x1), some (.int x2)]) (J1 := []) (st1 := [(.int (sA q1.2 34 x1))]) (w1 := mkC 1 rb rc re rf rg q1.2) (fun _ _ => rfl) h (fun h => ?_)
      cases h
      exact bfr_ret 1 (fun _ _ => rfl)
    refine bres_if h (fun h => ?_) (fun h => ?_)
    · refine bfr_in (i := x1) (m := 7) 5 (pc1 := 110) (L1 := [some (.ref 0), some (.int x1), some (.int x2)]) (J1 := []) (st1 := [(.int (sA q1.2 31 x1))]) (w1 := mkC 1 rb rc re rf rg q1.2) (fun _ _ => rfl) h (fun h => ?_)
      refine bfr_call 1 (d1 := d + 0) (M1 := M_X11_orNot) (vs := [(.int (sA q1.2 31 x1))]) (w1 := mkC 1 rb rc re rf rg q1.2) (pc2 := 113) (L2 := [some (.ref 0), some (.int x1), some (.int x2)]) (J2 := []) (rest := []) (fun a => some (.int a.1)) (fun a => mkC 1 rb rc re rf rg a.2) (fun _ _ => rfl) h (fun a ha => k_cTop_orNot n (d + 0) _ _ _ _ _ _ _ _ _ ha) (fun q3 _ h => ?_)
      cases h
      exact bfr_ret 1 (fun _ _ => rfl)
    cases h
    exact bfr_ret 2 (fun _ _ => rfl)
set_option maxRecDepth 100000 in
theorem k_cj_floorMod_b18 (n d : Nat) (q : (Int32 × bS)) (x2 : Int32) (o0 : Option Value) (o1 : Option Value) (ra : Nat) (rb : Nat) (rc : Nat) (re : Nat) (rf : Value) (rg : Value) (σ : bS) (h : cj_floorMod_b18 n x2 σ = some q) : bfr MT (d + 0) M_J9_floorMod_7cf53 18 [o0, o1, some (.int x2)] [] [] (mkC ra rb rc re rf rg σ) (some (.int q.1), mkC ra rb rc re rf rg q.2) := by
  unfold cj_floorMod_b18 at h
  cases h
  exact bfr_ret 2 (fun _ _ => rfl)
set_option maxRecDepth 100000 in
theorem k_cj_floorMod (n d : Nat) (q : (Int32 × bS)) (x0 : Int32) (x1 : Int32) (ra : Nat) (rb : Nat) (rc : Nat) (re : Nat) (rf : Value) (rg : Value) (σ : bS) (h : cj_floorMod n x0 x1 σ = some q) : bfr MT (d + 0) M_J9_floorMod_7cf53 0 [some (.int x0), some (.int x1), none] [] [] (mkC ra rb rc re rf rg σ) (some (.int q.1), mkC ra rb rc re rf rg q.2) := by
  unfold cj_floorMod at h
  refine bfr_chk 3 (pc1 := 3) (L1 := [some (.int x0), some (.int x1), none]) (J1 := []) (st1 := [(.int (brem x0 x1))]) (w1 := mkC ra rb rc re rf rg σ) (fun _ _ => rfl) h (fun h => ?_)
  refine bfr_br 5 (pc1 := 18) (L1 := [some (.int x0), some (.int x1), some (.int (brem x0 x1))]) (J1 := []) (st1 := []) (w1 := mkC ra rb rc re rf rg σ) (pc2 := 10) (L2 := [some (.int x0), some (.int x1), some (.int (brem x0 x1))]) (J2 := []) (st2 := []) (w2 := mkC ra rb rc re rf rg σ) (fun _ _ => rfl) h (fun h => ?_) (fun h => ?_)
  · exact k_cj_floorMod_b18 n d q _ _ _ _ _ _ _ _ _ _ h
  · refine bfr_br 2 (pc1 := 18) (L1 := [some (.int x0), some (.int x1), some (.int (brem x0 x1))]) (J1 := []) (st1 := []) (w1 := mkC ra rb rc re rf rg σ) (pc2 := 14) (L2 := [some (.int x0), some (.int x1), some (.int (brem x0 x1))]) (J2 := []) (st2 := []) (w2 := mkC ra rb rc re rf rg σ) (fun _ _ => rfl) h (fun h => ?_) (fun h => ?_)
    · exact k_cj_floorMod_b18 n d q _ _ _ _ _ _ _ _ _ _ h
    · cases h
      exact bfr_ret 4 (fun _ _ => rfl)
set_option maxRecDepth 100000 in
theorem k_cGoing_look (n d : Nat) (q : bS) (x1 : Int32) (x2 : Int32) (x3 : Int32) (ra : Nat) (rb : Nat) (re : Nat) (rf : Value) (rg : Value) (σ : bS) (h : cGoing_look n x1 x2 x3 σ = some q) : bfr MT (d + 1) M_X1_look 0 [some (.ref 27), some (.int x1), some (.int x2), some (.int x3), none] [] [] (mkC ra rb 1 re rf rg σ) (none, mkC ra rb 1 re rf rg q) := by
  unfold cGoing_look at h
  refine bfr_run 6 14 [some (.ref 27), some (.int x1), some (.int x2), some (.int x3), some (.ref 13)] [] [(.ref 13)] (mkC ra rb 1 re rf rg σ) (fun _ _ => rfl) ?_
  refine bfr_call 4 (d1 := d + 0) (M1 := M_J9_floorMod_7cf53) (vs := [(.int x3), (.int cb_24)]) (w1 := mkC ra rb 1 re rf rg σ) (pc2 := 21) (L2 := [some (.ref 27), some (.int x1), some (.int x2), some (.int x3), some (.ref 13)]) (J2 := []) (rest := [(.int ci_0), (.ref 13)]) (fun a => some (.int a.1)) (fun a => mkC ra rb 1 re rf rg a.2) (fun _ _ => rfl) h (fun a ha => k_cj_floorMod n (d + 0) _ _ _ _ _ _ _ _ _ _ ha) (fun q1 _ h => ?_)
  refine bfr_in (i := ci_0) (m := 8) 1 (pc1 := 22) (L1 := [some (.ref 27), some (.int x1), some (.int x2), some (.int x3), some (.ref 13)]) (J1 := []) (st1 := []) (w1 := ((mkC ra rb 1 re rf rg q1.2).set 13 (.inl (0, 8, upd (q1.2.2.1 13) (ci_0).toNatClampNeg q1.1)))) (fun _ _ => rfl) h (fun h => ?_)
  rw [mkC_A13]
  refine bfr_in (i := ci_1) (m := 8) 4 (pc1 := 27) (L1 := [some (.ref 27), some (.int x1), some (.int x2), some (.int x3), some (.ref 13)]) (J1 := []) (st1 := []) (w1 := ((mkC ra rb 1 re rf rg (uA q1.2 13 ci_0 q1.1)).set 13 (.inl (0, 8, upd ((uA q1.2 13 ci_0 q1.1).2.1 13) (ci_1).toNatClampNeg x2)))) (fun _ _ => rfl) h (fun h => ?_)
  rw [mkC_A13]
  refine bfr_in (i := x1) (m := 7) 6 (pc1 := 36) (L1 := [some (.ref 27), some (.int x1), some (.int x2), some (.int x3), some (.ref 13)]) (J1 := []) (st1 := [(.int (sA (uA (uA q1.2 13 ci_0 q1.1) 13 ci_1 x2) 33 x1)), (.int ci_2), (.ref 13)]) (w1 := mkC ra rb 1 re rf rg (uA (uA q1.2 13 ci_0 q1.1) 13 ci_1 x2)) (fun _ _ => rfl) h (fun h => ?_)
  refine bfr_in (i := ci_2) (m := 8) 1 (pc1 := 37) (L1 := [some (.ref 27), some (.int x1), some (.int x2), some (.int x3), some (.ref 13)]) (J1 := []) (st1 := []) (w1 := ((mkC ra rb 1 re rf rg (uA (uA q1.2 13 ci_0 q1.1) 13 ci_1 x2)).set 13 (.inl (0, 8, upd ((uA (uA q1.2 13 ci_0 q1.1) 13 ci_1 x2).2.1 13) (ci_2).toNatClampNeg (sA (uA (uA q1.2 13 ci_0 q1.1) 13 ci_1 x2) 33 x1))))) (fun _ _ => rfl) h (fun h => ?_)
  rw [mkC_A13]
  refine bfr_in (i := x1) (m := 7) 6 (pc1 := 46) (L1 := [some (.ref 27), some (.int x1), some (.int x2), some (.int x3), some (.ref 13)]) (J1 := []) (st1 := [(.int (sA (uA (uA (uA q1.2 13 ci_0 q1.1) 13 ci_1 x2) 13 ci_2 (sA (uA (uA q1.2 13 ci_0 q1.1) 13 ci_1 x2) 33 x1)) 32 x1)), (.int ci_3), (.ref 13)]) (w1 := mkC ra rb 1 re rf rg (uA (uA (uA q1.2 13 ci_0 q1.1) 13 ci_1 x2) 13 ci_2 (sA (uA (uA q1.2 13 ci_0 q1.1) 13 ci_1 x2) 33 x1))) (fun _ _ => rfl) h (fun h => ?_)
  refine bfr_in (i := ci_3) (m := 8) 1 (pc1 := 47) (L1 := [some (.ref 27), some (.int x1), some (.int x2), some (.int x3), some (.ref 13)]) (J1 := []) (st1 := []) (w1 := ((mkC ra rb 1 re rf rg (uA (uA (uA q1.2 13 ci_0 q1.1) 13 ci_1 x2) 13 ci_2 (sA (uA (uA q1.2 13 ci_0 q1.1) 13 ci_1 x2) 33 x1))).set 13 (.inl (0, 8, upd ((uA (uA (uA q1.2 13 ci_0 q1.1) 13 ci_1 x2) 13 ci_2 (sA (uA (uA q1.2 13 ci_0 q1.1) 13 ci_1 x2) 33 x1)).2.1 13) (ci_3).toNatClampNeg (sA (uA (uA (uA q1.2 13 ci_0 q1.1) 13 ci_1 x2) 13 ci_2 (sA (uA (uA q1.2 13 ci_0 q1.1) 13 ci_1 x2) 33 x1)) 32 x1))))) (fun _ _ => rfl) h (fun h => ?_)
  rw [mkC_A13]
  refine bfr_run 6 58 [some (.ref 27), some (.int x1), some (.int x2), some (.int x3), some (.ref 13)] [] [(.int x1), (.ref 6), (.int ci_4), (.ref 13)] (mkC ra rb 1 re rf rg (uA (uA (uA (uA q1.2 13 ci_0 q1.1) 13 ci_1 x2) 13 ci_2 (sA (uA (uA q1.2 13 ci_0 q1.1) 13 ci_1 x2) 33 x1)) 13 ci_3 (sA (uA (uA (uA q1.2 13 ci_0 q1.1) 13 ci_1 x2) 13 ci_2 (sA (uA (uA q1.2 13 ci_0 q1.1) 13 ci_1 x2) 33 x1)) 32 x1))) (fun _ _ => rfl) ?_
  refine bfr_in (i := x1) (m := 7) 1 (pc1 := 59) (L1 := [some (.ref 27), some (.int x1), some (.int x2), some (.int x3), some (.ref 13)]) (J1 := []) (st1 := [(.int (sA (uA (uA (uA (uA q1.2 13 ci_0 q1.1) 13 ci_1 x2) 13 ci_2 (sA (uA (uA q1.2 13 ci_0 q1.1) 13 ci_1 x2) 33 x1)) 13 ci_3 (sA (uA (uA (uA q1.2 13 ci_0 q1.1) 13 ci_1 x2) 13 ci_2 (sA (uA (uA q1.2 13 ci_0 q1.1) 13 ci_1 x2) 33 x1)) 32 x1)) 6 x1)), (.int ci_4), (.ref 13)]) (w1 := mkC ra rb 1 re rf rg (uA (uA (uA (uA q1.2 13 ci_0 q1.1) 13 ci_1 x2) 13 ci_2 (sA (uA (uA q1.2 13 ci_0 q1.1) 13 ci_1 x2) 33 x1)) 13 ci_3 (sA (uA (uA (uA q1.2 13 ci_0 q1.1) 13 ci_1 x2) 13 ci_2 (sA (uA (uA q1.2 13 ci_0 q1.1) 13 ci_1 x2) 33 x1)) 32 x1))) (fun _ _ => rfl) h (fun h => ?_)
  refine bfr_in (i := ci_4) (m := 8) 1 (pc1 := 60) (L1 := [some (.ref 27), some (.int x1), some (.int x2), some (.int x3), some (.ref 13)]) (J1 := []) (st1 := []) (w1 := ((mkC ra rb 1 re rf rg (uA (uA (uA (uA q1.2 13 ci_0 q1.1) 13 ci_1 x2) 13 ci_2 (sA (uA (uA q1.2 13 ci_0 q1.1) 13 ci_1 x2) 33 x1)) 13 ci_3 (sA (uA (uA (uA q1.2 13 ci_0 q1.1) 13 ci_1 x2) 13 ci_2 (sA (uA (uA q1.2 13 ci_0 q1.1) 13 ci_1 x2) 33 x1)) 32 x1))).set 13 (.inl (0, 8, upd ((uA (uA (uA (uA q1.2 13 ci_0 q1.1) 13 ci_1 x2) 13 ci_2 (sA (uA (uA q1.2 13 ci_0 q1.1) 13 ci_1 x2) 33 x1)) 13 ci_3 (sA (uA (uA (uA q1.2 13 ci_0 q1.1) 13 ci_1 x2) 13 ci_2 (sA (uA (uA q1.2 13 ci_0 q1.1) 13 ci_1 x2) 33 x1)) 32 x1)).2.1 13) (ci_4).toNatClampNeg (sA (uA (uA (uA (uA q1.2 13 ci_0 q1.1) 13 ci_1 x2) 13 ci_2 (sA (uA (uA q1.2 13 ci_0 q1.1) 13 ci_1 x2) 33 x1)) 13 ci_3 (sA (uA (uA (uA q1.2 13 ci_0 q1.1) 13 ci_1 x2) 13 ci_2 (sA (uA (uA q1.2 13 ci_0 q1.1) 13 ci_1 x2) 33 x1)) 32 x1)) 6 x1))))) (fun _ _ => rfl) h (fun h => ?_)
  rw [mkC_A13]
  refine bfr_in (i := ci_5) (m := 8) 4 (pc1 := 65) (L1 := [some (.ref 27), some (.int x1), some (.int x2), some (.int x3), some (.ref 13)]) (J1 := []) (st1 := []) (w1 := ((mkC ra rb 1 re rf rg (uA (uA (uA (uA (uA q1.2 13 ci_0 q1.1) 13 ci_1 x2) 13 ci_2 (sA (uA (uA q1.2 13 ci_0 q1.1) 13 ci_1 x2) 33 x1)) 13 ci_3 (sA (uA (uA (uA q1.2 13 ci_0 q1.1) 13 ci_1 x2) 13 ci_2 (sA (uA (uA q1.2 13 ci_0 q1.1) 13 ci_1 x2) 33 x1)) 32 x1)) 13 ci_4 (sA (uA (uA (uA (uA q1.2 13 ci_0 q1.1) 13 ci_1 x2) 13 ci_2 (sA (uA (uA q1.2 13 ci_0 q1.1) 13 ci_1 x2) 33 x1)) 13 ci_3 (sA (uA (uA (uA q1.2 13 ci_0 q1.1) 13 ci_1 x2) 13 ci_2 (sA (uA (uA q1.2 13 ci_0 q1.1) 13 ci_1 x2) 33 x1)) 32 x1)) 6 x1))).set 13 (.inl (0, 8, upd ((uA (uA (uA (uA (uA q1.2 13 ci_0 q1.1) 13 ci_1 x2) 13 ci_2 (sA (uA (uA q1.2 13 ci_0 q1.1) 13 ci_1 x2) 33 x1)) 13 ci_3 (sA (uA (uA (uA q1.2 13 ci_0 q1.1) 13 ci_1 x2) 13 ci_2 (sA (uA (uA q1.2 13 ci_0 q1.1) 13 ci_1 x2) 33 x1)) 32 x1)) 13 ci_4 (sA (uA (uA (uA (uA q1.2 13 ci_0 q1.1) 13 ci_1 x2) 13 ci_2 (sA (uA (uA q1.2 13 ci_0 q1.1) 13 ci_1 x2) 33 x1)) 13 ci_3 (sA (uA (uA (uA q1.2 13 ci_0 q1.1) 13 ci_1 x2) 13 ci_2 (sA (uA (uA q1.2 13 ci_0 q1.1) 13 ci_1 x2) 33 x1)) 32 x1)) 6 x1)).2.1 13) (ci_5).toNatClampNeg x1)))) (fun _ _ => rfl) h (fun h => ?_)
  rw [mkC_A13]
  refine bfr_in (i := x1) (m := 7) 6 (pc1 := 75) (L1 := [some (.ref 27), some (.int x1), some (.int x2), some (.int x3), some (.ref 13)]) (J1 := []) (st1 := [(.int (sA (uA (uA (uA (uA (uA (uA q1.2 13 ci_0 q1.1) 13 ci_1 x2) 13 ci_2 (sA (uA (uA q1.2 13 ci_0 q1.1) 13 ci_1 x2) 33 x1)) 13 ci_3 (sA (uA (uA (uA q1.2 13 ci_0 q1.1) 13 ci_1 x2) 13 ci_2 (sA (uA (uA q1.2 13 ci_0 q1.1) 13 ci_1 x2) 33 x1)) 32 x1)) 13 ci_4 (sA (uA (uA (uA (uA q1.2 13 ci_0 q1.1) 13 ci_1 x2) 13 ci_2 (sA (uA (uA q1.2 13 ci_0 q1.1) 13 ci_1 x2) 33 x1)) 13 ci_3 (sA (uA (uA (uA q1.2 13 ci_0 q1.1) 13 ci_1 x2) 13 ci_2 (sA (uA (uA q1.2 13 ci_0 q1.1) 13 ci_1 x2) 33 x1)) 32 x1)) 6 x1)) 13 ci_5 x1) 30 x1)), (.int cb_6), (.ref 13)]) (w1 := mkC ra rb 1 re rf rg (uA (uA (uA (uA (uA (uA q1.2 13 ci_0 q1.1) 13 ci_1 x2) 13 ci_2 (sA (uA (uA q1.2 13 ci_0 q1.1) 13 ci_1 x2) 33 x1)) 13 ci_3 (sA (uA (uA (uA q1.2 13 ci_0 q1.1) 13 ci_1 x2) 13 ci_2 (sA (uA (uA q1.2 13 ci_0 q1.1) 13 ci_1 x2) 33 x1)) 32 x1)) 13 ci_4 (sA (uA (uA (uA (uA q1.2 13 ci_0 q1.1) 13 ci_1 x2) 13 ci_2 (sA (uA (uA q1.2 13 ci_0 q1.1) 13 ci_1 x2) 33 x1)) 13 ci_3 (sA (uA (uA (uA q1.2 13 ci_0 q1.1) 13 ci_1 x2) 13 ci_2 (sA (uA (uA q1.2 13 ci_0 q1.1) 13 ci_1 x2) 33 x1)) 32 x1)) 6 x1)) 13 ci_5 x1)) (fun _ _ => rfl) h (fun h => ?_)
  refine bfr_in (i := cb_6) (m := 8) 1 (pc1 := 76) (L1 := [some (.ref 27), some (.int x1), some (.int x2), some (.int x3), some (.ref 13)]) (J1 := []) (st1 := []) (w1 := ((mkC ra rb 1 re rf rg (uA (uA (uA (uA (uA (uA q1.2 13 ci_0 q1.1) 13 ci_1 x2) 13 ci_2 (sA (uA (uA q1.2 13 ci_0 q1.1) 13 ci_1 x2) 33 x1)) 13 ci_3 (sA (uA (uA (uA q1.2 13 ci_0 q1.1) 13 ci_1 x2) 13 ci_2 (sA (uA (uA q1.2 13 ci_0 q1.1) 13 ci_1 x2) 33 x1)) 32 x1)) 13 ci_4 (sA (uA (uA (uA (uA q1.2 13 ci_0 q1.1) 13 ci_1 x2) 13 ci_2 (sA (uA (uA q1.2 13 ci_0 q1.1) 13 ci_1 x2) 33 x1)) 13 ci_3 (sA (uA (uA (uA q1.2 13 ci_0 q1.1) 13 ci_1 x2) 13 ci_2 (sA (uA (uA q1.2 13 ci_0 q1.1) 13 ci_1 x2) 33 x1)) 32 x1)) 6 x1)) 13 ci_5 x1)).set 13 (.inl (0, 8, upd ((uA (uA (uA (uA (uA (uA q1.2 13 ci_0 q1.1) 13 ci_1 x2) 13 ci_2 (sA (uA (uA q1.2 13 ci_0 q1.1) 13 ci_1 x2) 33 x1)) 13 ci_3 (sA (uA (uA (uA q1.2 13 ci_0 q1.1) 13 ci_1 x2) 13 ci_2 (sA (uA (uA q1.2 13 ci_0 q1.1) 13 ci_1 x2) 33 x1)) 32 x1)) 13 ci_4 (sA (uA (uA (uA (uA q1.2 13 ci_0 q1.1) 13 ci_1 x2) 13 ci_2 (sA (uA (uA q1.2 13 ci_0 q1.1) 13 ci_1 x2) 33 x1)) 13 ci_3 (sA (uA (uA (uA q1.2 13 ci_0 q1.1) 13 ci_1 x2) 13 ci_2 (sA (uA (uA q1.2 13 ci_0 q1.1) 13 ci_1 x2) 33 x1)) 32 x1)) 6 x1)) 13 ci_5 x1).2.1 13) (cb_6).toNatClampNeg (sA (uA (uA (uA (uA (uA (uA q1.2 13 ci_0 q1.1) 13 ci_1 x2) 13 ci_2 (sA (uA (uA q1.2 13 ci_0 q1.1) 13 ci_1 x2) 33 x1)) 13 ci_3 (sA (uA (uA (uA q1.2 13 ci_0 q1.1) 13 ci_1 x2) 13 ci_2 (sA (uA (uA q1.2 13 ci_0 q1.1) 13 ci_1 x2) 33 x1)) 32 x1)) 13 ci_4 (sA (uA (uA (uA (uA q1.2 13 ci_0 q1.1) 13 ci_1 x2) 13 ci_2 (sA (uA (uA q1.2 13 ci_0 q1.1) 13 ci_1 x2) 33 x1)) 13 ci_3 (sA (uA (uA (uA q1.2 13 ci_0 q1.1) 13 ci_1 x2) 13 ci_2 (sA (uA (uA q1.2 13 ci_0 q1.1) 13 ci_1 x2) 33 x1)) 32 x1)) 6 x1)) 13 ci_5 x1) 30 x1))))) (fun _ _ => rfl) h (fun h => ?_)
  rw [mkC_A13]
  refine bfr_in (i := x1) (m := 7) 6 (pc1 := 86) (L1 := [some (.ref 27), some (.int x1), some (.int x2), some (.int x3), some (.ref 13)]) (J1 := []) (st1 := [(.int (sA (uA (uA (uA (uA (uA (uA (uA q1.2 13 ci_0 q1.1) 13 ci_1 x2) 13 ci_2 (sA (uA (uA q1.2 13 ci_0 q1.1) 13 ci_1 x2) 33 x1)) 13 ci_3 (sA (uA (uA (uA q1.2 13 ci_0 q1.1) 13 ci_1 x2) 13 ci_2 (sA (uA (uA q1.2 13 ci_0 q1.1) 13 ci_1 x2) 33 x1)) 32 x1)) 13 ci_4 (sA (uA (uA (uA (uA q1.2 13 ci_0 q1.1) 13 ci_1 x2) 13 ci_2 (sA (uA (uA q1.2 13 ci_0 q1.1) 13 ci_1 x2) 33 x1)) 13 ci_3 (sA (uA (uA (uA q1.2 13 ci_0 q1.1) 13 ci_1 x2) 13 ci_2 (sA (uA (uA q1.2 13 ci_0 q1.1) 13 ci_1 x2) 33 x1)) 32 x1)) 6 x1)) 13 ci_5 x1) 13 cb_6 (sA (uA (uA (uA (uA (uA (uA q1.2 13 ci_0 q1.1) 13 ci_1 x2) 13 ci_2 (sA (uA (uA q1.2 13 ci_0 q1.1) 13 ci_1 x2) 33 x1)) 13 ci_3 (sA (uA (uA (uA q1.2 13 ci_0 q1.1) 13 ci_1 x2) 13 ci_2 (sA (uA (uA q1.2 13 ci_0 q1.1) 13 ci_1 x2) 33 x1)) 32 x1)) 13 ci_4 (sA (uA (uA (uA (uA q1.2 13 ci_0 q1.1) 13 ci_1 x2) 13 ci_2 (sA (uA (uA q1.2 13 ci_0 q1.1) 13 ci_1 x2) 33 x1)) 13 ci_3 (sA (uA (uA (uA q1.2 13 ci_0 q1.1) 13 ci_1 x2) 13 ci_2 (sA (uA (uA q1.2 13 ci_0 q1.1) 13 ci_1 x2) 33 x1)) 32 x1)) 6 x1)) 13 ci_5 x1) 30 x1)) 34 x1)), (.int cb_7), (.ref 13)]) (w1 := mkC ra rb 1 re rf rg (uA (uA (uA (uA (uA (uA (uA q1.2 13 ci_0 q1.1) 13 ci_1 x2) 13 ci_2 (sA (uA (uA q1.2 13 ci_0 q1.1) 13 ci_1 x2) 33 x1)) 13 ci_3 (sA (uA (uA (uA q1.2 13 ci_0 q1.1) 13 ci_1 x2) 13 ci_2 (sA (uA (uA q1.2 13 ci_0 q1.1) 13 ci_1 x2) 33 x1)) 32 x1)) 13 ci_4 (sA (uA (uA (uA (uA q1.2 13 ci_0 q1.1) 13 ci_1 x2) 13 ci_2 (sA (uA (uA q1.2 13 ci_0 q1.1) 13 ci_1 x2) 33 x1)) 13 ci_3 (sA (uA (uA (uA q1.2 13 ci_0 q1.1) 13 ci_1 x2) 13 ci_2 (sA (uA (uA q1.2 13 ci_0 q1.1) 13 ci_1 x2) 33 x1)) 32 x1)) 6 x1)) 13 ci_5 x1) 13 cb_6 (sA (uA (uA (uA (uA (uA (uA q1.2 13 ci_0 q1.1) 13 ci_1 x2) 13 ci_2 (sA (uA (uA q1.2 13 ci_0 q1.1) 13 ci_1 x2) 33 x1)) 13 ci_3 (sA (uA (uA (uA q1.2 13 ci_0 q1.1) 13 ci_1 x2) 13 ci_2 (sA (uA (uA q1.2 13 ci_0 q1.1) 13 ci_1 x2) 33 x1)) 32 x1)) 13 ci_4 (sA (uA (uA (uA (uA q1.2 13 ci_0 q1.1) 13 ci_1 x2) 13 ci_2 (sA (uA (uA q1.2 13 ci_0 q1.1) 13 ci_1 x2) 33 x1)) 13 ci_3 (sA (uA (uA (uA q1.2 13 ci_0 q1.1) 13 ci_1 x2) 13 ci_2 (sA (uA (uA q1.2 13 ci_0 q1.1) 13 ci_1 x2) 33 x1)) 32 x1)) 6 x1)) 13 ci_5 x1) 30 x1))) (fun _ _ => rfl) h (fun h => ?_)
  refine bfr_in (i := cb_7) (m := 8) 1 (pc1 := 87) (L1 := [some (.ref 27), some (.int x1), some (.int x2), some (.int x3), some (.ref 13)]) (J1 := []) (st1 := []) (w1 := ((mkC ra rb 1 re rf rg (uA (uA (uA (uA (uA (uA (uA q1.2 13 ci_0 q1.1) 13 ci_1 x2) 13 ci_2 (sA (uA (uA q1.2 13 ci_0 q1.1) 13 ci_1 x2) 33 x1)) 13 ci_3 (sA (uA (uA (uA q1.2 13 ci_0 q1.1) 13 ci_1 x2) 13 ci_2 (sA (uA (uA q1.2 13 ci_0 q1.1) 13 ci_1 x2) 33 x1)) 32 x1)) 13 ci_4 (sA (uA (uA (uA (uA q1.2 13 ci_0 q1.1) 13 ci_1 x2) 13 ci_2 (sA (uA (uA q1.2 13 ci_0 q1.1) 13 ci_1 x2) 33 x1)) 13 ci_3 (sA (uA (uA (uA q1.2 13 ci_0 q1.1) 13 ci_1 x2) 13 ci_2 (sA (uA (uA q1.2 13 ci_0 q1.1) 13 ci_1 x2) 33 x1)) 32 x1)) 6 x1)) 13 ci_5 x1) 13 cb_6 (sA (uA (uA (uA (uA (uA (uA q1.2 13 ci_0 q1.1) 13 ci_1 x2) 13 ci_2 (sA (uA (uA q1.2 13 ci_0 q1.1) 13 ci_1 x2) 33 x1)) 13 ci_3 (sA (uA (uA (uA q1.2 13 ci_0 q1.1) 13 ci_1 x2) 13 ci_2 (sA (uA (uA q1.2 13 ci_0 q1.1) 13 ci_1 x2) 33 x1)) 32 x1)) 13 ci_4 (sA (uA (uA (uA (uA q1.2 13 ci_0 q1.1) 13 ci_1 x2) 13 ci_2 (sA (uA (uA q1.2 13 ci_0 q1.1) 13 ci_1 x2) 33 x1)) 13 ci_3 (sA (uA (uA (uA q1.2 13 ci_0 q1.1) 13 ci_1 x2) 13 ci_2 (sA (uA (uA q1.2 13 ci_0 q1.1) 13 ci_1 x2) 33 x1)) 32 x1)) 6 x1)) 13 ci_5 x1) 30 x1))).set 13 (.inl (0, 8, upd ((uA (uA (uA (uA (uA (uA (uA q1.2 13 ci_0 q1.1) 13 ci_1 x2) 13 ci_2 (sA (uA (uA q1.2 13 ci_0 q1.1) 13 ci_1 x2) 33 x1)) 13 ci_3 (sA (uA (uA (uA q1.2 13 ci_0 q1.1) 13 ci_1 x2) 13 ci_2 (sA (uA (uA q1.2 13 ci_0 q1.1) 13 ci_1 x2) 33 x1)) 32 x1)) 13 ci_4 (sA (uA (uA (uA (uA q1.2 13 ci_0 q1.1) 13 ci_1 x2) 13 ci_2 (sA (uA (uA q1.2 13 ci_0 q1.1) 13 ci_1 x2) 33 x1)) 13 ci_3 (sA (uA (uA (uA q1.2 13 ci_0 q1.1) 13 ci_1 x2) 13 ci_2 (sA (uA (uA q1.2 13 ci_0 q1.1) 13 ci_1 x2) 33 x1)) 32 x1)) 6 x1)) 13 ci_5 x1) 13 cb_6 (sA (uA (uA (uA (uA (uA (uA q1.2 13 ci_0 q1.1) 13 ci_1 x2) 13 ci_2 (sA (uA (uA q1.2 13 ci_0 q1.1) 13 ci_1 x2) 33 x1)) 13 ci_3 (sA (uA (uA (uA q1.2 13 ci_0 q1.1) 13 ci_1 x2) 13 ci_2 (sA (uA (uA q1.2 13 ci_0 q1.1) 13 ci_1 x2) 33 x1)) 32 x1)) 13 ci_4 (sA (uA (uA (uA (uA q1.2 13 ci_0 q1.1) 13 ci_1 x2) 13 ci_2 (sA (uA (uA q1.2 13 ci_0 q1.1) 13 ci_1 x2) 33 x1)) 13 ci_3 (sA (uA (uA (uA q1.2 13 ci_0 q1.1) 13 ci_1 x2) 13 ci_2 (sA (uA (uA q1.2 13 ci_0 q1.1) 13 ci_1 x2) 33 x1)) 32 x1)) 6 x1)) 13 ci_5 x1) 30 x1)).2.1 13) (cb_7).toNatClampNeg (sA (uA (uA (uA (uA (uA (uA (uA q1.2 13 ci_0 q1.1) 13 ci_1 x2) 13 ci_2 (sA (uA (uA q1.2 13 ci_0 q1.1) 13 ci_1 x2) 33 x1)) 13 ci_3 (sA (uA (uA (uA q1.2 13 ci_0 q1.1) 13 ci_1 x2) 13 ci_2 (sA (uA (uA q1.2 13 ci_0 q1.1) 13 ci_1 x2) 33 x1)) 32 x1)) 13 ci_4 (sA (uA (uA (uA (uA q1.2 13 ci_0 q1.1) 13 ci_1 x2) 13 ci_2 (sA (uA (uA q1.2 13 ci_0 q1.1) 13 ci_1 x2) 33 x1)) 13 ci_3 (sA (uA (uA (uA q1.2 13 ci_0 q1.1) 13 ci_1 x2) 13 ci_2 (sA (uA (uA q1.2 13 ci_0 q1.1) 13 ci_1 x2) 33 x1)) 32 x1)) 6 x1)) 13 ci_5 x1) 13 cb_6 (sA (uA (uA (uA (uA (uA (uA q1.2 13 ci_0 q1.1) 13 ci_1 x2) 13 ci_2 (sA (uA (uA q1.2 13 ci_0 q1.1) 13 ci_1 x2) 33 x1)) 13 ci_3 (sA (uA (uA (uA q1.2 13 ci_0 q1.1) 13 ci_1 x2) 13 ci_2 (sA (uA (uA q1.2 13 ci_0 q1.1) 13 ci_1 x2) 33 x1)) 32 x1)) 13 ci_4 (sA (uA (uA (uA (uA q1.2 13 ci_0 q1.1) 13 ci_1 x2) 13 ci_2 (sA (uA (uA q1.2 13 ci_0 q1.1) 13 ci_1 x2) 33 x1)) 13 ci_3 (sA (uA (uA (uA q1.2 13 ci_0 q1.1) 13 ci_1 x2) 13 ci_2 (sA (uA (uA q1.2 13 ci_0 q1.1) 13 ci_1 x2) 33 x1)) 32 x1)) 6 x1)) 13 ci_5 x1) 30 x1)) 34 x1))))) (fun _ _ => rfl) h (fun h => ?_)
  rw [mkC_A13]
  cases h
  exact bfr_ret 1 (fun _ _ => rfl)
