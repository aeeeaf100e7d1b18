section CTH
variable {p : Program} {l : Launch} {e : Env} {R : Room} {s : State} {m : MethodId} {args : Array Value} {below : List Frame} {meth : Method} {c : Code} {H : Heap} {locs : List Loc} {cells slots : Nat} {Q : State → Prop}
variable {cc : ByteArray} {pc : Nat} {ls : Array Slot} {rest : List Value} {D : va_G} {A : Nat → Prop} {ws : va_W} {H0 : Heap} {cA : Nat → ClassId}
theorem b_newa (hx : p.tables.exec = Jvm.exec) (hb : c.code = cc) {atype : ArrayType} {ty : FieldType} (harr : (Cond.arrayClass (newarray.typeOf atype)).before args s = true) (hty : newarray.typeOf atype = ty) (hK : va_K D cls_ (btys cA) s) (t : Nat) (ht : (btys cA)[t]? = some (cA t, ty)) (hpr : ∀ (U : State) (cX : ClassId), va_RA U cX ty → U.vm.findClass ("[" ++ ty.toString) = some cX)
    (hP : va_P D cls_ ws H) (hD : va_D A ws) (hS : va_S A H0 H locs) (hA : ∀ q, H0.size ≤ q → A q)
    {n : Int32} {N' : Nat} {a0 : vp_A} (ha : ∀ cA : ClassId, vp_cell cA a0 = arrV cA N' (fun _ => defaultValue ty)) (hn : ¬ n < 0) (hN : n.toNatClampNeg = N') (hbytes : N' * componentBytes ty ≤ 536870912) (hcells : cells + 1 ≤ R.cells) (hslots : slots + N' ≤ R.slots) (hdg : decode cc pc = .ok (.newarray atype, 2))
    (kk : ∀ (q : Nat) (H1 : Heap), va_P D cls_ (ws ++ [(q, .inl (cA t, a0))]) H1 → va_D A (ws ++ [(q, .inl (cA t, a0))]) → va_S A H0 H1 locs → W p l e R s m args below meth c H1 locs (cells + 1) (slots + N') Q (F0 m (pc + 2) ls (.ref q :: rest))) : W p l e R s m args below meth c H locs cells slots Q (F0 m pc ls (.int n :: rest)) := by
  refine va_newa hx hb harr hty hK hP hD hS hA ha hn hN hbytes hcells hslots hdg (fun q cB H1 hK1 hP1 hD1 hS1 => ?_)
  have e1 := hpr _ _ (hK1.2 4 (cB, ty) rfl).2
  have e2 := hpr _ _ (hK.2 t _ ht).2
  have e3 : cB = cA t := Option.some.inj (e1.symm.trans e2)
  subst e3
  exact kk q H1 hP1 hD1 hS1
theorem b_goodI {y : MethodName} {bytes : ByteArray} {maxL : Nat} {w0 : Cond} (h : Cond.code y bytes maxL none ∈ TW) : GoodIn (w0 :: TW) (Cond.code y bytes maxL none :: TW) := fun z hz => by
  have hz' : z ∈ TW := by
    rcases List.mem_cons.mp hz with rfl | hz
    · exact h
    · exact hz
  exact ⟨List.mem_cons_of_mem _ hz', good_of_word (TW_good z hz')⟩
/-- a method of the short machine, called by a constructor -/
theorem b_callm {own : String} {nL : Nat} {w0 : Cond} (hx : p.tables.exec = Jvm.exec) (hb : c.code = cc) (hml : c.maxLocals = nL) (hts : ∀ w ∈ (w0 :: TW), w.before args s = true) (hown : s.vm.findClass own = some m.cls) (hK : va_K D cls_ (btys cA) s)
    {M' : bM} {index d : Nat} {w w' : bW} {ad : Nat → Nat} {fs : List Value}
    (hM' : M' ∈ MT) (hst : bM_st M' = false) (hna : bM_na M' = 0) (hlk : Cond.methodLink own index (bM_y M') ∈ TW)
    (hfr : bfr MT d M' 0 (bpad (bM_maxL M') (bent 0 [.ref 0]).1) (bent 0 [.ref 0]).2 [] w (none, w')) (hcm : bcat [.ref 0] ≤ bM_maxL M') (hwb : w[0]? = some (.inr (.inr (bM_ci M', fs)))) (hd : decode cc pc = .ok (.invokevirtual index, 3)) (hsz : ls.size = nL) (hR : d + 1 ≤ R.frames ∧ 36 + 36 * d ≤ R.locals) (hcs : cells ≤ R.cells ∧ slots ≤ R.slots)
    (hP : va_P D cls_ (bws ad cA w) H) (hD : va_D A (bws ad cA w)) (hS : va_S A s.heap H locs) (hA : ∀ q, s.heap.size ≤ q → A q)
    (kk : ∀ (H1 : Heap) (locs1 : List Loc), va_P D cls_ (bws ad cA w') H1 → va_D A (bws ad cA w') → va_S A s.heap H1 locs1 → W p l e R s m args below meth c H1 locs1 cells slots Q (F0 m (pc + 3) ls [])) :
    W p l e R s m args below meth c H locs cells slots Q (F0 m pc ls [.ref (ad 0)]) := by
  obtain ⟨n, hn1⟩ := hfr
  obtain ⟨h1, h2, h3, h4, -, h6, -, -, h9⟩ := b_ok.2.2 M' hM'
  obtain ⟨h61, h62, T, N, h63⟩ := h6 hst
  rw [hna] at h4
  have hMet := bsound (l := l) (D := D) (cA := cA) (ad := ad) b_ok b_ok0 n d M' [.ref 0] w (none, w') hM' ⟨hcm, hn1⟩ H.size
  have hG : GoodIn (w0 :: TW) (wsV own index (bM_y M').cls (bM_y M') (bwsM TW M')) := fun z hz => by
    have hz' : z ∈ TW := by
      simp only [wsV, List.cons_append, List.nil_append, List.mem_cons] at hz
      rcases hz with rfl | rfl | rfl | rfl | rfl | hz
      · exact hlk
      · exact h61
      · exact h62
      · exact h2
      · exact h1
      · exact hz
    exact ⟨List.mem_cons_of_mem _ hz', good_of_word (TW_good z hz')⟩
  have cw := cwV (R := R) (s := s) (args := args) (bytes := bM_code M') (maxL := bM_maxL M') (ret := bM_ret M') (ws' := TW) (rm := brm d) (mc := 0) (ms := 0) 0 hts hG rfl rfl rfl ⟨rfl, h4⟩ ⟨hR.1, by have := hR.2; show 8 + (bM_maxL M' + 11) + 36 * d ≤ R.locals; omega⟩
  have he : (bws ad cA w)[0]? = some (ad 0, .inr (bM_ci M', fs.map (bg ad))) := bws_get hwb
  have hp : PreV s H (bM_y M').cls (ad 0) (bPc D cls_ cA ad H.size [.ref 0] w) [] := ⟨bblind, va_recv hK hP (q := ((bM_y M').cls, T, N)) h63 he, fun U hU hW => ⟨rfl, by rw [hU], by rw [hU]; exact hP, va_K.moved hW.alike hK, hD.weaken (fun _ _ _ _ => trivial)⟩⟩
  have hF := bfree hD hS hA
  have hr := va_runV (p := p) (l := l) (e := e) (R := R) (s := s) (m := m) (args := args) (below := below) (meth := meth) (c := c) (H := H) (locs := locs) (cells := cells) (slots := slots) (nL := nL) (g := F0 m pc ls [.ref (ad 0)]) (rest := []) ⟨hx, hb, hml, hown, hts⟩ hMet cw hp rfl rfl hsz rfl (lv_room (Nat.zero_le _)) hd ⟨hcs.1, hcs.2⟩
  refine va_callv (S := Unit) (a := #[Value.ref (ad 0)]) hr hS (fun q _ h => hF q h) hF (fun u t H1 locs1 ht hvm hw hB hz1 hk1 hS1 => ?_)
  obtain ⟨hP1, -, hD1⟩ := hB
  rw [ht] at hP1
  exact kk H1 locs1 hP1 (hD1.weaken (fun _ q _ h => hF _ h)) hS1
end CTH
def mkT_14 (σ : bS) : List Value := [.int (σ.1 14 0), .int (σ.1 14 1), .int (σ.1 14 2), .int (σ.1 14 3), .ref 1, .ref 2, .ref 3, .ref 4, .ref 5, .ref 6, .ref 7, .ref 8, .int (σ.1 14 12), .int (σ.1 14 13), .int (σ.1 14 14), .int (σ.1 14 15), .int (σ.1 14 16), .int (σ.1 14 17), .int (σ.1 14 18), .ref 9]
def mkT_23 (σ : bS) : List Value := [.ref 10, .ref 11, .ref 12, .int (σ.1 23 3)]
def mkT (σ : bS) : bW := [.inr (.inr (9, mkT_14 σ)), .inl (0, 36, σ.2.1 15), .inl (0, 4, σ.2.1 16), .inl (0, 4, σ.2.1 17), .inl (0, 7, σ.2.1 18), .inl (0, 7, σ.2.1 19), .inl (0, 7, σ.2.1 20), .inl (0, 7, σ.2.1 21), .inl (0, 4, σ.2.1 22), .inr (.inr (2, mkT_23 σ)), .inl (0, 402, σ.2.1 24), .inl (0, 32, σ.2.1 25), .inl (0, 8, σ.2.1 26)]
theorem mkT_I14_0 (σ : bS) (v : Int32) : (mkT σ).set 0 (.inr (.inr (9, (mkT_14 σ).set 0 (.int v)))) = mkT (uI σ 14 0 v) := rfl
theorem mkT_I14_1 (σ : bS) (v : Int32) : (mkT σ).set 0 (.inr (.inr (9, (mkT_14 σ).set 1 (.int v)))) = mkT (uI σ 14 1 v) := rfl
theorem mkT_I14_2 (σ : bS) (v : Int32) : (mkT σ).set 0 (.inr (.inr (9, (mkT_14 σ).set 2 (.int v)))) = mkT (uI σ 14 2 v) := rfl
theorem mkT_I14_3 (σ : bS) (v : Int32) : (mkT σ).set 0 (.inr (.inr (9, (mkT_14 σ).set 3 (.int v)))) = mkT (uI σ 14 3 v) := rfl
theorem mkT_I14_12 (σ : bS) (v : Int32) : (mkT σ).set 0 (.inr (.inr (9, (mkT_14 σ).set 12 (.int v)))) = mkT (uI σ 14 12 v) := rfl
theorem mkT_I14_13 (σ : bS) (v : Int32) : (mkT σ).set 0 (.inr (.inr (9, (mkT_14 σ).set 13 (.int v)))) = mkT (uI σ 14 13 v) := rfl
theorem mkT_I14_14 (σ : bS) (v : Int32) : (mkT σ).set 0 (.inr (.inr (9, (mkT_14 σ).set 14 (.int v)))) = mkT (uI σ 14 14 v) := rfl
theorem mkT_I14_15 (σ : bS) (v : Int32) : (mkT σ).set 0 (.inr (.inr (9, (mkT_14 σ).set 15 (.int v)))) = mkT (uI σ 14 15 v) := rfl
theorem mkT_I14_16 (σ : bS) (v : Int32) : (mkT σ).set 0 (.inr (.inr (9, (mkT_14 σ).set 16 (.int v)))) = mkT (uI σ 14 16 v) := rfl
theorem mkT_I14_17 (σ : bS) (v : Int32) : (mkT σ).set 0 (.inr (.inr (9, (mkT_14 σ).set 17 (.int v)))) = mkT (uI σ 14 17 v) := rfl
theorem mkT_I14_18 (σ : bS) (v : Int32) : (mkT σ).set 0 (.inr (.inr (9, (mkT_14 σ).set 18 (.int v)))) = mkT (uI σ 14 18 v) := rfl
theorem mkT_A15 (σ : bS) (i v : Int32) : (mkT σ).set 1 (.inl (0, 36, upd (σ.2.1 15) i.toNatClampNeg v)) = mkT (uA σ 15 i v) := rfl
theorem mkT_A16 (σ : bS) (i v : Int32) : (mkT σ).set 2 (.inl (0, 4, upd (σ.2.1 16) i.toNatClampNeg v)) = mkT (uA σ 16 i v) := rfl
theorem mkT_A17 (σ : bS) (i v : Int32) : (mkT σ).set 3 (.inl (0, 4, upd (σ.2.1 17) i.toNatClampNeg v)) = mkT (uA σ 17 i v) := rfl
theorem mkT_A18 (σ : bS) (i v : Int32) : (mkT σ).set 4 (.inl (0, 7, upd (σ.2.1 18) i.toNatClampNeg v)) = mkT (uA σ 18 i v) := rfl
theorem mkT_A19 (σ : bS) (i v : Int32) : (mkT σ).set 5 (.inl (0, 7, upd (σ.2.1 19) i.toNatClampNeg v)) = mkT (uA σ 19 i v) := rfl
theorem mkT_A20 (σ : bS) (i v : Int32) : (mkT σ).set 6 (.inl (0, 7, upd (σ.2.1 20) i.toNatClampNeg v)) = mkT (uA σ 20 i v) := rfl
theorem mkT_A21 (σ : bS) (i v : Int32) : (mkT σ).set 7 (.inl (0, 7, upd (σ.2.1 21) i.toNatClampNeg v)) = mkT (uA σ 21 i v) := rfl
theorem mkT_A22 (σ : bS) (i v : Int32) : (mkT σ).set 8 (.inl (0, 4, upd (σ.2.1 22) i.toNatClampNeg v)) = mkT (uA σ 22 i v) := rfl
theorem mkT_I23_3 (σ : bS) (v : Int32) : (mkT σ).set 9 (.inr (.inr (2, (mkT_23 σ).set 3 (.int v)))) = mkT (uI σ 23 3 v) := rfl
theorem mkT_A24 (σ : bS) (i v : Int32) : (mkT σ).set 10 (.inl (0, 402, upd (σ.2.1 24) i.toNatClampNeg v)) = mkT (uA σ 24 i v) := rfl
theorem mkT_A25 (σ : bS) (i v : Int32) : (mkT σ).set 11 (.inl (0, 32, upd (σ.2.1 25) i.toNatClampNeg v)) = mkT (uA σ 25 i v) := rfl
theorem mkT_A26 (σ : bS) (i v : Int32) : (mkT σ).set 12 (.inl (0, 8, upd (σ.2.1 26) i.toNatClampNeg v)) = mkT (uA σ 26 i v) := rfl
set_option maxRecDepth 100000 in
theorem kT_cj_fill_15_b5 (n d : Nat) (q : bS) : ∀ (k : Nat) (x1 : Int32) (x2 : Int32) (x3 : Int32) (σ : bS), cj_fill_15_b5 n k x1 x2 x3 σ = some q → bfr MT (d + 0) M_J7_fill_53178 5 [some (.ref 1), some (.int x1), some (.int x2), some (.int x3)] [] [] (mkT σ) (none, mkT q) := by
  intro k
  induction k with
  | zero => intro x1 x2 x3 σ h; exact bno h
  | succ k ih =>
    intro x1 x2 x3 σ h
    unfold cj_fill_15_b5 at h
    refine bfr_br 3 (pc1 := 20) (L1 := [some (.ref 1), some (.int x1), some (.int x2), some (.int x3)]) (J1 := []) (st1 := []) (w1 := mkT σ) (pc2 := 10) (L2 := [some (.ref 1), some (.int x1), some (.int x2), some (.int x3)]) (J2 := []) (st2 := []) (w2 := mkT σ) (fun _ _ => rfl) h (fun h => ?_) (fun h => ?_)
    · cases h
      exact bfr_ret 1 (fun _ _ => rfl)
    · refine bfr_in (i := x2) (m := 36) 4 (pc1 := 14) (L1 := [some (.ref 1), some (.int x1), some (.int x2), some (.int x3)]) (J1 := []) (st1 := []) (w1 := ((mkT σ).set 1 (.inl (0, 36, upd (σ.2.1 15) (x2).toNatClampNeg x1)))) (fun _ _ => rfl) h (fun h => ?_)
      rw [mkT_A15]
      refine bfr_run 1 17 [some (.ref 1), some (.int x1), some (.int (x2 + ci_1)), some (.int x3)] [] [] (mkT (uA σ 15 x2 x1)) (fun _ _ => rfl) ?_
      refine bfr_run 1 5 [some (.ref 1), some (.int x1), some (.int (x2 + ci_1)), some (.int x3)] [] [] (mkT (uA σ 15 x2 x1)) (fun _ _ => rfl) ?_
      exact ih _ _ _ _ h
set_option maxRecDepth 100000 in
theorem kT_cj_fill_15 (n d : Nat) (q : bS) (x1 : Int32) (σ : bS) (h : cj_fill_15 n x1 σ = some q) : bfr MT (d + 0) M_J7_fill_53178 0 [some (.ref 1), some (.int x1), none, none] [] [] (mkT σ) (none, mkT q) := by
  unfold cj_fill_15 at h
  refine bfr_run 5 5 [some (.ref 1), some (.int x1), some (.int ci_0), some (.int cn_36)] [] [] (mkT σ) (fun _ _ => rfl) ?_
  exact kT_cj_fill_15_b5 n d q _ _ _ _ _ h
set_option maxRecDepth 100000 in
theorem kT_cj_fill_21_b5 (n d : Nat) (q : bS) : ∀ (k : Nat) (x1 : Int32) (x2 : Int32) (x3 : Int32) (σ : bS), cj_fill_21_b5 n k x1 x2 x3 σ = some q → bfr MT (d + 0) M_J7_fill_53178 5 [some (.ref 7), some (.int x1), some (.int x2), some (.int x3)] [] [] (mkT σ) (none, mkT q) := by
  intro k
  induction k with
  | zero => intro x1 x2 x3 σ h; exact bno h
  | succ k ih =>
    intro x1 x2 x3 σ h
    unfold cj_fill_21_b5 at h
    refine bfr_br 3 (pc1 := 20) (L1 := [some (.ref 7), some (.int x1), some (.int x2), some (.int x3)]) (J1 := []) (st1 := []) (w1 := mkT σ) (pc2 := 10) (L2 := [some (.ref 7), some (.int x1), some (.int x2), some (.int x3)]) (J2 := []) (st2 := []) (w2 := mkT σ) (fun _ _ => rfl) h (fun h => ?_) (fun h => ?_)
    · cases h
      exact bfr_ret 1 (fun _ _ => rfl)
    · refine bfr_in (i := x2) (m := 7) 4 (pc1 := 14) (L1 := [some (.ref 7), some (.int x1), some (.int x2), some (.int x3)]) (J1 := []) (st1 := []) (w1 := ((mkT σ).set 7 (.inl (0, 7, upd (σ.2.1 21) (x2).toNatClampNeg x1)))) (fun _ _ => rfl) h (fun h => ?_)
      rw [mkT_A21]
      refine bfr_run 1 17 [some (.ref 7), some (.int x1), some (.int (x2 + ci_1)), some (.int x3)] [] [] (mkT (uA σ 21 x2 x1)) (fun _ _ => rfl) ?_
      refine bfr_run 1 5 [some (.ref 7), some (.int x1), some (.int (x2 + ci_1)), some (.int x3)] [] [] (mkT (uA σ 21 x2 x1)) (fun _ _ => rfl) ?_
      exact ih _ _ _ _ h
set_option maxRecDepth 100000 in
theorem kT_cj_fill_21 (n d : Nat) (q : bS) (x1 : Int32) (σ : bS) (h : cj_fill_21 n x1 σ = some q) : bfr MT (d + 0) M_J7_fill_53178 0 [some (.ref 7), some (.int x1), none, none] [] [] (mkT σ) (none, mkT q) := by
  unfold cj_fill_21 at h
  refine bfr_run 5 5 [some (.ref 7), some (.int x1), some (.int ci_0), some (.int cn_7)] [] [] (mkT σ) (fun _ _ => rfl) ?_
  exact kT_cj_fill_21_b5 n d q _ _ _ _ _ h
set_option maxRecDepth 100000 in
theorem kT_cj_fill_22_b5 (n d : Nat) (q : bS) : ∀ (k : Nat) (x1 : Int32) (x2 : Int32) (x3 : Int32) (σ : bS), cj_fill_22_b5 n k x1 x2 x3 σ = some q → bfr MT (d + 0) M_J7_fill_53178 5 [some (.ref 8), some (.int x1), some (.int x2), some (.int x3)] [] [] (mkT σ) (none, mkT q) := by
  intro k
  induction k with
  | zero => intro x1 x2 x3 σ h; exact bno h
  | succ k ih =>
    intro x1 x2 x3 σ h
    unfold cj_fill_22_b5 at h
    refine bfr_br 3 (pc1 := 20) (L1 := [some (.ref 8), some (.int x1), some (.int x2), some (.int x3)]) (J1 := []) (st1 := []) (w1 := mkT σ) (pc2 := 10) (L2 := [some (.ref 8), some (.int x1), some (.int x2), some (.int x3)]) (J2 := []) (st2 := []) (w2 := mkT σ) (fun _ _ => rfl) h (fun h => ?_) (fun h => ?_)
    · cases h
      exact bfr_ret 1 (fun _ _ => rfl)
    · refine bfr_in (i := x2) (m := 4) 4 (pc1 := 14) (L1 := [some (.ref 8), some (.int x1), some (.int x2), some (.int x3)]) (J1 := []) (st1 := []) (w1 := ((mkT σ).set 8 (.inl (0, 4, upd (σ.2.1 22) (x2).toNatClampNeg x1)))) (fun _ _ => rfl) h (fun h => ?_)
      rw [mkT_A22]
      refine bfr_run 1 17 [some (.ref 8), some (.int x1), some (.int (x2 + ci_1)), some (.int x3)] [] [] (mkT (uA σ 22 x2 x1)) (fun _ _ => rfl) ?_
      refine bfr_run 1 5 [some (.ref 8), some (.int x1), some (.int (x2 + ci_1)), some (.int x3)] [] [] (mkT (uA σ 22 x2 x1)) (fun _ _ => rfl) ?_
      exact ih _ _ _ _ h
set_option maxRecDepth 100000 in
theorem kT_cj_fill_22 (n d : Nat) (q : bS) (x1 : Int32) (σ : bS) (h : cj_fill_22 n x1 σ = some q) : bfr MT (d + 0) M_J7_fill_53178 0 [some (.ref 8), some (.int x1), none, none] [] [] (mkT σ) (none, mkT q) := by
  unfold cj_fill_22 at h
  refine bfr_run 5 5 [some (.ref 8), some (.int x1), some (.int ci_0), some (.int cn_4)] [] [] (mkT σ) (fun _ _ => rfl) ?_
  exact kT_cj_fill_22_b5 n d q _ _ _ _ _ h
set_option maxRecDepth 100000 in
theorem kT_cTold_clear_s (n d : Nat) (q : bS) (σ : bS) (h : cTold_clear_s n σ = some q) : bfr MT (d + 1) M_X9_clear 0 [some (.ref 0)] [] [] (mkT σ) (none, mkT q) := by
  unfold cTold_clear_s at h
  refine bfr_run 3 5 [some (.ref 0)] [] [] ((mkT σ).set 0 (.inr (.inr (9, (mkT_14 σ).set 0 (.int ci_0))))) (fun _ _ => rfl) ?_
  rw [mkT_I14_0]
  refine bfr_run 3 10 [some (.ref 0)] [] [] ((mkT (uI σ 14 0 ci_0)).set 0 (.inr (.inr (9, (mkT_14 (uI σ 14 0 ci_0)).set 1 (.int ci_0))))) (fun _ _ => rfl) ?_
  rw [mkT_I14_1]
  refine bfr_run 3 15 [some (.ref 0)] [] [] ((mkT (uI (uI σ 14 0 ci_0) 14 1 ci_0)).set 0 (.inr (.inr (9, (mkT_14 (uI (uI σ 14 0 ci_0) 14 1 ci_0)).set 2 (.int ci_0))))) (fun _ _ => rfl) ?_
  rw [mkT_I14_2]
  refine bfr_run 3 20 [some (.ref 0)] [] [] ((mkT (uI (uI (uI σ 14 0 ci_0) 14 1 ci_0) 14 2 ci_0)).set 0 (.inr (.inr (9, (mkT_14 (uI (uI (uI σ 14 0 ci_0) 14 1 ci_0) 14 2 ci_0)).set 3 (.int ci_0))))) (fun _ _ => rfl) ?_
  rw [mkT_I14_3]
  refine bfr_call 4 (d1 := d + 0) (M1 := M_J7_fill_53178) (vs := [(.ref 1), (.int ci_0)]) (w1 := mkT (uI (uI (uI (uI σ 14 0 ci_0) 14 1 ci_0) 14 2 ci_0) 14 3 ci_0)) (pc2 := 28) (L2 := [some (.ref 0)]) (J2 := []) (rest := []) (fun _ => none) (fun a => mkT a) (fun _ _ => rfl) h (fun a ha => kT_cj_fill_15 n (d + 0) _ _ _ ha) (fun q1 _ h => ?_)
  refine bfr_call 4 (d1 := d + 0) (M1 := M_J7_fill_53178) (vs := [(.ref 7), (.int ci_m1)]) (w1 := mkT q1) (pc2 := 36) (L2 := [some (.ref 0)]) (J2 := []) (rest := []) (fun _ => none) (fun a => mkT a) (fun _ _ => rfl) h (fun a ha => kT_cj_fill_21 n (d + 0) _ _ _ ha) (fun q2 _ h => ?_)
  refine bfr_call 4 (d1 := d + 0) (M1 := M_J7_fill_53178) (vs := [(.ref 8), (.int ci_m1)]) (w1 := mkT q2) (pc2 := 44) (L2 := [some (.ref 0)]) (J2 := []) (rest := []) (fun _ => none) (fun a => mkT a) (fun _ _ => rfl) h (fun a ha => kT_cj_fill_22 n (d + 0) _ _ _ ha) (fun q3 _ h => ?_)
  refine bfr_run 3 49 [some (.ref 0)] [] [] ((mkT q3).set 0 (.inr (.inr (9, (mkT_14 q3).set 12 (.int ci_m1))))) (fun _ _ => rfl) ?_
  rw [mkT_I14_12]
  refine bfr_run 3 54 [some (.ref 0)] [] [] ((mkT (uI q3 14 12 ci_m1)).set 0 (.inr (.inr (9, (mkT_14 (uI q3 14 12 ci_m1)).set 13 (.int ci_m1))))) (fun _ _ => rfl) ?_
  rw [mkT_I14_13]
  refine bfr_run 3 59 [some (.ref 0)] [] [] ((mkT (uI (uI q3 14 12 ci_m1) 14 13 ci_m1)).set 0 (.inr (.inr (9, (mkT_14 (uI (uI q3 14 12 ci_m1) 14 13 ci_m1)).set 14 (.int ci_m1))))) (fun _ _ => rfl) ?_
  rw [mkT_I14_14]
  refine bfr_run 3 64 [some (.ref 0)] [] [] ((mkT (uI (uI (uI q3 14 12 ci_m1) 14 13 ci_m1) 14 14 ci_m1)).set 0 (.inr (.inr (9, (mkT_14 (uI (uI (uI q3 14 12 ci_m1) 14 13 ci_m1) 14 14 ci_m1)).set 15 (.int ci_m1))))) (fun _ _ => rfl) ?_
  rw [mkT_I14_15]
  refine bfr_run 3 69 [some (.ref 0)] [] [] ((mkT (uI (uI (uI (uI q3 14 12 ci_m1) 14 13 ci_m1) 14 14 ci_m1) 14 15 ci_m1)).set 0 (.inr (.inr (9, (mkT_14 (uI (uI (uI (uI q3 14 12 ci_m1) 14 13 ci_m1) 14 14 ci_m1) 14 15 ci_m1)).set 16 (.int ci_0))))) (fun _ _ => rfl) ?_
  rw [mkT_I14_16]
  refine bfr_run 3 74 [some (.ref 0)] [] [] ((mkT (uI (uI (uI (uI (uI q3 14 12 ci_m1) 14 13 ci_m1) 14 14 ci_m1) 14 15 ci_m1) 14 16 ci_0)).set 0 (.inr (.inr (9, (mkT_14 (uI (uI (uI (uI (uI q3 14 12 ci_m1) 14 13 ci_m1) 14 14 ci_m1) 14 15 ci_m1) 14 16 ci_0)).set 17 (.int ci_5))))) (fun _ _ => rfl) ?_
  rw [mkT_I14_17]
  refine bfr_run 3 79 [some (.ref 0)] [] [] ((mkT (uI (uI (uI (uI (uI (uI q3 14 12 ci_m1) 14 13 ci_m1) 14 14 ci_m1) 14 15 ci_m1) 14 16 ci_0) 14 17 ci_5)).set 0 (.inr (.inr (9, (mkT_14 (uI (uI (uI (uI (uI (uI q3 14 12 ci_m1) 14 13 ci_m1) 14 14 ci_m1) 14 15 ci_m1) 14 16 ci_0) 14 17 ci_5)).set 18 (.int ci_0))))) (fun _ _ => rfl) ?_
  rw [mkT_I14_18]
  refine bfr_run 4 87 [some (.ref 0)] [] [] ((mkT (uI (uI (uI (uI (uI (uI (uI q3 14 12 ci_m1) 14 13 ci_m1) 14 14 ci_m1) 14 15 ci_m1) 14 16 ci_0) 14 17 ci_5) 14 18 ci_0)).set 9 (.inr (.inr (2, (mkT_23 (uI (uI (uI (uI (uI (uI (uI q3 14 12 ci_m1) 14 13 ci_m1) 14 14 ci_m1) 14 15 ci_m1) 14 16 ci_0) 14 17 ci_5) 14 18 ci_0)).set 3 (.int ci_0))))) (fun _ _ => rfl) ?_
  rw [mkT_I23_3]
  cases h
  exact bfr_ret 1 (fun _ _ => rfl)
def mkS_77 (σ : bS) : List Value := [.ref 1, .ref 2, .ref 3, .ref 4, .int (σ.1 77 4)]
def mkS (σ : bS) : bW := [.inr (.inr (6, mkS_77 σ)), .inl (0, 12, σ.2.1 78), .inl (0, 12, σ.2.1 79), .inl (0, 7, σ.2.1 80), .inl (0, 7, σ.2.1 81)]
theorem mkS_I77_4 (σ : bS) (v : Int32) : (mkS σ).set 0 (.inr (.inr (6, (mkS_77 σ).set 4 (.int v)))) = mkS (uI σ 77 4 v) := rfl
theorem mkS_A78 (σ : bS) (i v : Int32) : (mkS σ).set 1 (.inl (0, 12, upd (σ.2.1 78) i.toNatClampNeg v)) = mkS (uA σ 78 i v) := rfl
theorem mkS_A79 (σ : bS) (i v : Int32) : (mkS σ).set 2 (.inl (0, 12, upd (σ.2.1 79) i.toNatClampNeg v)) = mkS (uA σ 79 i v) := rfl
theorem mkS_A80 (σ : bS) (i v : Int32) : (mkS σ).set 3 (.inl (0, 7, upd (σ.2.1 80) i.toNatClampNeg v)) = mkS (uA σ 80 i v) := rfl
theorem mkS_A81 (σ : bS) (i v : Int32) : (mkS σ).set 4 (.inl (0, 7, upd (σ.2.1 81) i.toNatClampNeg v)) = mkS (uA σ 81 i v) := rfl
set_option maxRecDepth 100000 in
theorem kS_cj_fill_81_b5 (n d : Nat) (q : bS) : ∀ (k : Nat) (x1 : Int32) (x2 : Int32) (x3 : Int32) (σ : bS), cj_fill_81_b5 n k x1 x2 x3 σ = some q → bfr MT (d + 0) M_J7_fill_53178 5 [some (.ref 4), some (.int x1), some (.int x2), some (.int x3)] [] [] (mkS σ) (none, mkS q) := by
  intro k
  induction k with
  | zero => intro x1 x2 x3 σ h; exact bno h
  | succ k ih =>
    intro x1 x2 x3 σ h
    unfold cj_fill_81_b5 at h
    refine bfr_br 3 (pc1 := 20) (L1 := [some (.ref 4), some (.int x1), some (.int x2), some (.int x3)]) (J1 := []) (st1 := []) (w1 := mkS σ) (pc2 := 10) (L2 := [some (.ref 4), some (.int x1), some (.int x2), some (.int x3)]) (J2 := []) (st2 := []) (w2 := mkS σ) (fun _ _ => rfl) h (fun h => ?_) (fun h => ?_)
    · cases h
      exact bfr_ret 1 (fun _ _ => rfl)
    · refine bfr_in (i := x2) (m := 7) 4 (pc1 := 14) (L1 := [some (.ref 4), some (.int x1), some (.int x2), some (.int x3)]) (J1 := []) (st1 := []) (w1 := ((mkS σ).set 4 (.inl (0, 7, upd (σ.2.1 81) (x2).toNatClampNeg x1)))) (fun _ _ => rfl) h (fun h => ?_)
      rw [mkS_A81]
      refine bfr_run 1 17 [some (.ref 4), some (.int x1), some (.int (x2 + ci_1)), some (.int x3)] [] [] (mkS (uA σ 81 x2 x1)) (fun _ _ => rfl) ?_
      refine bfr_run 1 5 [some (.ref 4), some (.int x1), some (.int (x2 + ci_1)), some (.int x3)] [] [] (mkS (uA σ 81 x2 x1)) (fun _ _ => rfl) ?_
      exact ih _ _ _ _ h
set_option maxRecDepth 100000 in
theorem kS_cj_fill_81 (n d : Nat) (q : bS) (x1 : Int32) (σ : bS) (h : cj_fill_81 n x1 σ = some q) : bfr MT (d + 0) M_J7_fill_53178 0 [some (.ref 4), some (.int x1), none, none] [] [] (mkS σ) (none, mkS q) := by
  unfold cj_fill_81 at h
  refine bfr_run 5 5 [some (.ref 4), some (.int x1), some (.int ci_0), some (.int cn_7)] [] [] (mkS σ) (fun _ _ => rfl) ?_
  exact kS_cj_fill_81_b5 n d q _ _ _ _ _ h
set_option maxRecDepth 100000 in
theorem kS_cSeen_clear (n d : Nat) (q : bS) (σ : bS) (h : cSeen_clear n σ = some q) : bfr MT (d + 1) M_X6_clear 0 [some (.ref 0)] [] [] (mkS σ) (none, mkS q) := by
  unfold cSeen_clear at h
  refine bfr_run 3 5 [some (.ref 0)] [] [] ((mkS σ).set 0 (.inr (.inr (6, (mkS_77 σ).set 4 (.int ci_0))))) (fun _ _ => rfl) ?_
  rw [mkS_I77_4]
  refine bfr_call 4 (d1 := d + 0) (M1 := M_J7_fill_53178) (vs := [(.ref 4), (.int ci_m1)]) (w1 := mkS (uI σ 77 4 ci_0)) (pc2 := 13) (L2 := [some (.ref 0)]) (J2 := []) (rest := []) (fun _ => none) (fun a => mkS a) (fun _ _ => rfl) h (fun a ha => kS_cj_fill_81 n (d + 0) _ _ _ ha) (fun q1 _ h => ?_)
  cases h
  exact bfr_ret 1 (fun _ _ => rfl)
def lenK : List Nat := [129]
def bytK : List (List Int32) := [[98, 97, 110, 107, 32, 112, 97, 116, 104, 32, 98, 114, 105, 100, 103, 101, 32, 109, 97, 110, 32, 119, 105, 115, 104, 101, 115, 32, 116, 111, 108, 108, 32, 103, 111, 101, 115, 32, 103, 97, 105, 110, 32, 102, 97, 110, 99, 121, 32, 100, 97, 119, 110, 32, 112, 105, 108, 103, 114, 105, 109, 115, 32, 104, 105, 114, 101, 32, 115, 101, 101, 100, 32, 105, 102, 32, 116, 104, 101, 110, 32, 101, 108, 115, 101, 32, 104, 111, 117, 114, 32, 108, 97, 115, 116, 32, 116, 105, 109, 101, 115, 32, 112, 117, 114, 115, 101, 32, 104, 111, 109, 101, 32, 119, 104, 111, 32, 104, 101, 114, 101, 32, 119, 97, 105, 116, 101, 100, 32]]
def nestK (U : State) : Prop := va_Nw (.methodLinkNest RX9 38 yX2_init "WishBridges") U ∧ va_Nw (.methodLinkNest RX11 29 yX4_init "WishBridges") U ∧ va_Nw (.methodLinkNest RX11 48 yX7_init "WishBridges") U ∧ va_Nw (.methodLinkNest RX11 55 yX10_init "WishBridges") U
def xK (adK adV : Nat → Nat) (A : Nat → Prop) (U : State) (H : Heap) : Prop := nestK U ∧ vk_S 1 lenK bytK adK adV A U H ∧ vk_R RX8 23 "bank path bridge man wishes toll goes gain fancy dawn pilgrims hire seed if then else hour last times purse home who here waited " (adK 0) U ∧ va_Z "java/lang/String" "COMPACT_STRINGS" "Z" (.int 1) A U H ∧ va_Zq "jdk/internal/util/Preconditions" "SIOOBE_FORMATTER" "Ljava/util/function/BiFunction;" A U H
theorem xK.kept {adK adV : Nat → Nat} {A : Nat → Prop} {U : State} {H0 H : Heap} {locs : List Loc} (h : xK adK adV A U H0) (hS : va_S A H0 H locs) : xK adK adV A U H := ⟨h.1, h.2.1.kept hS.2.1, h.2.2.1, h.2.2.2.1.kept hS.2.1, h.2.2.2.2.kept hS.2.1⟩
theorem xK.narrow {adK adV : Nat → Nat} {A B : Nat → Prop} {U : State} {H : Heap} (h : xK adK adV A U H) (hAB : ∀ q, B q → A q) : xK adK adV B U H := ⟨h.1, h.2.1.narrow hAB, h.2.2.1, h.2.2.2.1.narrow hAB, h.2.2.2.2.narrow hAB⟩
theorem xK.calling {adK adV : Nat → Nat} {A : Nat → Prop} {U : State} {g : JFrame} {mk : MethodId} {a : Array Value} (h : xK adK adV A U U.heap) : xK adK adV A (U.calling g mk a) (U.calling g mk a).heap := ⟨⟨va_Nw.same rfl (u := U) rfl (h.1.1), va_Nw.same rfl (u := U) rfl (h.1.2.1), va_Nw.same rfl (u := U) rfl (h.1.2.2.1), va_Nw.same rfl (u := U) rfl (h.1.2.2.2)⟩, vk_S.moved (u := U) (Vm.Alike.refl U.vm) h.2.1, vk_R.same (u := U) rfl h.2.2.1, va_Z.moved (u := U) (Vm.Alike.refl U.vm) h.2.2.2.1, va_Zq.moved (u := U) (Vm.Alike.refl U.vm) h.2.2.2.2⟩
theorem xK.warm {adK adV : Nat → Nat} {A : Nat → Prop} {s U : State} {H : Heap} (h : xK adK adV A s H) (hU : U.heap = H) (hW : s.WarmedH U.vm) : xK adK adV A U U.heap := by
  rw [hU]
  exact ⟨⟨va_Nw.warmM hW (h.1.1), va_Nw.warmM hW (h.1.2.1), va_Nw.warmM hW (h.1.2.2.1), va_Nw.warmM hW (h.1.2.2.2)⟩, vk_S.moved hW.alike h.2.1, vk_R.warm hW h.2.2.1, va_Z.moved hW.alike h.2.2.2.1, va_Zq.moved hW.alike h.2.2.2.2⟩
def σz : bS := (fun _ _ => 0, fun _ _ => 0, fun _ _ => 0)
