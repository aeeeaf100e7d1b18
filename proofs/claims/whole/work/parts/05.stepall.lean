section BZ
variable {p : Program} {l : Launch} {e : Env} {s : State} {m : MethodId} {args : Array Value} {below : List Frame} {meth : Method} {c : Code} {D : va_G} {cl : List vw_C} {cA : Nat → ClassId} {ad : Nat → Nat} {A : Nat → Prop} {M : bM} {TW : List Cond} {MT : List bM}
set_option maxHeartbeats 4000000 in
theorem bstep_ok {K : bK} {call : bCall} {d pc len : Nat} {i : Instr} {L : bL} {J : bJ} {st : List Value} {w : bW} {r : bR}
    (hok : bok TW cl MT) (hok0 : ∀ M0 : bM, bM_st M0 = false → ¬ MT[0]? = some M0) (hpl : ∀ q ∈ bM_pool M, bpok TW cl MT (bM_y M).cls q.1 q.2) (hx : p.tables.exec = Jvm.exec) (hb : c.code = bM_code M) (hml : c.maxLocals = bM_maxL M) (hr : meth.sig.returnType = bM_ret M) (hlocks : meth.locks = false) (hts : ∀ w ∈ bwsM TW M, w.before args s = true) (hown : s.vm.findClass (bM_y M).cls = some m.cls) (hK : va_K D cl (btys cA) s) (hA : ∀ q, s.heap.size ≤ q → A q)
    (hcall : ∀ (d1 : Nat) (M1 : bM) (vs : List Value) (w : bW) (v : Option Value) (w1 : bW), d = d1 + 1 → M1 ∈ MT → (bcat vs ≤ bM_maxL M1 ∧ call d1 M1 vs w = some (v, w1)) → ∀ sz : Nat, Met l (bM_y M1) (bwsM TW M1) (brm d1) (bPc D cl cA ad sz vs w) (bQ D cl cA ad (va_A (bws ad cA w) sz) (v, w1)) 0 0 (va_A (bws ad cA w) sz))
    (hKn : ∀ pc L J st w, K pc L J st w = some r → bWj p l e (brm d) s m args below meth c (MQ below (bQ D cl cA ad A r) args s 0 0 A) D cl cA ad (bM_maxL M) A pc L J st w)
    (hd : decode (bM_code M) pc = .ok (i, len)) (h : bstep MT call M K d pc i len L J st w = some r) : bWj p l e (brm d) s m args below meth c (MQ below (bQ D cl cA ad A r) args s 0 0 A) D cl cA ad (bM_maxL M) A pc L J st w := by
  intro H locs ls hL hP hD hS
  cases i with
  | aload_n k =>
    replace h := bif_some h
    obtain ⟨e1, h⟩ := h
    cases bl1 e1
    replace h := bLA_some h
    obtain ⟨x, h1, h⟩ := h
    exact lv_aload_n hx hb hd rfl (hL.2.2.1 _ _ h1).2 (hKn _ _ _ _ _ h H locs ls hL hP hD hS)
  | aload k =>
    replace h := bif_some h
    obtain ⟨e1, h⟩ := h
    cases bl1 e1
    replace h := bLA_some h
    obtain ⟨x, h1, h⟩ := h
    exact lv_aload hx hb hd (hL.2.2.1 _ _ h1).2 (hKn _ _ _ _ _ h H locs ls hL hP hD hS)
  | iload_n k =>
    replace h := bif_some h
    obtain ⟨e1, h⟩ := h
    cases bl1 e1
    replace h := bLI_some h
    obtain ⟨x, h1, h⟩ := h
    exact lv_iload_n hx hb hd rfl (hL.2.2.1 _ _ h1).2 (hKn _ _ _ _ _ h H locs ls hL hP hD hS)
  | iload k =>
    replace h := bif_some h
    obtain ⟨e1, h⟩ := h
    cases bl1 e1
    replace h := bLI_some h
    obtain ⟨x, h1, h⟩ := h
    exact lv_iload hx hb hd (hL.2.2.1 _ _ h1).2 (hKn _ _ _ _ _ h H locs ls hL hP hD hS)
  | lload_n k =>
    replace h := bif_some h
    obtain ⟨e1, h⟩ := h
    cases bl1 e1
    replace h := bLJ_some h
    obtain ⟨x, h1, h⟩ := h
    exact lv_lload_n hx hb hd rfl (hL.2.2.2 _ (bfind_mem h1)) (hKn _ _ _ _ _ h H locs ls hL hP hD hS)
  | lload k =>
    replace h := bif_some h
    obtain ⟨e1, h⟩ := h
    cases bl1 e1
    replace h := bLJ_some h
    obtain ⟨x, h1, h⟩ := h
    exact lv_lload hx hb hd (hL.2.2.2 _ (bfind_mem h1)) (hKn _ _ _ _ _ h H locs ls hL hP hD hS)
  | istore_n k =>
    replace h := bif_some h
    obtain ⟨e1, h⟩ := h
    obtain ⟨e1, e2⟩ := band e1
    cases bl1 e1
    replace h := bI1_some h
    obtain ⟨x, q, rfl, h⟩ := h
    exact lv_istore_n hx hb hd rfl (bhas_lv hL) (bblt e2) rfl (fun ls1 h1 => hKn _ _ _ _ _ h H locs ls1 (bhas_st1 hL rfl h1) hP hD hS)
  | istore k =>
    replace h := bif_some h
    obtain ⟨e1, h⟩ := h
    obtain ⟨e1, e2⟩ := band e1
    cases bl1 e1
    replace h := bI1_some h
    obtain ⟨x, q, rfl, h⟩ := h
    exact lv_istore hx hb hd (bhas_lv hL) (bblt e2) rfl (fun ls1 h1 => hKn _ _ _ _ _ h H locs ls1 (bhas_st1 hL rfl h1) hP hD hS)
  | astore_n k =>
    replace h := bif_some h
    obtain ⟨e1, h⟩ := h
    obtain ⟨e1, e2⟩ := band e1
    cases bl1 e1
    replace h := bA1_some h
    obtain ⟨x, q, rfl, h⟩ := h
    exact lv_astore_n hx hb hd rfl (bhas_lv hL) (bblt e2) rfl (fun ls1 h1 => hKn _ _ _ _ _ h H locs ls1 (bhas_st1 hL rfl h1) hP hD hS)
  | astore k =>
    replace h := bif_some h
    obtain ⟨e1, h⟩ := h
    obtain ⟨e1, e2⟩ := band e1
    cases bl1 e1
    replace h := bA1_some h
    obtain ⟨x, q, rfl, h⟩ := h
    exact lv_astore hx hb hd (bhas_lv hL) (bblt e2) rfl (fun ls1 h1 => hKn _ _ _ _ _ h H locs ls1 (bhas_st1 hL rfl h1) hP hD hS)
  | lstore_n k =>
    replace h := bif_some h
    obtain ⟨e1, h⟩ := h
    obtain ⟨e1, e2⟩ := band e1
    cases bl1 e1
    replace h := bJ1_some h
    obtain ⟨x, q, rfl, h⟩ := h
    exact lv_lstore_n hx hb hd rfl (bhas_lv hL) (bblt e2) rfl (fun ls1 h1 => hKn _ _ _ _ _ h H locs ls1 (bhas_st2 hL h1) hP hD hS)
  | lstore k =>
    replace h := bif_some h
    obtain ⟨e1, h⟩ := h
    obtain ⟨e1, e2⟩ := band e1
    cases bl1 e1
    replace h := bJ1_some h
    obtain ⟨x, q, rfl, h⟩ := h
    exact lv_lstore hx hb hd (bhas_lv hL) (bblt e2) rfl (fun ls1 h1 => hKn _ _ _ _ _ h H locs ls1 (bhas_st2 hL h1) hP hD hS)
  | iinc k n =>
    replace h := bif_some h
    obtain ⟨e1, h⟩ := h
    obtain ⟨e1, e2⟩ := band e1
    cases bl1 e1
    replace h := bLI_some h
    obtain ⟨x, h1, h⟩ := h
    obtain ⟨j, hj⟩ := List.getElem?_of_mem (blst_L (ad := ad) (J := J) h1)
    exact lv_iinc hx hb hd (bhas_lv hL) (k := j) hj rfl (bblt e2) rfl (fun ls1 h1 => hKn _ _ _ _ _ h H locs ls1 (bhas_st1 hL rfl h1) hP hD hS)
  | iconst n =>
    replace h := bif_some h
    obtain ⟨e1, h⟩ := h
    cases bl1 e1
    exact lv_iconst hx hb hd rfl (hKn _ _ _ _ _ h H locs ls hL hP hD hS)
  | bipush n =>
    replace h := bif_some h
    obtain ⟨e1, h⟩ := h
    cases bl1 e1
    exact lv_bipush hx hb hd rfl (hKn _ _ _ _ _ h H locs ls hL hP hD hS)
  | sipush n =>
    replace h := bif_some h
    obtain ⟨e1, h⟩ := h
    cases bl1 e1
    exact lv_sipush hx hb hd rfl (hKn _ _ _ _ _ h H locs ls hL hP hD hS)
  | lconst n =>
    replace h := bif_some h
    obtain ⟨e1, h⟩ := h
    cases bl1 e1
    exact lv_lconst hx hb hd rfl (hKn _ _ _ _ _ h H locs ls hL hP hD hS)
  | ldc x =>
    replace h := bif_some h
    obtain ⟨e1, h⟩ := h
    cases bl1 e1
    split at h
    · rename_i v hv
      exact lv_ldc hx hb hown (hts _ (List.mem_cons_of_mem _ (hpl _ (bfind_mem hv)))) hd (hKn _ _ _ _ _ h H locs ls hL hP hD hS)
    · cases h
  | ldc_w x =>
    replace h := bif_some h
    obtain ⟨e1, h⟩ := h
    cases bl1 e1
    split at h
    · rename_i v hv
      exact lv_ldcw hx hb hown (hts _ (List.mem_cons_of_mem _ (hpl _ (bfind_mem hv)))) hd (hKn _ _ _ _ _ h H locs ls hL hP hD hS)
    · cases h
  | ldc2_w x =>
    replace h := bif_some h
    obtain ⟨e1, h⟩ := h
    cases bl1 e1
    split at h
    · rename_i v hv
      exact lv_ldc2 hx hb hown (hts _ (List.mem_cons_of_mem _ (hpl _ (bfind_mem hv)))) hd (hKn _ _ _ _ _ h H locs ls hL hP hD hS)
    · cases h
  | getfield x =>
    replace h := bif_some h
    obtain ⟨e1, h⟩ := h
    cases bl1 e1
    split at h
    · rename_i ci k kd hv
      replace h := bA1_some h
      obtain ⟨b, q, rfl, h⟩ := h
      replace h := bAO_some h
      obtain ⟨ci2, fs, hw, h⟩ := h
      replace h := bif_some h
      obtain ⟨e2, h⟩ := h
      cases bl1 e2
      split at h
      · rename_i v hv2
        obtain ⟨C, T, N, h1, h2, h3, -⟩ := hpl _ (bfind_mem hv)
        have hc1 := hok.2.1 (C, T, N) (List.mem_of_getElem? h1)
        exact va_get (D := D) (v := bg ad v) hx hb hts (fun z hz => List.mem_cons_of_mem _ (hc1.1 z hz)) hown hK hP b (bgetO_ok hw) h1 k h2 (hts _ (List.mem_cons_of_mem _ h3)) (fun _ z => z) (by rw [List.getElem?_map, hv2]; rfl) hd (hKn _ _ _ _ _ h H locs ls hL hP hD hS)
      · cases h
    · cases h
  | putfield x =>
    replace h := bif_some h
    obtain ⟨e1, h⟩ := h
    cases bl1 e1
    split at h
    · rename_i ci k kd hv
      replace h := bV1_some h
      obtain ⟨v, q1, rfl, h⟩ := h
      replace h := bA1_some h
      obtain ⟨b, q, rfl, h⟩ := h
      replace h := bAO_some h
      obtain ⟨ci2, fs, hw, h⟩ := h
      replace h := bif_some h
      obtain ⟨e2, h⟩ := h
      obtain ⟨e2, e4⟩ := band e2
      obtain ⟨e2, e3⟩ := band e2
      cases bl1 e2
      obtain ⟨C, T, N, h1, h2, h3, h4, h5, h6, h7⟩ := hpl _ (bfind_mem hv)
      obtain ⟨hc1, ⟨ty0, hc2⟩, hc3⟩ := hok.2.1 (C, T, N) (List.mem_of_getElem? h1)
      obtain ⟨ty, g1, g2, g3, g4⟩ := bkd_ok (ad := ad) e3 h5 h6 h7
      refine va_put (D := D) (v := bg ad v) hx hb hts (fun z hz => List.mem_cons_of_mem _ (hc1 z hz)) ty0 hc2 hc3 hown hK hP hD hS b (bgetO_ok hw) h1 k h2 (hts _ (List.mem_cons_of_mem _ h3)) (fun _ z => z) (h4 g4) g1 g2 g3 (by rw [List.length_map]; exact bblt e4) hd (fun H1 locs1 hP1 hD1 hS1 => ?_)
      rw [bsetO] at hP1 hD1
      exact hKn _ _ _ _ _ h H1 locs1 ls hL hP1 hD1 hS1
    · cases h
  | iaload =>
    replace h := bif_some h
    obtain ⟨e1, h⟩ := h
    cases bl1 e1
    replace h := bI1_some h
    obtain ⟨i, q1, rfl, h⟩ := h
    replace h := bA1_some h
    obtain ⟨b, q, rfl, h⟩ := h
    replace h := bAI_some h
    obtain ⟨t, n, f, hw, h⟩ := h
    replace h := bif_some h
    obtain ⟨e2, h⟩ := h
    cases bl1 e2
    replace h := bin_some h
    obtain ⟨hin, h⟩ := h
    exact va_iald hx hb hK hP b 0 (bget_ok hw) rfl hin hd (hKn _ _ _ _ _ h H locs ls hL hP hD hS)
  | baload =>
    replace h := bif_some h
    obtain ⟨e1, h⟩ := h
    cases bl1 e1
    replace h := bI1_some h
    obtain ⟨i, q1, rfl, h⟩ := h
    replace h := bA1_some h
    obtain ⟨b, q, rfl, h⟩ := h
    replace h := bAI_some h
    obtain ⟨t, n, f, hw, h⟩ := h
    replace h := bif_some h
    obtain ⟨e2, h⟩ := h
    replace h := bin_some h
    obtain ⟨hin, h⟩ := h
    rcases Bool.or_eq_true_iff.mp e2 with e2 | e2
    · cases bl1 e2
      exact va_bald hx hb hK hP b 1 (bget_ok hw) rfl hin hd (hKn _ _ _ _ _ h H locs ls hL hP hD hS)
    · cases bl1 e2
      exact va_zald hx hb hK hP b 2 (bget_ok hw) rfl hin hd (hKn _ _ _ _ _ h H locs ls hL hP hD hS)
  | laload =>
    replace h := bif_some h
    obtain ⟨e1, h⟩ := h
    cases bl1 e1
    replace h := bI1_some h
    obtain ⟨i, q1, rfl, h⟩ := h
    replace h := bA1_some h
    obtain ⟨b, q, rfl, h⟩ := h
    replace h := bAJ_some h
    obtain ⟨n, f, hw, h⟩ := h
    replace h := bin_some h
    obtain ⟨hin, h⟩ := h
    exact va_lald hx hb hK hP b 3 (bgetJ_ok hw) rfl hin hd (hKn _ _ _ _ _ h H locs ls hL hP hD hS)
  | iastore =>
    replace h := bif_some h
    obtain ⟨e1, h⟩ := h
    cases bl1 e1
    replace h := bI2_some h
    obtain ⟨i, x, q1, rfl, h⟩ := h
    replace h := bA1_some h
    obtain ⟨b, q, rfl, h⟩ := h
    replace h := bAI_some h
    obtain ⟨t, n, f, hw, h⟩ := h
    replace h := bif_some h
    obtain ⟨e2, h⟩ := h
    cases bl1 e2
    replace h := bin_some h
    obtain ⟨hin, h⟩ := h
    refine va_iast hx hb hK hP hD hS b 0 (bget_ok hw) rfl hin hd (fun H1 locs1 hP1 hD1 hS1 => ?_)
    exact hKn _ _ _ _ _ h H1 locs1 ls hL (by rw [← bws_set]; exact hP1) (by rw [← bws_set]; exact hD1) hS1
  | bastore =>
    replace h := bif_some h
    obtain ⟨e1, h⟩ := h
    cases bl1 e1
    replace h := bI2_some h
    obtain ⟨i, x, q1, rfl, h⟩ := h
    replace h := bA1_some h
    obtain ⟨b, q, rfl, h⟩ := h
    replace h := bAI_some h
    obtain ⟨t, n, f, hw, h⟩ := h
    split at h
    · replace h := bin_some h
      obtain ⟨hin, h⟩ := h
      refine va_bast hx hb hK hP hD hS b 1 (bget_ok hw) rfl hin hd (fun H1 locs1 hP1 hD1 hS1 => ?_)
      exact hKn _ _ _ _ _ h H1 locs1 ls hL (by rw [← bws_set]; exact hP1) (by rw [← bws_set]; exact hD1) hS1
    · replace h := bin_some h
      obtain ⟨hin, h⟩ := h
      refine va_zast hx hb hK hP hD hS b 2 (bget_ok hw) rfl hin hd (fun H1 locs1 hP1 hD1 hS1 => ?_)
      exact hKn _ _ _ _ _ h H1 locs1 ls hL (by rw [← bws_set]; exact hP1) (by rw [← bws_set]; exact hD1) hS1
    · cases h
  | lastore =>
    replace h := bif_some h
    obtain ⟨e1, h⟩ := h
    cases bl1 e1
    replace h := bJ1_some h
    obtain ⟨x, q2, rfl, h⟩ := h
    replace h := bI1_some h
    obtain ⟨i, q1, rfl, h⟩ := h
    replace h := bA1_some h
    obtain ⟨b, q, rfl, h⟩ := h
    replace h := bAJ_some h
    obtain ⟨n, f, hw, h⟩ := h
    replace h := bin_some h
    obtain ⟨hin, h⟩ := h
    refine va_last hx hb hK hP hD hS b 3 (bgetJ_ok hw) rfl hin hd (fun H1 locs1 hP1 hD1 hS1 => ?_)
    exact hKn _ _ _ _ _ h H1 locs1 ls hL (by rw [← bws_set]; exact hP1) (by rw [← bws_set]; exact hD1) hS1
  | arraylength =>
    replace h := bif_some h
    obtain ⟨e1, h⟩ := h
    cases bl1 e1
    replace h := bA1_some h
    obtain ⟨b, q, rfl, h⟩ := h
    replace h := bLen_some h
    obtain ⟨n, hw, h⟩ := h
    rcases hw with ⟨t, f, ht3, hw⟩ | ⟨f, hw⟩
    · match t, ht3, hw with
      | 0, _, hw => exact va_alen hx hb hK hP b 0 (bget_ok hw) rfl rfl hd (hKn _ _ _ _ _ h H locs ls hL hP hD hS)
      | 1, _, hw => exact va_alen hx hb hK hP b 1 (bget_ok hw) rfl rfl hd (hKn _ _ _ _ _ h H locs ls hL hP hD hS)
      | 2, _, hw => exact va_alen hx hb hK hP b 2 (bget_ok hw) rfl rfl hd (hKn _ _ _ _ _ h H locs ls hL hP hD hS)
    · exact va_alen hx hb hK hP b 3 (bgetJ_ok hw) rfl rfl hd (hKn _ _ _ _ _ h H locs ls hL hP hD hS)
  | iadd =>
    replace h := bif_some h
    obtain ⟨e1, h⟩ := h
    cases bl1 e1
    replace h := bI2_some h
    obtain ⟨x, y, q, rfl, h⟩ := h
    exact lv_iadd hx hb hd (hKn _ _ _ _ _ h H locs ls hL hP hD hS)
  | isub =>
    replace h := bif_some h
    obtain ⟨e1, h⟩ := h
    cases bl1 e1
    replace h := bI2_some h
    obtain ⟨x, y, q, rfl, h⟩ := h
    exact lv_isub hx hb hd (hKn _ _ _ _ _ h H locs ls hL hP hD hS)
  | imul =>
    replace h := bif_some h
    obtain ⟨e1, h⟩ := h
    cases bl1 e1
    replace h := bI2_some h
    obtain ⟨x, y, q, rfl, h⟩ := h
    exact lv_imul hx hb hd (hKn _ _ _ _ _ h H locs ls hL hP hD hS)
  | iand =>
    replace h := bif_some h
    obtain ⟨e1, h⟩ := h
    cases bl1 e1
    replace h := bI2_some h
    obtain ⟨x, y, q, rfl, h⟩ := h
    exact lv_iand hx hb hd (hKn _ _ _ _ _ h H locs ls hL hP hD hS)
  | ior =>
    replace h := bif_some h
    obtain ⟨e1, h⟩ := h
    cases bl1 e1
    replace h := bI2_some h
    obtain ⟨x, y, q, rfl, h⟩ := h
    exact lv_ior hx hb hd (hKn _ _ _ _ _ h H locs ls hL hP hD hS)
  | ixor =>
    replace h := bif_some h
    obtain ⟨e1, h⟩ := h
    cases bl1 e1
    replace h := bI2_some h
    obtain ⟨x, y, q, rfl, h⟩ := h
    exact lv_ixor hx hb hd (hKn _ _ _ _ _ h H locs ls hL hP hD hS)
  | ishl =>
    replace h := bif_some h
    obtain ⟨e1, h⟩ := h
    cases bl1 e1
    replace h := bI2_some h
    obtain ⟨x, y, q, rfl, h⟩ := h
    exact lv_ishl hx hb hd (hKn _ _ _ _ _ h H locs ls hL hP hD hS)
  | ishr =>
    replace h := bif_some h
    obtain ⟨e1, h⟩ := h
    cases bl1 e1
    replace h := bI2_some h
    obtain ⟨x, y, q, rfl, h⟩ := h
    exact lv_ishr hx hb hd (hKn _ _ _ _ _ h H locs ls hL hP hD hS)
  | iushr =>
    replace h := bif_some h
    obtain ⟨e1, h⟩ := h
    cases bl1 e1
    replace h := bI2_some h
    obtain ⟨x, y, q, rfl, h⟩ := h
    exact lv_iushr hx hb hd rfl (hKn _ _ _ _ _ h H locs ls hL hP hD hS)
  | idiv =>
    replace h := bif_some h
    obtain ⟨e1, h⟩ := h
    cases bl1 e1
    replace h := bI2_some h
    obtain ⟨x, y, q, rfl, h⟩ := h
    split at h
    · cases h
    · rename_i hne
      exact lv_idiv hx hb hd hne (hKn _ _ _ _ _ h H locs ls hL hP hD hS)
  | irem =>
    replace h := bif_some h
    obtain ⟨e1, h⟩ := h
    cases bl1 e1
    replace h := bI2_some h
    obtain ⟨x, y, q, rfl, h⟩ := h
    split at h
    · cases h
    · rename_i hne
      exact lv_irem hx hb hd hne (hKn _ _ _ _ _ h H locs ls hL hP hD hS)
  | ladd =>
    replace h := bif_some h
    obtain ⟨e1, h⟩ := h
    cases bl1 e1
    replace h := bJ2_some h
    obtain ⟨x, y, q, rfl, h⟩ := h
    exact lv_ladd hx hb hd (hKn _ _ _ _ _ h H locs ls hL hP hD hS)
  | lsub =>
    replace h := bif_some h
    obtain ⟨e1, h⟩ := h
    cases bl1 e1
    replace h := bJ2_some h
    obtain ⟨x, y, q, rfl, h⟩ := h
    exact lv_lsub hx hb hd (hKn _ _ _ _ _ h H locs ls hL hP hD hS)
  | lmul =>
    replace h := bif_some h
    obtain ⟨e1, h⟩ := h
    cases bl1 e1
    replace h := bJ2_some h
    obtain ⟨x, y, q, rfl, h⟩ := h
    exact lv_lmul hx hb hd (hKn _ _ _ _ _ h H locs ls hL hP hD hS)
  | lcmp =>
    replace h := bif_some h
    obtain ⟨e1, h⟩ := h
    cases bl1 e1
    replace h := bJ2_some h
    obtain ⟨x, y, q, rfl, h⟩ := h
    exact W.lcmp hx hb hd (hKn _ _ _ _ _ h H locs ls hL hP hD hS)
  | i2l =>
    replace h := bif_some h
    obtain ⟨e1, h⟩ := h
    cases bl1 e1
    replace h := bI1_some h
    obtain ⟨x, q, rfl, h⟩ := h
    exact lv_i2l hx hb hd rfl (hKn _ _ _ _ _ h H locs ls hL hP hD hS)
  | i2b =>
    replace h := bif_some h
    obtain ⟨e1, h⟩ := h
    cases bl1 e1
    replace h := bI1_some h
    obtain ⟨x, q, rfl, h⟩ := h
    exact lv_i2b hx hb hd rfl (hKn _ _ _ _ _ h H locs ls hL hP hD hS)
  | i2c =>
    replace h := bif_some h
    obtain ⟨e1, h⟩ := h
    cases bl1 e1
    replace h := bI1_some h
    obtain ⟨x, q, rfl, h⟩ := h
    exact lv_i2c hx hb hd rfl (hKn _ _ _ _ _ h H locs ls hL hP hD hS)
  | l2i =>
    replace h := bif_some h
    obtain ⟨e1, h⟩ := h
    cases bl1 e1
    replace h := bJ1_some h
    obtain ⟨x, q, rfl, h⟩ := h
    exact lv_l2i hx hb hd rfl (hKn _ _ _ _ _ h H locs ls hL hP hD hS)
  | dup =>
    replace h := bif_some h
    obtain ⟨e1, h⟩ := h
    cases bl1 e1
    replace h := bV1_some h
    obtain ⟨v, q, rfl, h⟩ := h
    replace h := bif_some h
    obtain ⟨e2, h⟩ := h
    exact lv_dup hx hb hd (by rw [bg_cat]; exact bl1 e2) (hKn _ _ _ _ _ h H locs ls hL hP hD hS)
  | pop =>
    replace h := bif_some h
    obtain ⟨e1, h⟩ := h
    cases bl1 e1
    replace h := bV1_some h
    obtain ⟨v, q, rfl, h⟩ := h
    replace h := bif_some h
    obtain ⟨e2, h⟩ := h
    exact lv_pop hx hb hd (by rw [bg_cat]; exact bl1 e2) (hKn _ _ _ _ _ h H locs ls hL hP hD hS)
  | dup2 =>
    replace h := bif_some h
    obtain ⟨e1, h⟩ := h
    cases bl1 e1
    replace h := bV1_some h
    obtain ⟨v, q1, rfl, h⟩ := h
    replace h := bV1_some h
    obtain ⟨v2, q, rfl, h⟩ := h
    replace h := bif_some h
    obtain ⟨e2, h⟩ := h
    obtain ⟨e2, e3⟩ := band e2
    exact lv_dup2_11 hx hb hd (by rw [bg_cat]; exact bl1 e2) (by rw [bg_cat]; exact bl1 e3) (hKn _ _ _ _ _ h H locs ls hL hP hD hS)
  | ifCond cn off =>
    replace h := bif_some h
    obtain ⟨e1, h⟩ := h
    cases bl1 e1
    replace h := bI1_some h
    obtain ⟨x, q, rfl, h⟩ := h
    replace h := btgt_some h
    obtain ⟨t, ht, h⟩ := h
    exact bbz_ok hx hb hd ht h (fun h => hKn _ _ _ _ _ h H locs ls hL hP hD hS) (fun h => hKn _ _ _ _ _ h H locs ls hL hP hD hS)
  | if_icmp cn off =>
    replace h := bif_some h
    obtain ⟨e1, h⟩ := h
    cases bl1 e1
    replace h := bI2_some h
    obtain ⟨x, y, q, rfl, h⟩ := h
    replace h := btgt_some h
    obtain ⟨t, ht, h⟩ := h
    exact bbr_ok hx hb hd ht h (fun h => hKn _ _ _ _ _ h H locs ls hL hP hD hS) (fun h => hKn _ _ _ _ _ h H locs ls hL hP hD hS)
  | goto off =>
    replace h := bif_some h
    obtain ⟨e1, h⟩ := h
    cases bl1 e1
    replace h := btgt_some h
    obtain ⟨t, ht, h⟩ := h
    exact lv_goto hx hb hd ht (hKn _ _ _ _ _ h H locs ls hL hP hD hS)
  | tableswitch dflt lo hi offs =>
    replace h := bif_some h
    obtain ⟨e1, h⟩ := h
    have e1 := of_decide_eq_true e1
    replace h := bI1_some h
    obtain ⟨x, q, rfl, h⟩ := h
    by_cases hl0 : x.toInt < lo
    · obtain ⟨t, h1, h2⟩ := btgt_some (bsw_lo _ _ hl0 h)
      exact lv_tableOut hx hb hd (Or.inl hl0) h1 (hKn _ _ _ _ _ h2 H locs ls hL hP hD hS)
    · exact bsw_ok hx hb hd e1 (fun t h => hKn _ _ _ _ _ h H locs ls hL hP hD hS) offs.toList 0 rfl hl0 (fun i hi => absurd hi (Nat.not_lt_zero i)) (by rw [show lo + ((0 : Nat) : Int) = lo from by omega]; exact h)
  | invokevirtual x =>
    replace h := bif_some h
    obtain ⟨e1, h⟩ := h
    cases bl1 e1
    split at h
    · rename_i mi hv
      replace h := bmt_some h
      obtain ⟨M1, hM1, h⟩ := h
      replace h := bA1_some h
      obtain ⟨b, q, hst, h⟩ := h
      replace h := bAO_some h
      obtain ⟨ci, fs, hw, h⟩ := h
      replace h := bif_some h
      obtain ⟨e2, h⟩ := h
      obtain ⟨e2, e5⟩ := band e2
      obtain ⟨e2, e4⟩ := band e2
      obtain ⟨e2, e3⟩ := band e2
      replace h := bd_some h
      obtain ⟨d1, v, w1, hdd, h1, h⟩ := h
      have hmem := List.mem_of_getElem? hM1
      have hlk : Cond.methodLink (bM_y M).cls x (bM_y M1) ∈ TW := by
        have hp := hpl _ (bfind_mem hv)
        cases mi with
        | zero => exact absurd hM1 (hok0 M1 (by simpa using e2))
        | succ mi =>
          obtain ⟨M2, g1, g2⟩ := hp
          cases hM1.symm.trans g1
          exact g2
      refine bcallV (As := (st.take (bM_na M1)).reverse) (rest := q) hok hx hb hml hts hown hK hA hmem (by simpa using e2) hdd hlk (hcall d1 M1 _ w v w1 hdd hmem h1 H.size) hw (bl1 e3) (Nat.le_of_ble_eq_true e4) (by rw [List.length_reverse]; exact bl1 e5) (by rw [List.reverse_reverse, ← hst, List.take_append_drop]) hd hL.1 hP hD hS (fun H1 locs1 hP1 hD1 hS1 => hKn _ _ _ _ _ h H1 locs1 ls hL hP1 hD1 hS1)
    · cases h
  | invokestatic x =>
    replace h := bif_some h
    obtain ⟨e1, h⟩ := h
    cases bl1 e1
    split at h
    · rename_i hv
      obtain ⟨g1, g2, g3, g4⟩ := hpl _ (bfind_mem hv)
      unfold bcopy at h
      split at h
      · rename_i n dp a sp a0 q
        replace h := bAI_some h
        obtain ⟨t0, n0, f, hw0, h⟩ := h
        replace h := bAI_some h
        obtain ⟨t1, n1, g, hw1, h⟩ := h
        replace h := bif_some h
        obtain ⟨e2, h⟩ := h
        obtain ⟨e2, e5⟩ := band e2
        obtain ⟨e2, e4⟩ := band e2
        obtain ⟨e2, e3⟩ := band e2
        cases bl1 e2
        cases bl1 e3
        have e4 := Nat.le_of_ble_eq_true e4
        have e5 := Nat.le_of_ble_eq_true e5
        split at h
        · cases h
        · rename_i hno
          refine va_copyi hx hb (hml.trans hL.1.symm) hown (hts _ (List.mem_cons_of_mem _ g1)) (hts _ (List.mem_cons_of_mem _ g2)) (hts _ (List.mem_cons_of_mem _ g3)) (hts _ (List.mem_cons_of_mem _ g4)) hK hP hD hS a0 a 0 0 (bget_ok hw0) (bget_ok hw1) rfl rfl rfl (fun z => hno (Or.inl z)) (fun z => hno (Or.inr (Or.inl z))) (fun z => hno (Or.inr (Or.inr (Or.inl z)))) (Nat.not_lt.mp fun z => hno (Or.inr (Or.inr (Or.inr (Or.inl z))))) (Nat.not_lt.mp fun z => hno (Or.inr (Or.inr (Or.inr (Or.inr z))))) (fun _ _ => rfl) e4 ?_ hd (fun H1 locs1 hP1 hD1 hS1 => ?_)
          · rw [bg_cats]
            have hz : nativeFrameWords "java/lang/System" "arraycopy" 5 = 7 := by decide
            rw [hz]
            show bcat q + (7 + 11) ≤ 36 * d
            omega
          · exact hKn _ _ _ _ _ h H1 locs1 ls hL (by rw [← bws_set]; exact hP1) (by rw [← bws_set]; exact hD1) hS1
      · cases h
    · rename_i mi hmi hv
      replace h := bmt_some h
      obtain ⟨M1, hM1, h⟩ := h
      replace h := bif_some h
      obtain ⟨e2, h⟩ := h
      obtain ⟨e2, e5⟩ := band e2
      obtain ⟨e2, e4⟩ := band e2
      replace h := bd_some h
      obtain ⟨d1, v, w1, hdd, h1, h⟩ := h
      have hmem := List.mem_of_getElem? hM1
      have hlk : Cond.methodLink (bM_y M).cls x (bM_y M1) ∈ TW := by
        have hp := hpl _ (bfind_mem hv)
        cases mi with
        | zero => exact absurd rfl hmi
        | succ mi =>
          obtain ⟨M2, g1, g2⟩ := hp
          cases hM1.symm.trans g1
          exact g2
      refine bcallS (As := (st.take (bM_na M1)).reverse) (rest := st.drop (bM_na M1)) hok hx hb hml hts hown hK hA hmem e2 hdd hlk (hcall d1 M1 _ w v w1 hdd hmem h1 H.size) (Nat.le_of_ble_eq_true e4) (by rw [List.length_reverse]; exact bl1 e5) (by rw [List.reverse_reverse, List.take_append_drop]) hd hL.1 hP hD hS (fun H1 locs1 hP1 hD1 hS1 => hKn _ _ _ _ _ h H1 locs1 ls hL hP1 hD1 hS1)
    · cases h
  | ireturn =>
    replace h := bif_some h
    obtain ⟨e1, h⟩ := h
    cases bl1 e1
    split at h
    · rename_i x
      replace h := bret_i h
      obtain ⟨rfl, h1 | ⟨h1, h01⟩⟩ := h
      · exact W.iret hx hb (hr.trans h1) (fun t ht hW => ⟨⟨x, (), rfl, rfl, by rw [ht]; exact hP, va_K.moved hW.alike hK, hD⟩, hS.F ht⟩) hS.2.2 hd
      · refine W.zret hx hb (hr.trans h1) ?_ (fun t ht hW => ⟨⟨x, (), rfl, rfl, by rw [ht]; exact hP, va_K.moved hW.alike hK, hD⟩, hS.F ht⟩) hS.2.2 hd
        rcases h01 with rfl | rfl <;> decide
    · exact bnone h
  | lreturn =>
    replace h := bif_some h
    obtain ⟨e1, h⟩ := h
    cases bl1 e1
    split at h
    · rename_i x
      replace h := bret_l h
      obtain ⟨rfl, h1⟩ := h
      exact W.lret hx hb (hr.trans h1) (fun t ht hW => ⟨⟨x, (), rfl, rfl, by rw [ht]; exact hP, va_K.moved hW.alike hK, hD⟩, hS.F ht⟩) hS.2.2 hd
    · exact bnone h
  | return_ =>
    replace h := bif_some h
    obtain ⟨e1, h⟩ := h
    cases bl1 e1
    split at h
    · replace h := bret_v h
      obtain ⟨rfl, h1⟩ := h
      exact W.vret hx hb (hr.trans h1) (fun t ht hW => ⟨⟨(), rfl, trivial, by rw [ht]; exact hP, va_K.moved hW.alike hK, hD⟩, hS.F ht⟩) hS.2.2 hd
    · exact bnone h
  | _ => exact bnone (show (none : Option bR) = some r from h)
end BZ
