section BX
variable {p : Program} {l : Launch} {e : Env} {s : State} {m : MethodId} {args : Array Value} {below : List Frame} {meth : Method} {c : Code} {D : va_G} {cl : List vw_C} {cA : Nat → ClassId} {ad : Nat → Nat} {A : Nat → Prop} {M : bM} {TW : List Cond} {MT : List bM}
theorem bgood (hok : bok TW cl MT) {ws : List Cond} (h : ∀ w ∈ ws, w ∈ TW) : GoodIn (bwsM TW M) ws := fun w hw => ⟨List.mem_cons_of_mem _ (h w hw), good_of_word (hok.1 w (h w hw))⟩
theorem bfree {w : bW} {H0 H : Heap} {locs : List Loc} (hD : va_D A (bws ad cA w)) (hS : va_S A H0 H locs) (hA : ∀ q, H0.size ≤ q → A q) : ∀ q, va_A (bws ad cA w) H.size q → A q := by
  intro q hq
  rcases hq with ⟨k, e, hk⟩ | h
  · exact hD.2 k _ hk
  · exact hA q (Nat.le_trans hS.1 h)
theorem bafter {d pc : Nat} {ls : Array Slot} {st0 rest : List Value} {H : Heap} {locs : List Loc} {w w' : bW} {v : Option Value} {Q : State → Prop} {a : Array Value}
    (hr : va_Run p l e (brm d) s m args below meth c H locs 0 0 0 0 (F0 m pc ls st0) (rest.map (bg ad)) (bQ D cl cA ad (va_A (bws ad cA w) H.size) (v, w') a) (va_A (bws ad cA w) H.size))
    (hD : va_D A (bws ad cA w)) (hS : va_S A s.heap H locs) (hA : ∀ q, s.heap.size ≤ q → A q)
    (kk : ∀ (H1 : Heap) (locs1 : List Loc), va_P D cl (bws ad cA w') H1 → va_D A (bws ad cA w') → va_S A s.heap H1 locs1 → W p l e (brm d) s m args below meth c H1 locs1 0 0 Q (F0 m (pc + 3) ls ((v.toList ++ rest).map (bg ad)))) :
    W p l e (brm d) s m args below meth c H locs 0 0 Q (F0 m pc ls st0) := by
  have hF := bfree hD hS hA
  match v, hr, kk with
  | none, hr, kk =>
    refine va_callv (S := Unit) (a := a) hr hS (fun q _ h => hF q h) hF (fun u t H1 locs1 ht hvm hw hB hz1 hk1 hS1 => ?_)
    obtain ⟨hP1, -, hD1⟩ := hB
    rw [ht] at hP1
    exact kk H1 locs1 hP1 (hD1.weaken (fun _ q _ h => hF _ h)) hS1
  | some (.int x), hr, kk =>
    refine va_calli (S := Unit) (a := a) hr hS (fun q _ h => hF q h) hF (fun y u t H1 locs1 ht hvm hw hB hz1 hk1 hS1 => ?_)
    obtain ⟨hP1, -, hD1⟩ := hB
    rw [ht] at hP1
    have hw : y = x := hw
    subst hw
    exact kk H1 locs1 hP1 (hD1.weaken (fun _ q _ h => hF _ h)) hS1
  | some (.long x), hr, kk =>
    refine va_calll (S := Unit) (a := a) hr hS (fun q _ h => hF q h) hF (fun y u t H1 locs1 ht hvm hw hB hz1 hk1 hS1 => ?_)
    obtain ⟨hP1, -, hD1⟩ := hB
    rw [ht] at hP1
    have hw : y = x := hw
    subst hw
    exact kk H1 locs1 hP1 (hD1.weaken (fun _ q _ h => hF _ h)) hS1
  | some (.float x), hr, kk => intro T hT X; obtain ⟨_, _, _, _, _, _, _, _, _, _, hh, _⟩ := hr T hT X; exact False.elim hh
  | some (.double x), hr, kk => intro T hT X; obtain ⟨_, _, _, _, _, _, _, _, _, _, hh, _⟩ := hr T hT X; exact False.elim hh
  | some .null, hr, kk => intro T hT X; obtain ⟨_, _, _, _, _, _, _, _, _, _, hh, _⟩ := hr T hT X; exact False.elim hh
  | some (.ref x), hr, kk => intro T hT X; obtain ⟨_, _, _, _, _, _, _, _, _, _, hh, _⟩ := hr T hT X; exact False.elim hh
  | some (.retAddr x), hr, kk => intro T hT X; obtain ⟨_, _, _, _, _, _, _, _, _, _, hh, _⟩ := hr T hT X; exact False.elim hh
theorem bblind {sz : Nat} {vs : List Value} {w : bW} : FrameBlind (bPc D cl cA ad sz vs w) := fun a U g mk q => by
  obtain ⟨q0, q1, qP, qK, qD⟩ := q
  exact ⟨q0, q1, qP, va_K.moved (u := U) (U := U.calling g mk a) (Vm.Alike.refl U.vm) qK, qD⟩
theorem bcallV {M' : bM} {d d' pc index b : Nat} {ls : Array Slot} {st As rest : List Value} {H : Heap} {locs : List Loc} {w w' : bW} {v : Option Value} {Q : State → Prop} {ci : Nat} {fs : List Value}
    (hok : bok TW cl MT) (hx : p.tables.exec = Jvm.exec) (hb : c.code = bM_code M) (hml : c.maxLocals = bM_maxL M) (hts : ∀ w ∈ bwsM TW M, w.before args s = true) (hown : s.vm.findClass (bM_y M).cls = some m.cls) (hK : va_K D cl (btys cA) s) (hA : ∀ q, s.heap.size ≤ q → A q)
    (hM' : M' ∈ MT) (hst : bM_st M' = false) (hdd : d = d' + 1) (hlk : Cond.methodLink (bM_y M).cls index (bM_y M') ∈ TW)
    (hMet : Met l (bM_y M') (bwsM TW M') (brm d') (bPc D cl cA ad H.size (.ref b :: As) w) (bQ D cl cA ad (va_A (bws ad cA w) H.size) (v, w')) 0 0 (va_A (bws ad cA w) H.size))
    (hwb : w[b]? = some (.inr (.inr (ci, fs)))) (hci : ci = bM_ci M') (hcat : bcat rest ≤ 8) (hn : As.length = bM_na M') (hstk : st = As.reverse ++ .ref b :: rest) (hd : decode (bM_code M) pc = .ok (.invokevirtual index, 3)) (hsz : ls.size = bM_maxL M)
    (hP : va_P D cl (bws ad cA w) H) (hD : va_D A (bws ad cA w)) (hS : va_S A s.heap H locs)
    (kk : ∀ (H1 : Heap) (locs1 : List Loc), va_P D cl (bws ad cA w') H1 → va_D A (bws ad cA w') → va_S A s.heap H1 locs1 → W p l e (brm d) s m args below meth c H1 locs1 0 0 Q (F0 m (pc + 3) ls ((v.toList ++ rest).map (bg ad)))) :
    W p l e (brm d) s m args below meth c H locs 0 0 Q (F0 m pc ls (st.map (bg ad))) := by
  subst hdd
  obtain ⟨h1, h2, h3, h4, -, h6, -, -, h9⟩ := hok.2.2 M' hM'
  obtain ⟨h61, h62, T, N, h63⟩ := h6 hst
  have hG : GoodIn (bwsM TW M) (wsV (bM_y M).cls index (bM_y M').cls (bM_y M') (bwsM TW M')) := bgood hok (fun z hz => by
    simp only [wsV, List.cons_append, List.nil_append, List.mem_cons] at hz
    rcases hz with rfl | rfl | rfl | rfl | rfl | hz
    · exact hlk
    · exact h61
    · exact h62
    · exact h2
    · exact h1
    · exact hz)
  have cw := cwV (R := brm (d' + 1)) (s := s) (args := args) (bytes := bM_code M') (maxL := bM_maxL M') (ret := bM_ret M') (ws' := TW) (rm := brm d') (mc := 0) (ms := 0) (bM_na M') hts hG rfl rfl rfl ⟨rfl, h4⟩ ⟨Nat.le_refl _, by show 8 + (bM_maxL M' + 11) + 36 * d' ≤ 36 * (d' + 1); omega⟩
  have he : (bws ad cA w)[b]? = some (ad b, .inr (ci, fs.map (bg ad))) := bws_get hwb
  have hp : PreV s H (bM_y M').cls (ad b) (bPc D cl cA ad H.size (.ref b :: As) w) (As.map (bg ad)) := ⟨bblind, va_recv hK hP (q := ((bM_y M').cls, T, N)) (by rw [hci]; exact h63) he, fun U hU hW => ⟨rfl, by rw [hU], by rw [hU]; exact hP, va_K.moved hW.alike hK, hD.weaken (fun _ _ _ _ => trivial)⟩⟩
  refine bafter (va_runV (nL := bM_maxL M) (g := F0 m pc ls (st.map (bg ad))) (rest := rest.map (bg ad)) ⟨hx, hb, hml, hown, hts⟩ hMet cw hp rfl (by rw [List.length_map]; exact hn) hsz (by rw [hstk]; simp [bg]) (lv_room (by rw [bg_cats]; exact hcat)) hd ⟨Nat.le_refl _, Nat.le_refl _⟩) hD hS hA kk
theorem bcallS {M' : bM} {d d' pc index : Nat} {ls : Array Slot} {st As rest : List Value} {H : Heap} {locs : List Loc} {w w' : bW} {v : Option Value} {Q : State → Prop}
    (hok : bok TW cl MT) (hx : p.tables.exec = Jvm.exec) (hb : c.code = bM_code M) (hml : c.maxLocals = bM_maxL M) (hts : ∀ w ∈ bwsM TW M, w.before args s = true) (hown : s.vm.findClass (bM_y M).cls = some m.cls) (hK : va_K D cl (btys cA) s) (hA : ∀ q, s.heap.size ≤ q → A q)
    (hM' : M' ∈ MT) (hst : bM_st M' = true) (hdd : d = d' + 1) (hlk : Cond.methodLink (bM_y M).cls index (bM_y M') ∈ TW)
    (hMet : Met l (bM_y M') (bwsM TW M') (brm d') (bPc D cl cA ad H.size As w) (bQ D cl cA ad (va_A (bws ad cA w) H.size) (v, w')) 0 0 (va_A (bws ad cA w) H.size))
    (hcat : bcat rest ≤ 8) (hn : As.length = bM_na M') (hstk : st = As.reverse ++ rest) (hd : decode (bM_code M) pc = .ok (.invokestatic index, 3)) (hsz : ls.size = bM_maxL M)
    (hP : va_P D cl (bws ad cA w) H) (hD : va_D A (bws ad cA w)) (hS : va_S A s.heap H locs)
    (kk : ∀ (H1 : Heap) (locs1 : List Loc), va_P D cl (bws ad cA w') H1 → va_D A (bws ad cA w') → va_S A s.heap H1 locs1 → W p l e (brm d) s m args below meth c H1 locs1 0 0 Q (F0 m (pc + 3) ls ((v.toList ++ rest).map (bg ad)))) :
    W p l e (brm d) s m args below meth c H locs 0 0 Q (F0 m pc ls (st.map (bg ad))) := by
  subst hdd
  obtain ⟨h1, h2, h3, h4, h5, -, -, -, h9⟩ := hok.2.2 M' hM'
  have h51 := h5 hst
  have hG : GoodIn (bwsM TW M) (va_wsS (bM_y M).cls index (bM_y M') (bwsM TW M')) := bgood hok (fun z hz => by
    simp only [va_wsS, List.cons_append, List.nil_append, List.mem_cons] at hz
    rcases hz with rfl | rfl | rfl | rfl | hz
    · exact hlk
    · exact h51
    · exact h2
    · exact h1
    · exact hz)
  have cw := va_cwS (R := brm (d' + 1)) (s := s) (args := args) (bytes := bM_code M') (maxL := bM_maxL M') (ret := bM_ret M') (ws' := TW) (rm := brm d') (mc := 0) (ms := 0) (bM_na M') hts hG rfl rfl rfl h4 ⟨Nat.le_refl _, by show 8 + (bM_maxL M' + 11) + 36 * d' ≤ 36 * (d' + 1); omega⟩
  have hp : PreS s H (bPc D cl cA ad H.size As w) (As.map (bg ad)) := ⟨bblind, fun U hU hW => ⟨rfl, by rw [hU], by rw [hU]; exact hP, va_K.moved hW.alike hK, hD.weaken (fun _ _ _ _ => trivial)⟩⟩
  refine bafter (va_runS (nL := bM_maxL M) (g := F0 m pc ls (st.map (bg ad))) (rest := rest.map (bg ad)) ⟨hx, hb, hml, hown, hts⟩ hMet cw hp rfl (by rw [List.length_map]; exact hn) hsz (by rw [hstk]; simp [bg]) (lv_room (by rw [bg_cats]; exact hcat)) hd ⟨Nat.le_refl _, Nat.le_refl _⟩) hD hS hA kk
end BX
