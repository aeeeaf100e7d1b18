/-! THE CLAIM OUT OF ONE WALK OF THE LAW'S BODY. Your part is whole_start (and what it stands on); all else here is the same for every law, but numbers. -/
abbrev R_law : String := RL
def lw_P (b : Addr) (xs : List Int32) (args : Array Value) (s : State) : Prop := args = #[.ref b] ∧ s.IntsAt b xs ∧ xs.length ≤ 3072 ∧ (Jvm.Cond.and given_1 narrow_1).before args s = true
def lw_Q (_ : Array Value) (s : State) (o : Outcome) (t : State) : Prop := o = .returned (some (.int 1)) ∧ Framed s o t [] 130 28792
def lw_Z (below : List Frame) (a : Array Value) (s : State) : State → Prop := fun t => ∃ o, t.status = .running ∧ Ended t below o ∧ lw_Q a s o t
/-- the law's own end, with 1 on the stack, nothing written that was there before, its room as the claim has it -/
theorem lw_ret {p : Program} {l : Launch} {e : Env} {s : State} {m : MethodId} {below : List Frame} {meth : Method} {c : Code} {b : Nat} (hx : p.tables.exec = Jvm.exec) (hb : c.code = code) (hr : meth.sig.returnType = ret) (hlocks : meth.locks = false) {pc : Nat} {H : Heap} {ls : Array Slot} (hdg : decode code pc = .ok (.ireturn, 1)) : W p l e room_1 s m #[Value.ref b] below meth c H [] 130 28792 (lw_Z below #[Value.ref b] s) (F0 m pc ls [.int 1]) := by
  intro T hT X
  obtain ⟨fs, hret, hrun, hended, hW, hframe⟩ := X.leave (v := some (.int 1)) (hlocks := hlocks) (fun h => by rw [hr] at h; cases h)
  have hmeth' : T.vm.method? m = some meth := X.method'
  refine ⟨T.setFrames fs, ?_, .returned (some (.int 1)), hrun, hended, rfl, ⟨_, rfl⟩, hW, hframe⟩
  jvm_step X.here [X.here.top, hx, hb, hdg, hmeth', hr, ret, narrow_b1]
  (try refine ⟨rfl, ?_⟩); (try refine ⟨rfl, ?_⟩)
  first | (intro acts; rw [hret _ acts rfl rfl rfl]) | rw [hret _ _ rfl rfl rfl]
  exact Steps.refl _
/-- what holds at the law's entry: the machine, the code, the tables' words (any of lw_tbl by 'hts w (by decide +kernel)'), the script of L ints xs at the cell b, what the Statement gives of the start (any of its parts by flat_of_before) -/
def lw_At (p : Program) (s : State) (m : MethodId) (meth : Method) (c : Code) (b L : Nat) (xs : Nat → Int32) : Prop :=
  p.tables.exec = Jvm.exec ∧ c.code = code ∧ meth.sig.returnType = ret ∧ c.maxLocals = 4 ∧ s.vm.findClass R_law = some m.cls ∧ (∀ w ∈ lw_tbl, w.before #[Value.ref b] s = true) ∧ va_X b L xs s s.heap ∧ b < s.heap.size ∧ meth.locks = false ∧ (Jvm.Cond.and given_1 narrow_1).before #[Value.ref b] s = true
abbrev lwA (s : State) : Nat → Prop := fun q => s.heap.size ≤ q
theorem lw_apart {A0 : Nat → Prop} {D : va_G} {cl : List vw_C} {wc wr w1 : va_W} {H H1 : Heap} (hP : va_P D cl (wc ++ wr) H) (hD : va_D A0 (wc ++ wr))
    (hk : ∀ q : Nat, q < H.size → ¬ va_A wc H.size q → H1[q]? = H[q]?) (hF : ∀ q, va_A wc H.size q → A0 q) (hP1 : va_P D cl w1 H1) (hD1 : va_D (va_A wc H.size) w1) : va_P D cl (w1 ++ wr) H1 ∧ va_D A0 (w1 ++ wr) := by
  have at' : ∀ (k : Nat) (q : Nat × va_E), wr[k]? = some q → (wc ++ wr)[wc.length + k]? = some q := by
    intro k q hq
    rw [List.getElem?_append_right (Nat.le_add_right _ _), Nat.add_sub_cancel_left]
    exact hq
  have apart : ∀ (k : Nat) (q : Nat × va_E), wr[k]? = some q → q.1 < H.size ∧ ¬ va_A wc H.size q.1 := by
    intro k q hq
    have hl := (hP _ q (at' k q hq)).lt
    refine ⟨hl, fun h => ?_⟩
    rcases h with ⟨k2, e, h⟩ | h
    · have hk2 : k2 < wc.length := (List.getElem?_eq_some_iff.mp h).1
      have h4 : (wc ++ wr)[k2]? = some (q.1, e) := by rw [List.getElem?_append_left hk2]; exact h
      have := hD.1 _ _ q (q.1, e) (at' k q hq) h4 rfl
      omega
    · omega
  refine ⟨va_P.app hP1 (fun k q hq => (hP _ q (at' k q hq)).kept (hk q.1 (apart k q hq).1 (apart k q hq).2)), va_D.app (hD1.weaken (fun k q _ h => hF q.1 h)) ⟨fun i j x y hx hy hxy => ?_, fun k q hq => hD.2 _ q (at' k q hq)⟩ (fun i j x y hx hy hxy => (apart j y hy).2 (by rw [← hxy]; exact hD1.2 i x hx))⟩
  have := hD.1 _ _ x y (at' i x hx) (at' j y hy) hxy
  omega
theorem lw_swapP {D : va_G} {cl : List vw_C} {a b : va_W} {H : Heap} (h : va_P D cl (a ++ b) H) : va_P D cl (b ++ a) H := va_P.swap (a := []) h
theorem lw_swapD {A : Nat → Prop} {a b : va_W} (h : va_D A (a ++ b)) : va_D A (b ++ a) := va_D.swap (a := []) h
section LWC
variable {p : Program} {l : Launch} {e : Env} {s : State} {m : MethodId} {below : List Frame} {meth : Method} {c : Code} {b L : Nat} {xs : Nat → Int32} {D : va_G} {cA : Nat → ClassId} {H : Heap} {locs : List Loc} {ls : Array Slot} {Q : State → Prop} {pc : Nat}
theorem lw_call (hx : p.tables.exec = Jvm.exec) (hb : c.code = code) (hml : c.maxLocals = 4) (hts : ∀ w ∈ lw_tbl, w.before #[Value.ref b] s = true) (hown : s.vm.findClass RL = some m.cls) (hK : va_K D cls_ (btys cA) s)
    {M' : bM} {index : Nat} {As rest : List Value} {w w' : bW} {r : Int32} {ad : Nat → Nat} {X : va_W} {fs : List Value} {A : Nat → Prop}
    (hM' : M' ∈ MT) (hst : bM_st M' = false) (hlk : Cond.methodLink RL index (bM_y M') ∈ TW)
    (hfr : bfr MT 11 M' 0 (bpad (bM_maxL M') (bent 0 (.ref 0 :: As)).1) (bent 0 (.ref 0 :: As)).2 [] w (some (.int r), w')) (hcm : bcat (.ref 0 :: As) ≤ bM_maxL M') (hwb : w[0]? = some (.inr (.inr (bM_ci M', fs)))) (hcat : (rest.map fun v => v.category).sum ≤ 8) (hn : As.length = bM_na M') (hd : decode code pc = .ok (.invokevirtual index, 3)) (hsz : ls.size = 4)
    (hP : va_P D cls_ (bws ad cA w ++ X) H) (hD : va_D A (bws ad cA w ++ X)) (hS : va_S A s.heap H locs) (hA : ∀ q, s.heap.size ≤ q → A q)
    (kk : ∀ (H1 : Heap) (locs1 : List Loc), va_P D cls_ (bws ad cA w' ++ X) H1 → va_D A (bws ad cA w' ++ X) → va_S A s.heap H1 locs1 → W p l e room_1 s m #[Value.ref b] below meth c H1 locs1 130 28792 Q (F0 m (pc + 3) ls (.int r :: rest))) :
    W p l e room_1 s m #[Value.ref b] below meth c H locs 130 28792 Q (F0 m pc ls ((As.map (bg ad)).reverse ++ .ref (ad 0) :: rest)) := by
  obtain ⟨n, hn1⟩ := hfr
  obtain ⟨h1, h2, h3, h4, -, h6, -, -, h9⟩ := b_ok.2.2 M' hM'
  obtain ⟨h61, h62, T, N, h63⟩ := h6 hst
  have hMet := bsound (l := l) (D := D) (cA := cA) (ad := ad) b_ok b_ok0 n 11 M' (.ref 0 :: As) w (some (.int r), w') hM' ⟨hcm, hn1⟩ H.size
  have hG : GoodIn lw_tbl (wsV RL index (bM_y M').cls (bM_y M') (bwsM TW M')) := fun z hz => by
    have hz' : z ∈ TW := by
      simp only [wsV, List.cons_append, List.nil_append, List.mem_cons] at hz
      rcases hz with rfl | rfl | rfl | rfl | rfl | hz
      · exact hlk
      · exact h61
      · exact h62
      · exact h2
      · exact h1
      · exact hz
    exact ⟨TW_in z hz', good_of_word (TW_good z hz')⟩
  have cw := cwV (R := room_1) (s := s) (args := #[Value.ref b]) (bytes := bM_code M') (maxL := bM_maxL M') (ret := bM_ret M') (ws' := TW) (rm := brm 11) (mc := 0) (ms := 0) (bM_na M') hts hG rfl rfl rfl ⟨rfl, h4⟩ ⟨Nat.le_refl _, by show 8 + (bM_maxL M' + 11) + 36 * 11 ≤ 440; omega⟩
  have hPc : va_P D cls_ (bws ad cA w) H := fun k q hk => hP k q (by rw [List.getElem?_append_left (List.getElem?_eq_some_iff.mp hk).1]; exact hk)
  have hDc : va_D A (bws ad cA w) := ⟨fun i j x y hx hy hxy => hD.1 i j x y (by rw [List.getElem?_append_left (List.getElem?_eq_some_iff.mp hx).1]; exact hx) (by rw [List.getElem?_append_left (List.getElem?_eq_some_iff.mp hy).1]; exact hy) hxy, fun k q hk => hD.2 k q (by rw [List.getElem?_append_left (List.getElem?_eq_some_iff.mp hk).1]; exact hk)⟩
  have he : (bws ad cA w)[0]? = some (ad 0, .inr (bM_ci M', fs.map (bg ad))) := bws_get hwb
  have hp : PreV s H (bM_y M').cls (ad 0) (bPc D cls_ cA ad H.size (.ref 0 :: As) w) (As.map (bg ad)) := ⟨bblind, va_recv hK hPc (q := ((bM_y M').cls, T, N)) h63 he, fun U hU hW => ⟨rfl, by rw [hU], by rw [hU]; exact hPc, va_K.moved hW.alike hK, hDc.weaken (fun _ _ _ _ => trivial)⟩⟩
  have hF : ∀ q, va_A (bws ad cA w) H.size q → A q := by
    intro q hq
    rcases hq with ⟨k, e, hk⟩ | h
    · exact hDc.2 k _ hk
    · exact hA q (Nat.le_trans hS.1 h)
  have hr := va_runV (p := p) (l := l) (e := e) (R := room_1) (s := s) (m := m) (args := #[Value.ref b]) (below := below) (meth := meth) (c := c) (H := H) (locs := locs) (cells := 130) (slots := 28792) (nL := 4) (g := F0 m pc ls ((As.map (bg ad)).reverse ++ .ref (ad 0) :: rest)) (rest := rest) ⟨hx, hb, hml, hown, hts⟩ hMet cw hp rfl (by rw [List.length_map]; exact hn) hsz rfl (lv_room hcat) hd ⟨Nat.le_refl _, Nat.le_refl _⟩
  refine va_calli (S := Unit) (a := (Value.ref (ad 0) :: As.map (bg ad)).toArray) hr hS (fun q _ h => hF q h) hF (fun y u t H1 locs1 ht hvm hw hB hz1 hk1 hS1 => ?_)
  obtain ⟨hP1, -, hD1⟩ := hB
  rw [ht] at hP1
  have hw : y = r := hw
  subst hw
  obtain ⟨hP2, hD2⟩ := lw_apart hP hD hk1 hF hP1 hD1
  exact kk H1 locs1 hP2 hD2 hS1
theorem lw_arg (hx : p.tables.exec = Jvm.exec) (hb : c.code = code) (hX : va_X b L xs s s.heap) (hbl : b < s.heap.size) (hL : L ≤ 3072) {x0 y0 i : Nat} (hl : lv_has ls 4 [(0, .ref b), (1, .ref x0), (2, .ref y0), (3, .int (nI i))]) (hS : va_S (lwA s) s.heap H locs) {k : Nat} {n : Int} {st : List Value} (hn : Int32.ofInt n = nI k) (hik : i + k < L)
    (d0 : decode code pc = .ok (.aload_n 0, 1)) (d1 : decode code (pc + 1) = .ok (.iload_n 3, 1)) (d2 : decode code (pc + 2) = .ok (.iconst n, 1)) (d3 : decode code (pc + 3) = .ok (.iadd, 1)) (d4 : decode code (pc + 4) = .ok (.iaload, 1))
    (kk : W p l e room_1 s m #[Value.ref b] below meth c H locs 130 28792 Q (F0 m (pc + 5) ls (.int (xs (i + k)) :: st))) :
    W p l e room_1 s m #[Value.ref b] below meth c H locs 130 28792 Q (F0 m pc ls st) := by
  refine lv_aload_n hx hb d0 rfl (lv_at hl 0 rfl) ?_
  refine lv_iload_n hx hb d1 rfl (lv_at hl 3 rfl) ?_
  refine lv_iconst (v := nI k) hx hb d2 hn ?_
  refine lv_iadd hx hb d3 ?_
  rw [nI_add]
  refine va_sld hx hb hX hbl (Nat.not_le.mpr hbl) hS (vp_in_nI hik (by omega)) d4 ?_
  rw [nI_clamp (by omega)]
  exact kk
/-- a boolean out of the script: v != 0 -/
theorem lw_bool (hx : p.tables.exec = Jvm.exec) (hb : c.code = code) {v : Int32} {st : List Value}
    (d0 : decode code pc = .ok (.ifCond .eq 7, 3)) (d1 : decode code (pc + 3) = .ok (.iconst 1, 1)) (d2 : decode code (pc + 4) = .ok (.goto 4, 3)) (d3 : decode code (pc + 7) = .ok (.iconst 0, 1))
    (kk : W p l e room_1 s m #[Value.ref b] below meth c H locs 130 28792 Q (F0 m (pc + 8) ls (.int (if v = 0 then 0 else 1) :: st))) :
    W p l e room_1 s m #[Value.ref b] below meth c H locs 130 28792 Q (F0 m pc ls (.int v :: st)) := by
  refine lv_if_eq (tgt := pc + 7) hx hb d0 (by omega) (fun h => ?_) (fun h => ?_)
  · rw [if_pos h] at kk
    exact lv_iconst (v := 0) hx hb d3 (by decide) kk
  · rw [if_neg h] at kk
    refine lv_iconst (v := 1) hx hb d1 (by decide) ?_
    exact lv_goto (tgt := pc + 8) hx hb d2 (by omega) kk
end LWC
/-- what goes on behind a case: the two worlds again, in whatever state they are related -/
def lwK (p : Program) (l : Launch) (e : Env) (s : State) (m : MethodId) (below : List Frame) (meth : Method) (c : Code) (b : Nat) (Q : State → Prop) (D : va_G) (cA : Nat → ClassId) (ls : Array Slot) (x0 : Nat) (adM : Nat → Nat) (Rel : bS → bS → Prop) : Prop :=
  ∀ (adC : Nat → Nat) (re : Nat) (rf rg : Value) (σC σM : bS) (H : Heap) (locs : List Loc), adC 0 = x0 → Rel σC σM → va_P D cls_ (bws adC cA (mkC 1 14 1 re rf rg σC) ++ bws adM cA (mkM σM)) H → va_D (lwA s) (bws adC cA (mkC 1 14 1 re rf rg σC) ++ bws adM cA (mkM σM)) → va_S (lwA s) s.heap H locs → W p l e room_1 s m #[Value.ref b] below meth c H locs 130 28792 Q (F0 m 1696 ls [])
def spi (k : Nat) : Nat := bif Nat.ble 1 k && Nat.ble k 13 then k + 13 else bif Nat.ble 14 k && Nat.ble k 26 then k - 13 else k
def swp (σ : bS) : bS := (fun o k => σ.1 (spi o) k, fun a => σ.2.1 (spi a), fun a => σ.2.2 (spi a))
theorem spi_spi (k : Nat) : spi (spi k) = k := by
  by_cases h : k < 27
  · have : ∀ k, k < 27 → spi (spi k) = k := by decide
    exact this k h
  · have e : spi k = k := by
      unfold spi
      have h1 : Nat.ble k 13 = false := by rw [Bool.eq_false_iff]; intro z; have := Nat.le_of_ble_eq_true z; omega
      have h2 : Nat.ble k 26 = false := by rw [Bool.eq_false_iff]; intro z; have := Nat.le_of_ble_eq_true z; omega
      simp [h1, h2]
    rw [e, e]
set_option maxRecDepth 100000 in
theorem sw_ls {adC : Nat → Nat} {cA : Nat → ClassId} {re : Nat} {σ : bS} : ((List.range 82).map spi).map (fun i => (bws adC cA (mkC 14 1 14 (spi re) (.ref 14) (.ref 23) σ))[i]?) = (bws (fun k => adC (spi k)) cA (mkC 1 14 1 re (.ref 1) (.ref 10) (swp σ))).map some := rfl
theorem sw_P {D : va_G} {cl : List vw_C} {adC : Nat → Nat} {cA : Nat → ClassId} {re : Nat} {σ : bS} {X : va_W} {H : Heap} (h : va_P D cl (bws adC cA (mkC 14 1 14 re (.ref 14) (.ref 23) σ) ++ X) H) : va_P D cl (bws (fun k => adC (spi k)) cA (mkC 1 14 1 (spi re) (.ref 1) (.ref 10) (swp σ)) ++ X) H := by
  rw [← spi_spi re] at h
  exact va_P.part h ((List.range 82).map spi) sw_ls
theorem sw_D {A : Nat → Prop} {adC : Nat → Nat} {cA : Nat → ClassId} {re : Nat} {σ : bS} {X : va_W} (h : va_D A (bws adC cA (mkC 14 1 14 re (.ref 14) (.ref 23) σ) ++ X)) : va_D A (bws (fun k => adC (spi k)) cA (mkC 1 14 1 (spi re) (.ref 1) (.ref 10) (swp σ)) ++ X) := by
  rw [← spi_spi re] at h
  exact va_D.part h ((List.range 82).map spi) (by decide) sw_ls
theorem bfr_brc {MT : List bM} {d pc : Nat} {M : bM} {L : bL} {J : bJ} {st : List Value} {w : bW} {r : bR} {c : Prop} [Decidable c] (k : Nat) {pc1 pc2 : Nat} {L1 L2 : bL} {J1 J2 : bJ} {st1 st2 : List Value} {w1 w2 : bW} (hrun : ∀ (call : bCall) (K : bK), bgo MT call M d K k pc L J st w = if c then K pc1 L1 J1 st1 w1 else K pc2 L2 J2 st2 w2) (h1 : c → bfr MT d M pc1 L1 J1 st1 w1 r) (h2 : ¬ c → bfr MT d M pc2 L2 J2 st2 w2 r) : bfr MT d M pc L J st w r := by
  by_cases hc : c
  · obtain ⟨n, hn⟩ := h1 hc
    exact ⟨n + k, bgo_run _ _ _ _ _ _ _ (by rw [hrun, if_pos hc]; exact hn)⟩
  · obtain ⟨n, hn⟩ := h2 hc
    exact ⟨n + k, bgo_run _ _ _ _ _ _ _ (by rw [hrun, if_neg hc]; exact hn)⟩
set_option maxRecDepth 100000 in
theorem k_read2_b41 (n d : Nat) (q : (Int32 × bS)) (x1 : Int32) (s1 : Int32) (o2 : Option Value) (ra : Nat) (rc : Nat) (re : Nat) (σ : bS) (h : cTop_read_b41 n x1 s1 σ = some q) : bfr MT (d + 7) M_X11_read 41 [some (.ref 0), some (.int x1), o2] [] [(.int s1), (.ref 0)] (mkC ra 14 rc re (.ref 14) (.ref 23) σ) (some (.int q.1), if q.1 = 0 then mkC 14 ra 14 re (.ref 14) (.ref 23) q.2 else mkC ra 14 rc re (.ref 14) (.ref 23) q.2) := by
  unfold cTop_read_b41 at h
  refine bfr_run 1 44 [some (.ref 0), some (.int x1), o2] [] [] ((mkC ra 14 rc re (.ref 14) (.ref 23) σ).set 0 (.inr (.inr (11, (mkC_0  ra 14 rc re (.ref 14) (.ref 23) σ).set 2 (.int s1))))) (fun _ _ => rfl) ?_
  rw [mkC_I0_2]
  refine bfr_brc (c := x1 = 0) 2 (pc1 := 48) (L1 := [some (.ref 0), some (.int x1), o2]) (J1 := []) (st1 := []) (w1 := mkC ra 14 rc re (.ref 14) (.ref 23) (uI σ 0 2 s1)) (pc2 := 91) (L2 := [some (.ref 0), some (.int x1), o2]) (J2 := []) (st2 := []) (w2 := mkC ra 14 rc re (.ref 14) (.ref 23) (uI σ 0 2 s1)) (fun _ _ => rfl) (fun hc => ?_) (fun hc => ?_)
  · rw [if_pos hc] at h
    refine bfr_run 6 58 [some (.ref 0), some (.int x1), some (.ref ra)] [] [(.ref 14), (.ref 0)] (mkC ra 14 rc re (.ref 14) (.ref 23) (uI σ 0 2 s1)) (fun _ _ => rfl) ?_
    refine bfr_run 1 61 [some (.ref 0), some (.int x1), some (.ref ra)] [] [] ((mkC ra 14 rc re (.ref 14) (.ref 23) (uI σ 0 2 s1)).set 0 (.inr (.inr (11, (mkC_0 ra 14 rc re (.ref 14) (.ref 23) (uI σ 0 2 s1)).set 3 (.ref 14))))) (fun _ _ => rfl) ?_
    rw [mkC_R0]
    refine bfr_run 3 66 [some (.ref 0), some (.int x1), some (.ref ra)] [] [] ((mkC 14 14 rc re (.ref 14) (.ref 23) (uI σ 0 2 s1)).set 0 (.inr (.inr (11, (mkC_0 14 14 rc re (.ref 14) (.ref 23) (uI σ 0 2 s1)).set 4 (.ref ra))))) (fun _ _ => rfl) ?_
    rw [mkC_R1]
    refine bfr_call 5 (d1 := d + 6) (M1 := M_X1_begin) (vs := [(.ref 27), (.ref 14)]) (w1 := mkC 14 ra rc re (.ref 14) (.ref 23) (uI σ 0 2 s1)) (pc2 := 77) (L2 := [some (.ref 0), some (.int x1), some (.ref ra)]) (J2 := []) (rest := []) (fun _ => none) (fun a => mkC 14 ra 14 re (.ref 14) (.ref 23) a) (fun _ _ => rfl) h (fun a ha => k_cGoing_begin_14 n (d + 5) _ _ _ _ _ _ _ _ ha) (fun q1 _ h => ?_)
    refine bfr_call 3 (d1 := d + 6) (M1 := M_X7_clear) (vs := [(.ref 54)]) (w1 := mkC 14 ra 14 re (.ref 14) (.ref 23) q1) (pc2 := 84) (L2 := [some (.ref 0), some (.int x1), some (.ref ra)]) (J2 := []) (rest := []) (fun _ => none) (fun a => mkC 14 ra 14 re (.ref 14) (.ref 23) a) (fun _ _ => rfl) h (fun a ha => k_cShelf_clear n (d + 6) _ _ _ _ _ _ _ _ ha) (fun q2 _ h => ?_)
    refine bfr_call 3 (d1 := d + 6) (M1 := M_X6_clear) (vs := [(.ref 77)]) (w1 := mkC 14 ra 14 re (.ref 14) (.ref 23) q2) (pc2 := 91) (L2 := [some (.ref 0), some (.int x1), some (.ref ra)]) (J2 := []) (rest := []) (fun _ => none) (fun a => mkC 14 ra 14 re (.ref 14) (.ref 23) a) (fun _ _ => rfl) h (fun a ha => k_cSeen_clear n (d + 5) _ _ _ _ _ _ _ _ ha) (fun q3 _ h => ?_)
    cases h
    rw [if_pos hc]
    exact bfr_ret 2 (fun _ _ => rfl)
  · rw [if_neg hc] at h
    cases h
    rw [if_neg hc]
    exact bfr_ret 2 (fun _ _ => rfl)
set_option maxRecDepth 100000 in
theorem k_read2 (n d : Nat) (q : (Int32 × bS)) (ra : Nat) (rc : Nat) (re : Nat) (rf : Value) (rg : Value) (σ : bS) (h : cTop_read n σ = some q) : bfr MT (d + 7) M_X11_read 0 [some (.ref 0), none, none] [] [] (mkC ra 14 rc re rf rg σ) (some (.int q.1), if q.1 = 0 then mkC 14 ra 14 re (.ref 14) (.ref 23) q.2 else mkC ra 14 rc re (.ref 14) (.ref 23) q.2) := by
  unfold cTop_read at h
  refine bfr_run 6 12 [some (.ref 0), none, none] [] [(.ref 43), (.ref 14), (.ref 44)] (mkC ra 14 rc re rf rg σ) (fun _ _ => rfl) ?_
  refine bfr_call 3 (d1 := d + 6) (M1 := M_X4_readInto) (vs := [(.ref 44), (.ref 14), (.ref 43), (.int (sI σ 0 1))]) (w1 := mkC ra 14 rc re rf rg σ) (pc2 := 19) (L2 := [some (.ref 0), none, none]) (J2 := []) (rest := []) (fun a => some (.int a.1)) (fun a => mkC ra 14 rc re (.ref 14) (.ref 23) a.2) (fun _ _ => rfl) h (fun a ha => k_cReader_readInto_14_43 n (d + 0) _ _ _ _ _ _ _ _ _ ha) (fun q4 _ h => ?_)
  refine bfr_run 4 25 [some (.ref 0), some (.int q4.1), none] [] [] ((mkC ra 14 rc re (.ref 14) (.ref 23) q4.2).set 0 (.inr (.inr (11, (mkC_0  ra 14 rc re (.ref 14) (.ref 23) q4.2).set 1 (.int ci_0))))) (fun _ _ => rfl) ?_
  rw [mkC_I0_1]
  refine bfr_br 3 (pc1 := 30) (L1 := [some (.ref 0), some (.int q4.1), none]) (J1 := []) (st1 := [(.ref 0)]) (w1 := mkC ra 14 rc re (.ref 14) (.ref 23) (uI q4.2 0 1 ci_0)) (pc2 := 34) (L2 := [some (.ref 0), some (.int q4.1), none]) (J2 := []) (st2 := [(.ref 0)]) (w2 := mkC ra 14 rc re (.ref 14) (.ref 23) (uI q4.2 0 1 ci_0)) (fun _ _ => rfl) h (fun h => ?_) (fun h => ?_)
  · refine bfr_run 2 41 [some (.ref 0), some (.int q4.1), none] [] [(.int ci_m1), (.ref 0)] (mkC ra 14 rc re (.ref 14) (.ref 23) (uI q4.2 0 1 ci_0)) (fun _ _ => rfl) ?_
    exact k_read2_b41 n d q _ _ _ _ _ _ _ h
  · refine bfr_run 3 41 [some (.ref 0), some (.int q4.1), none] [] [(.int (sI (uI q4.2 0 1 ci_0) 44 0)), (.ref 0)] (mkC ra 14 rc re (.ref 14) (.ref 23) (uI q4.2 0 1 ci_0)) (fun _ _ => rfl) ?_
    exact k_read2_b41 n d q _ _ _ _ _ _ _ h
def Sim_feed (Rel : bS → bS → Prop) (x1 x2 x3 x4 x5 : Int32) (σC σM : bS) : Prop := ∃ (n1 n2 : Nat) (r : Int32) (σC1 σM1 : bS), cTop_feed n1 x1 x2 x3 x4 x5 σC = some (r, σC1) ∧ m_feed n2 x1 x2 x3 x4 x5 σM = some (r, σM1) ∧ Rel σC1 σM1
def Sim_back (Rel : bS → bS → Prop) (x1 : Int32) (σC σM : bS) : Prop := ∃ (n1 n2 : Nat) (r : Int32) (σC1 σM1 : bS), cTop_back n1 x1 σC = some (r, σC1) ∧ m_back n2 x1 σM = some (r, σM1) ∧ Rel σC1 σM1
def Sim_read (Rel : bS → bS → Prop) (σC σM : bS) : Prop := ∃ (n1 n2 : Nat) (r : Int32) (σC1 σM1 : bS), cTop_read n1 σC = some (r, σC1) ∧ m_read n2 σM = some (r, σM1) ∧ (if r = 0 then Rel (swp σC1) σM1 else Rel σC1 σM1)
def Sim_place (Rel : bS → bS → Prop) (σC σM : bS) : Prop := ∃ (n1 n2 : Nat) (r : Int32) (σC1 σM1 : bS), cTop_place n1 σC = some (r, σC1) ∧ m_place n2 σM = some (r, σM1) ∧ Rel σC1 σM1
def Sim_bank (Rel : bS → bS → Prop) (x1 : Int32) (σC σM : bS) : Prop := ∃ (n1 n2 : Nat) (r : Int32) (σC1 σM1 : bS), cTop_bank n1 x1 σC = some (r, σC1) ∧ m_bank n2 x1 σM = some (r, σM1) ∧ Rel σC1 σM1
def Sim_bridge (Rel : bS → bS → Prop) (x1 x2 : Int32) (σC σM : bS) : Prop := ∃ (n1 n2 : Nat) (r : Int32) (σC1 σM1 : bS), cTop_bridge n1 x1 x2 σC = some (r, σC1) ∧ m_bridge n2 x1 x2 σM = some (r, σM1) ∧ Rel σC1 σM1
def Sim_man (Rel : bS → bS → Prop) (x1 x2 : Int32) (σC σM : bS) : Prop := ∃ (n1 n2 : Nat) (r : Int32) (σC1 σM1 : bS), cTop_man n1 x1 x2 σC = some (r, σC1) ∧ m_man n2 x1 x2 σM = some (r, σM1) ∧ Rel σC1 σM1
def Sim_wish (Rel : bS → bS → Prop) (x1 x2 : Int32) (σC σM : bS) : Prop := ∃ (n1 n2 : Nat) (r : Int32) (σC1 σM1 : bS), cTop_wish n1 x1 x2 σC = some (r, σC1) ∧ m_wish n2 x1 x2 σM = some (r, σM1) ∧ Rel σC1 σM1
def Sim_toll (Rel : bS → bS → Prop) (x1 x2 : Int32) (σC σM : bS) : Prop := ∃ (n1 n2 : Nat) (r : Int32) (σC1 σM1 : bS), cTop_toll n1 x1 x2 σC = some (r, σC1) ∧ m_toll n2 x1 x2 σM = some (r, σM1) ∧ Rel σC1 σM1
def Sim_cross (Rel : bS → bS → Prop) (x1 x2 : Int32) (σC σM : bS) : Prop := ∃ (n1 n2 : Nat) (r : Int32) (σC1 σM1 : bS), cTop_cross n1 x1 x2 σC = some (r, σC1) ∧ m_cross n2 x1 x2 σM = some (r, σM1) ∧ Rel σC1 σM1
def Sim_pair (Rel : bS → bS → Prop) (x1 x2 x3 : Int32) (σC σM : bS) : Prop := ∃ (n1 n2 : Nat) (r : Int32) (σC1 σM1 : bS), cTop_pair n1 x1 x2 x3 σC = some (r, σC1) ∧ m_pair n2 x1 x2 x3 σM = some (r, σM1) ∧ Rel σC1 σM1
def Sim_hire (Rel : bS → bS → Prop) (x1 x2 : Int32) (σC σM : bS) : Prop := ∃ (n1 n2 : Nat) (r : Int32) (σC1 σM1 : bS), cTop_hire n1 x1 x2 σC = some (r, σC1) ∧ m_hire n2 x1 x2 σM = some (r, σM1) ∧ Rel σC1 σM1
def Sim_walk (Rel : bS → bS → Prop) (x1 x2 : Int32) (σC σM : bS) : Prop := ∃ (n1 n2 : Nat) (r : Int32) (σC1 σM1 : bS), cTop_walk n1 x1 x2 σC = some (r, σC1) ∧ m_walk n2 x1 x2 σM = some (r, σM1) ∧ Rel σC1 σM1
def Sim_hours (Rel : bS → bS → Prop) (x1 : Int32) (σC σM : bS) : Prop := ∃ (n1 n2 : Nat) (r : Int32) (σC1 σM1 : bS), cTop_hours n1 x1 σC = some (r, σC1) ∧ m_hours n2 x1 σM = some (r, σM1) ∧ Rel σC1 σM1
def Sim_rule (Rel : bS → bS → Prop) (x1 : Int32) (σC σM : bS) : Prop := ∃ (n1 n2 : Nat) (r : Int32) (σC1 σM1 : bS), cTop_rule n1 x1 σC = some (r, σC1) ∧ m_rule n2 x1 σM = some (r, σM1) ∧ Rel σC1 σM1
def Sim_undo (Rel : bS → bS → Prop) (σC σM : bS) : Prop := ∃ (n1 n2 : Nat) (r : Int32) (σC1 σM1 : bS), cTop_undo n1 σC = some (r, σC1) ∧ m_undo n2 σM = some (r, σM1) ∧ Rel σC1 σM1
def Sim_homes (Rel : bS → bS → Prop) (σC σM : bS) : Prop := ∃ (n1 n2 : Nat) (r : Int32) (σC1 σM1 : bS), cTop_homes n1 σC = some (r, σC1) ∧ m_homes n2 σM = some (r, σM1) ∧ Rel σC1 σM1
def Sim_where (Rel : bS → bS → Prop) (x1 x2 : Int32) (σC σM : bS) : Prop := ∃ (n1 n2 : Nat) (r : Int32) (σC1 σM1 : bS), cTop_where n1 x1 x2 σC = some (r, σC1) ∧ m_where n2 x1 x2 σM = some (r, σM1) ∧ Rel σC1 σM1
def Sim_last (Rel : bS → bS → Prop) (x1 x2 : Int32) (σC σM : bS) : Prop := ∃ (n1 n2 : Nat) (r : Int32) (σC1 σM1 : bS), cTop_last n1 x1 x2 σC = some (r, σC1) ∧ m_last n2 x1 x2 σM = some (r, σM1) ∧ Rel σC1 σM1
def Sim_coins (Rel : bS → bS → Prop) (x1 : Int32) (σC σM : bS) : Prop := ∃ (n1 n2 : Nat) (r : Int32) (σC1 σM1 : bS), cTop_coins n1 x1 σC = some (r, σC1) ∧ m_coins n2 x1 σM = some (r, σM1) ∧ Rel σC1 σM1
def Sim_homeBy (Rel : bS → bS → Prop) (x1 : Int32) (σC σM : bS) : Prop := ∃ (n1 n2 : Nat) (r : Int32) (σC1 σM1 : bS), cTop_homeBy n1 x1 σC = some (r, σC1) ∧ m_homeBy n2 x1 σM = some (r, σM1) ∧ Rel σC1 σM1
def Sim_allHome (Rel : bS → bS → Prop) (σC σM : bS) : Prop := ∃ (n1 n2 : Nat) (r : Int32) (σC1 σM1 : bS), cTop_allHome n1 σC = some (r, σC1) ∧ m_allHome n2 σM = some (r, σM1) ∧ Rel σC1 σM1
def Sim_odds (Rel : bS → bS → Prop) (x1 x2 x3 : Int32) (σC σM : bS) : Prop := ∃ (n1 n2 : Nat) (r : Int32) (σC1 σM1 : bS), cTop_odds n1 x1 x2 x3 σC = some (r, σC1) ∧ m_odds n2 x1 x2 x3 σM = some (r, σM1) ∧ Rel σC1 σM1
def Sim_waiting (Rel : bS → bS → Prop) (x1 x2 : Int32) (σC σM : bS) : Prop := ∃ (n1 n2 : Nat) (r : Int32) (σC1 σM1 : bS), cTop_waiting n1 x1 x2 σC = some (r, σC1) ∧ m_waiting n2 x1 x2 σM = some (r, σM1) ∧ Rel σC1 σM1
def Sim_follow (Rel : bS → bS → Prop) (x1 x2 : Int32) (σC σM : bS) : Prop := ∃ (n1 n2 : Nat) (r : Int32) (σC1 σM1 : bS), cTop_follow n1 x1 x2 σC = some (r, σC1) ∧ m_follow n2 x1 x2 σM = some (r, σM1) ∧ Rel σC1 σM1
def Sim_way (Rel : bS → bS → Prop) (x1 x2 x3 : Int32) (σC σM : bS) : Prop := ∃ (n1 n2 : Nat) (r : Int32) (σC1 σM1 : bS), cTop_way n1 x1 x2 x3 σC = some (r, σC1) ∧ m_way n2 x1 x2 x3 σM = some (r, σM1) ∧ Rel σC1 σM1
def Sim_reach (Rel : bS → bS → Prop) (x1 x2 : Int32) (σC σM : bS) : Prop := ∃ (n1 n2 : Nat) (r : Int32) (σC1 σM1 : bS), cTop_reach n1 x1 x2 σC = some (r, σC1) ∧ m_reach n2 x1 x2 σM = some (r, σM1) ∧ Rel σC1 σM1
def Sim_orders (Rel : bS → bS → Prop) (x1 x2 : Int32) (σC σM : bS) : Prop := ∃ (n1 n2 : Nat) (r : Int32) (σC1 σM1 : bS), cTop_orders n1 x1 x2 σC = some (r, σC1) ∧ m_orders n2 x1 x2 σM = some (r, σM1) ∧ Rel σC1 σM1
def Sim_orderAt (Rel : bS → bS → Prop) (x1 x2 x3 : Int32) (σC σM : bS) : Prop := ∃ (n1 n2 : Nat) (r : Int32) (σC1 σM1 : bS), cTop_orderAt n1 x1 x2 x3 σC = some (r, σC1) ∧ m_orderAt n2 x1 x2 x3 σM = some (r, σM1) ∧ Rel σC1 σM1
def Sim_wishers (Rel : bS → bS → Prop) (x1 x2 : Int32) (σC σM : bS) : Prop := ∃ (n1 n2 : Nat) (r : Int32) (σC1 σM1 : bS), cTop_wishers n1 x1 x2 σC = some (r, σC1) ∧ m_wishers n2 x1 x2 σM = some (r, σM1) ∧ Rel σC1 σM1
def Sim_wisherAt (Rel : bS → bS → Prop) (x1 x2 x3 : Int32) (σC σM : bS) : Prop := ∃ (n1 n2 : Nat) (r : Int32) (σC1 σM1 : bS), cTop_wisherAt n1 x1 x2 x3 σC = some (r, σC1) ∧ m_wisherAt n2 x1 x2 x3 σM = some (r, σM1) ∧ Rel σC1 σM1
def Sim_rings (Rel : bS → bS → Prop) (x1 x2 x3 : Int32) (σC σM : bS) : Prop := ∃ (n1 n2 : Nat) (r : Int32) (σC1 σM1 : bS), cTop_rings n1 x1 x2 x3 σC = some (r, σC1) ∧ m_rings n2 x1 x2 x3 σM = some (r, σM1) ∧ Rel σC1 σM1
def Sim_gain (Rel : bS → bS → Prop) (x1 x2 x3 x4 : Int32) (σC σM : bS) : Prop := ∃ (n1 n2 : Nat) (r : Int32) (σC1 σM1 : bS), cTop_gain n1 x1 x2 x3 x4 σC = some (r, σC1) ∧ m_gain n2 x1 x2 x3 x4 σM = some (r, σM1) ∧ Rel σC1 σM1
def Sim_worth (Rel : bS → bS → Prop) (x1 x2 x3 : Int32) (σC σM : bS) : Prop := ∃ (n1 n2 : Nat) (r : Int32) (σC1 σM1 : bS), cTop_worth n1 x1 x2 x3 σC = some (r, σC1) ∧ m_worth n2 x1 x2 x3 σM = some (r, σM1) ∧ Rel σC1 σM1
def Sim_rests (Rel : bS → bS → Prop) (x1 x2 x3 : Int32) (σC σM : bS) : Prop := ∃ (n1 n2 : Nat) (r : Int32) (σC1 σM1 : bS), cTop_rests n1 x1 x2 x3 σC = some (r, σC1) ∧ m_rests n2 x1 x2 x3 σM = some (r, σM1) ∧ Rel σC1 σM1
def Sim_best (Rel : bS → bS → Prop) (x1 x2 x3 : Int32) (σC σM : bS) : Prop := ∃ (n1 n2 : Nat) (r : Int32) (σC1 σM1 : bS), cTop_best n1 x1 x2 x3 σC = some (r, σC1) ∧ m_best n2 x1 x2 x3 σM = some (r, σM1) ∧ Rel σC1 σM1
def Sim_prices (Rel : bS → bS → Prop) (x1 x2 x3 x4 : Int32) (σC σM : bS) : Prop := ∃ (n1 n2 : Nat) (r : Int32) (σC1 σM1 : bS), cTop_prices n1 x1 x2 x3 x4 σC = some (r, σC1) ∧ m_prices n2 x1 x2 x3 x4 σM = some (r, σM1) ∧ Rel σC1 σM1
def Sim_see (Rel : bS → bS → Prop) (x1 x2 : Int32) (σC σM : bS) : Prop := ∃ (n1 n2 : Nat) (r : Int32) (σC1 σM1 : bS), cTop_see n1 x1 x2 σC = some (r, σC1) ∧ m_see n2 x1 x2 σM = some (r, σM1) ∧ Rel σC1 σM1
def Sim_say (Rel : bS → bS → Prop) (x1 x2 : Int32) (σC σM : bS) : Prop := ∃ (n1 n2 : Nat) (r : Int32) (σC1 σM1 : bS), cTop_say n1 x1 x2 σC = some (r, σC1) ∧ m_say n2 x1 x2 σM = some (r, σM1) ∧ Rel σC1 σM1
def Sim_forget (Rel : bS → bS → Prop) (σC σM : bS) : Prop := ∃ (n1 n2 : Nat) (r : Int32) (σC1 σM1 : bS), cTop_forget n1 σC = some (r, σC1) ∧ m_forget n2 σM = some (r, σM1) ∧ Rel σC1 σM1
def Sim_fits (Rel : bS → bS → Prop) (x1 : Int32) (σC σM : bS) : Prop := ∃ (n1 n2 : Nat) (r : Int32) (σC1 σM1 : bS), cTop_fits n1 x1 σC = some (r, σC1) ∧ m_fits n2 x1 σM = some (r, σM1) ∧ Rel σC1 σM1
def Sim_sure (Rel : bS → bS → Prop) (x1 x2 : Int32) (σC σM : bS) : Prop := ∃ (n1 n2 : Nat) (r : Int32) (σC1 σM1 : bS), cTop_sure n1 x1 x2 σC = some (r, σC1) ∧ m_sure n2 x1 x2 σM = some (r, σM1) ∧ Rel σC1 σM1
def Sim_trust (Rel : bS → bS → Prop) (x1 : Int32) (σC σM : bS) : Prop := ∃ (n1 n2 : Nat) (r : Int32) (σC1 σM1 : bS), cTop_trust n1 x1 σC = some (r, σC1) ∧ m_trust n2 x1 σM = some (r, σM1) ∧ Rel σC1 σM1
def Sim_hold (Rel : bS → bS → Prop) (x1 : Int32) (σC σM : bS) : Prop := ∃ (n1 n2 : Nat) (r : Int32) (σC1 σM1 : bS), cTop_hold n1 x1 σC = some (r, σC1) ∧ m_hold n2 x1 σM = some (r, σM1) ∧ Rel σC1 σM1
def Sim_restore (Rel : bS → bS → Prop) (x1 : Int32) (σC σM : bS) : Prop := ∃ (n1 n2 : Nat) (r : Int32) (σC1 σM1 : bS), cTop_restore n1 x1 σC = some (r, σC1) ∧ m_restore n2 x1 σM = some (r, σM1) ∧ Rel σC1 σM1
def Sim_count (Rel : bS → bS → Prop) (x1 : Int32) (σC σM : bS) : Prop := ∃ (n1 n2 : Nat) (r : Int32) (σC1 σM1 : bS), cTop_count n1 x1 σC = some (r, σC1) ∧ m_count n2 x1 σM = some (r, σM1) ∧ Rel σC1 σM1
