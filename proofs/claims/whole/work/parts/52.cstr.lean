theorem vS_any {A : Nat → Prop} {H0 H : Heap} {locs : List Loc} (h : va_S (fun _ => False) H0 H locs) : va_S A H0 H locs := ⟨h.1, fun q h1 _ => h.2.1 q h1 (fun z => z), fun q hq => (h.2.2 q hq).elim⟩
def chK (k : Nat) : Int32 := ((((bytK.getD 0 []).getD k 0) &&& 255).toUInt32 % 65536).toInt32
set_option maxRecDepth 100000 in
theorem chK_nar : ∀ k, k < 129 → narrow .char (.int (chK k)) = .int (chK k) := by decide +kernel
theorem b_goodV {own C : String} {index : Nat} {y : MethodName} {bytes : ByteArray} {maxL : Nat} {ret : Option FieldType} {w0 : Cond} (h0 : Cond.methodLink own index y ∈ TW) (h1 : Cond.instanceMethod y ∈ TW) (h2 : Cond.selects C y y ∈ TW) (h3 : Cond.initialized C ∈ TW) (h4 : Cond.code y bytes maxL ret ∈ TW) : GoodIn (w0 :: TW) (wsV own index C y (Cond.code y bytes maxL ret :: TW)) := fun z hz => by
  have hz' : z ∈ TW := by
    simp only [wsV, List.cons_append, List.nil_append, List.mem_cons] at hz
    rcases hz with rfl | rfl | rfl | rfl | rfl | hz
    · exact h0
    · exact h1
    · exact h2
    · exact h3
    · exact h4
    · exact hz
  exact ⟨List.mem_cons_of_mem _ hz', good_of_word (TW_good z hz')⟩
theorem b_goodS {own : String} {index : Nat} {y : MethodName} {bytes : ByteArray} {maxL : Nat} {ret : Option FieldType} {w0 : Cond} (h0 : Cond.methodLink own index y ∈ TW) (h1 : Cond.static y ∈ TW) (h3 : Cond.initialized y.cls ∈ TW) (h4 : Cond.code y bytes maxL ret ∈ TW) : GoodIn (w0 :: TW) (va_wsS own index y (Cond.code y bytes maxL ret :: TW)) := fun z hz => by
  have hz' : z ∈ TW := by
    simp only [va_wsS, List.cons_append, List.nil_append, List.mem_cons] at hz
    rcases hz with rfl | rfl | rfl | rfl | hz
    · exact h0
    · exact h1
    · exact h3
    · exact h4
    · exact hz
  exact ⟨List.mem_cons_of_mem _ hz', good_of_word (TW_good z hz')⟩
def itab_J3_checkIndex_8e157 : List (Nat × Instr × Nat) := [(0, .iload_n 0, 1), (1, .ifCond .lt 8, 3), (4, .iload_n 0, 1), (5, .iload_n 1, 1), (6, .if_icmp .lt 10, 3), (9, .aload_n 2, 1), (10, .iload_n 0, 1), (11, .iload_n 1, 1), (12, .invokestatic 95, 3), (15, .athrow, 1), (16, .iload_n 0, 1), (17, .ireturn, 1)]
set_option maxRecDepth 100000 in
theorem idc_J3_checkIndex_8e157 : ∀ q ∈ itab_J3_checkIndex_8e157, decode cJ3_checkIndex_8e157 q.1 = .ok q.2 := by decide +kernel
set_option maxRecDepth 100000 in
set_option maxHeartbeats 8000000 in
theorem sk_pre (l : Launch) (i n : Int32) (v : Value) (hv : v = .null ∨ ∃ t, v = .ref t) (hi : ¬ i < 0) (hn : i < n) : Met l yJ3_checkIndex_8e157 (Cond.code yJ3_checkIndex_8e157 cJ3_checkIndex_8e157 3 (some .int) :: TW) { frames := 0, cells := 0, slots := 0, locals := 0 } (va_Pc [.int i, .int n, v] (fun U => True)) (va_Qi (fun (r : Int32) (_ : Unit) => r = i) (fun _ _ => True) (fun _ => False)) 0 0 (fun _ => False) := by
  rcases hv with rfl | ⟨t, rfl⟩
  · refine bofW (cc := cJ3_checkIndex_8e157) (maxL := 3) (ret := (some .int)) (by decide +kernel) rfl ?_
    intro p e s m args below meth c s₁ B hml hv
    obtain ⟨rfl, hZ⟩ := hv
    have hx := B.exec
    have hb := B.bytes
    have hr := B.returns
    have hts := atoms_spec (ws := Cond.code yJ3_checkIndex_8e157 cJ3_checkIndex_8e157 3 (some .int) :: TW) B.pre
    have hown : s.vm.findClass RJ3 = some m.cls := findClass_of_methodNamed B.named
    have hlocks := B.notSynchronized
    have hS : va_S (fun _ => False) s.heap s.heap [] := va_S.rf
    have hl := lv_entry ([.int i, .int n, .null]) (n := 3) (Nat.le_of_ble_eq_true rfl)
    rw [lg_entry_eq]
    generalize (lg_sl ([.int i, .int n, .null]) ++ List.replicate (3 - (lg_sl ([.int i, .int n, .null])).length) Slot.unset).toArray = ls at hl ⊢
    have hl : lv_has ls 3 [(0, .int i), (1, .int n)] := lv_sub (l := [(0, .int i), (1, .int n), (2, .null)]) hl [0, 1] rfl
    refine lv_iload_n hx hb (idc_J3_checkIndex_8e157 (0, .iload_n 0, 1) (List.mem_of_getElem? (i := 0) rfl)) rfl (lv_at hl 0 rfl) ?_
    refine lv_if_lt (tgt := 9) hx hb (idc_J3_checkIndex_8e157 (1, .ifCond .lt 8, 3) (List.mem_of_getElem? (i := 1) rfl)) (by decide) (fun h => absurd h hi) (fun _ => ?_)
    refine lv_iload_n hx hb (idc_J3_checkIndex_8e157 (4, .iload_n 0, 1) (List.mem_of_getElem? (i := 2) rfl)) rfl (lv_at hl 0 rfl) ?_
    refine lv_iload_n hx hb (idc_J3_checkIndex_8e157 (5, .iload_n 1, 1) (List.mem_of_getElem? (i := 3) rfl)) rfl (lv_at hl 1 rfl) ?_
    refine lv_icmp_lt (tgt := 16) hx hb (idc_J3_checkIndex_8e157 (6, .if_icmp .lt 10, 3) (List.mem_of_getElem? (i := 4) rfl)) (by decide) (fun _ => ?_) (fun h => absurd hn h)
    refine lv_iload_n hx hb (idc_J3_checkIndex_8e157 (16, .iload_n 0, 1) (List.mem_of_getElem? (i := 10) rfl)) rfl (lv_at hl 0 rfl) ?_
    exact W.iret hx hb hr (fun t ht hW => ⟨⟨_, (), rfl, rfl, trivial⟩, hS.F ht⟩) hS.2.2 (idc_J3_checkIndex_8e157 (17, .ireturn, 1) (List.mem_of_getElem? (i := 11) rfl))
  · refine bofW (cc := cJ3_checkIndex_8e157) (maxL := 3) (ret := (some .int)) (by decide +kernel) rfl ?_
    intro p e s m args below meth c s₁ B hml hv
    obtain ⟨rfl, hZ⟩ := hv
    have hx := B.exec
    have hb := B.bytes
    have hr := B.returns
    have hts := atoms_spec (ws := Cond.code yJ3_checkIndex_8e157 cJ3_checkIndex_8e157 3 (some .int) :: TW) B.pre
    have hown : s.vm.findClass RJ3 = some m.cls := findClass_of_methodNamed B.named
    have hlocks := B.notSynchronized
    have hS : va_S (fun _ => False) s.heap s.heap [] := va_S.rf
    have hl := lv_entry ([.int i, .int n, (.ref t)]) (n := 3) (Nat.le_of_ble_eq_true rfl)
    rw [lg_entry_eq]
    generalize (lg_sl ([.int i, .int n, (.ref t)]) ++ List.replicate (3 - (lg_sl ([.int i, .int n, (.ref t)])).length) Slot.unset).toArray = ls at hl ⊢
    have hl : lv_has ls 3 [(0, .int i), (1, .int n)] := lv_sub (l := [(0, .int i), (1, .int n), (2, (.ref t))]) hl [0, 1] rfl
    refine lv_iload_n hx hb (idc_J3_checkIndex_8e157 (0, .iload_n 0, 1) (List.mem_of_getElem? (i := 0) rfl)) rfl (lv_at hl 0 rfl) ?_
    refine lv_if_lt (tgt := 9) hx hb (idc_J3_checkIndex_8e157 (1, .ifCond .lt 8, 3) (List.mem_of_getElem? (i := 1) rfl)) (by decide) (fun h => absurd h hi) (fun _ => ?_)
    refine lv_iload_n hx hb (idc_J3_checkIndex_8e157 (4, .iload_n 0, 1) (List.mem_of_getElem? (i := 2) rfl)) rfl (lv_at hl 0 rfl) ?_
    refine lv_iload_n hx hb (idc_J3_checkIndex_8e157 (5, .iload_n 1, 1) (List.mem_of_getElem? (i := 3) rfl)) rfl (lv_at hl 1 rfl) ?_
    refine lv_icmp_lt (tgt := 16) hx hb (idc_J3_checkIndex_8e157 (6, .if_icmp .lt 10, 3) (List.mem_of_getElem? (i := 4) rfl)) (by decide) (fun _ => ?_) (fun h => absurd hn h)
    refine lv_iload_n hx hb (idc_J3_checkIndex_8e157 (16, .iload_n 0, 1) (List.mem_of_getElem? (i := 10) rfl)) rfl (lv_at hl 0 rfl) ?_
    exact W.iret hx hb hr (fun t ht hW => ⟨⟨_, (), rfl, rfl, trivial⟩, hS.F ht⟩) hS.2.2 (idc_J3_checkIndex_8e157 (17, .ireturn, 1) (List.mem_of_getElem? (i := 11) rfl))
def itab_J0_checkIndex_df160 : List (Nat × Instr × Nat) := [(0, .iload_n 0, 1), (1, .iload_n 1, 1), (2, .getstatic 1053, 3), (5, .invokestatic 1059, 3), (8, .pop, 1), (9, .return_, 1)]
set_option maxRecDepth 100000 in
theorem idc_J0_checkIndex_df160 : ∀ q ∈ itab_J0_checkIndex_df160, decode cJ0_checkIndex_df160 q.1 = .ok q.2 := by decide +kernel
set_option maxRecDepth 100000 in
set_option maxHeartbeats 8000000 in
theorem sk_chk (l : Launch) (adK adV : Nat → Nat) (A : Nat → Prop) (i n : Int32) (hi : ¬ i < 0) (hn : i < n) : Met l yJ0_checkIndex_df160 (Cond.code yJ0_checkIndex_df160 cJ0_checkIndex_df160 2 none :: TW) { frames := 1, cells := 0, slots := 0, locals := 36 } (va_Pc [.int i, .int n] (fun U => xK adK adV A U U.heap)) (va_Qv (fun _ : Unit => True) (fun _ _ => True) (fun _ => False)) 0 0 (fun _ => False) := by
  refine bofW (cc := cJ0_checkIndex_df160) (maxL := 2) (ret := none) (by decide +kernel) rfl ?_
  intro p e s m args below meth c s₁ B hml hv
  obtain ⟨rfl, hZ⟩ := hv
  have hx := B.exec
  have hb := B.bytes
  have hr := B.returns
  have hts := atoms_spec (ws := Cond.code yJ0_checkIndex_df160 cJ0_checkIndex_df160 2 none :: TW) B.pre
  have hown : s.vm.findClass RJ0 = some m.cls := findClass_of_methodNamed B.named
  have hlocks := B.notSynchronized
  have hS : va_S (fun _ => False) s.heap s.heap [] := va_S.rf
  have hl := lv_entry ([.int i, .int n]) (n := 2) (Nat.le_of_ble_eq_true rfl)
  rw [lg_entry_eq]
  generalize (lg_sl ([.int i, .int n]) ++ List.replicate (2 - (lg_sl ([.int i, .int n])).length) Slot.unset).toArray = ls at hl ⊢
  have hl : lv_has ls 2 [(0, .int i), (1, .int n)] := hl
  refine lv_iload_n hx hb (idc_J0_checkIndex_df160 (0, .iload_n 0, 1) (List.mem_of_getElem? (i := 0) rfl)) rfl (lv_at hl 0 rfl) ?_
  refine lv_iload_n hx hb (idc_J0_checkIndex_df160 (1, .iload_n 1, 1) (List.mem_of_getElem? (i := 1) rfl)) rfl (lv_at hl 1 rfl) ?_
  rcases hZ.2.2.2.2 with hq | ⟨tq, hq⟩
  · refine va_gets hx hb hq (vS_any hS) hown (hts _ (List.mem_cons_of_mem _ (TW_mk (tl_1 _ (List.mem_of_getElem? (i := 215) rfl)) rfl))) (fun _ h9 => h9) (idc_J0_checkIndex_df160 (2, .getstatic 1053, 3) (List.mem_of_getElem? (i := 2) rfl)) ?_
    refine va_calli (S := Unit) (va_runS (As := [.int i, .int n, .null]) (rest := []) ⟨hx, hb, hml, hown, hts⟩ (sk_pre l i n .null (Or.inl rfl) hi hn) (va_cwS 3 hts (b_goodS (TW_mk (tl_1 _ (List.mem_of_getElem? (i := 217) rfl)) rfl) (TW_mk (tl_1 _ (List.mem_of_getElem? (i := 218) rfl)) rfl) (TW_mk (tl_1 _ (List.mem_of_getElem? (i := 9) rfl)) rfl) (TW_mk (tl_1 _ (List.mem_of_getElem? (i := 219) rfl)) rfl)) rfl rfl rfl (by decide +kernel) ⟨Nat.le_of_ble_eq_true rfl, Nat.le_of_ble_eq_true rfl⟩) ⟨fun a U g mk q => ⟨q.1, trivial⟩, fun U hU hW => ⟨rfl, trivial⟩⟩ rfl rfl hl.1 rfl (lv_room (Nat.le_of_ble_eq_true rfl)) (idc_J0_checkIndex_df160 (5, .invokestatic 1059, 3) (List.mem_of_getElem? (i := 3) rfl)) ⟨Nat.le_of_ble_eq_true rfl, Nat.le_of_ble_eq_true rfl⟩) hS (fun q _ h => h.elim) (fun q h => h.elim) (fun r u t H locs ht hvm hw hB hz1 hk1 hS => ?_)
    refine lv_pop hx hb (idc_J0_checkIndex_df160 (8, .pop, 1) (List.mem_of_getElem? (i := 4) rfl)) rfl ?_
    exact W.vret hx hb hr (fun t ht hW => ⟨⟨(), rfl, trivial, trivial⟩, hS.F ht⟩) hS.2.2 (idc_J0_checkIndex_df160 (9, .return_, 1) (List.mem_of_getElem? (i := 5) rfl))
  · refine va_gets hx hb hq (vS_any hS) hown (hts _ (List.mem_cons_of_mem _ (TW_mk (tl_1 _ (List.mem_of_getElem? (i := 215) rfl)) rfl))) (fun _ h9 => h9) (idc_J0_checkIndex_df160 (2, .getstatic 1053, 3) (List.mem_of_getElem? (i := 2) rfl)) ?_
    refine va_calli (S := Unit) (va_runS (As := [.int i, .int n, (.ref tq)]) (rest := []) ⟨hx, hb, hml, hown, hts⟩ (sk_pre l i n (.ref tq) (Or.inr ⟨tq, rfl⟩) hi hn) (va_cwS 3 hts (b_goodS (TW_mk (tl_1 _ (List.mem_of_getElem? (i := 217) rfl)) rfl) (TW_mk (tl_1 _ (List.mem_of_getElem? (i := 218) rfl)) rfl) (TW_mk (tl_1 _ (List.mem_of_getElem? (i := 9) rfl)) rfl) (TW_mk (tl_1 _ (List.mem_of_getElem? (i := 219) rfl)) rfl)) rfl rfl rfl (by decide +kernel) ⟨Nat.le_of_ble_eq_true rfl, Nat.le_of_ble_eq_true rfl⟩) ⟨fun a U g mk q => ⟨q.1, trivial⟩, fun U hU hW => ⟨rfl, trivial⟩⟩ rfl rfl hl.1 rfl (lv_room (Nat.le_of_ble_eq_true rfl)) (idc_J0_checkIndex_df160 (5, .invokestatic 1059, 3) (List.mem_of_getElem? (i := 3) rfl)) ⟨Nat.le_of_ble_eq_true rfl, Nat.le_of_ble_eq_true rfl⟩) hS (fun q _ h => h.elim) (fun q h => h.elim) (fun r u t H locs ht hvm hw hB hz1 hk1 hS => ?_)
    refine lv_pop hx hb (idc_J0_checkIndex_df160 (8, .pop, 1) (List.mem_of_getElem? (i := 4) rfl)) rfl ?_
    exact W.vret hx hb hr (fun t ht hW => ⟨⟨(), rfl, trivial, trivial⟩, hS.F ht⟩) hS.2.2 (idc_J0_checkIndex_df160 (9, .return_, 1) (List.mem_of_getElem? (i := 5) rfl))
def itab_J1_charAt_3b067 : List (Nat × Instr × Nat) := [(0, .iload_n 1, 1), (1, .aload_n 0, 1), (2, .arraylength, 1), (3, .invokestatic 9, 3), (6, .aload_n 0, 1), (7, .iload_n 1, 1), (8, .baload, 1), (9, .sipush 255, 3), (12, .iand, 1), (13, .i2c, 1), (14, .ireturn, 1)]
set_option maxRecDepth 100000 in
theorem idc_J1_charAt_3b067 : ∀ q ∈ itab_J1_charAt_3b067, decode cJ1_charAt_3b067 q.1 = .ok q.2 := by decide +kernel
set_option maxRecDepth 100000 in
set_option maxHeartbeats 8000000 in
theorem sk_lch (l : Launch) (adK adV : Nat → Nat) (A : Nat → Prop) (k : Nat) (hk : k < 129) : Met l yJ1_charAt_3b067 (Cond.code yJ1_charAt_3b067 cJ1_charAt_3b067 2 (some .char) :: TW) { frames := 2, cells := 0, slots := 0, locals := 72 } (va_Pc [.ref (adV 0), .int (nI k)] (fun U => xK adK adV A U U.heap)) (va_Qi (fun (r : Int32) (_ : Unit) => r = chK k) (fun _ _ => True) (fun _ => False)) 0 0 (fun _ => False) := by
  refine bofW (cc := cJ1_charAt_3b067) (maxL := 2) (ret := (some .char)) (by decide +kernel) rfl ?_
  intro p e s m args below meth c s₁ B hml hv
  obtain ⟨rfl, hZ⟩ := hv
  have hx := B.exec
  have hb := B.bytes
  have hr := B.returns
  have hts := atoms_spec (ws := Cond.code yJ1_charAt_3b067 cJ1_charAt_3b067 2 (some .char) :: TW) B.pre
  have hown : s.vm.findClass RJ1 = some m.cls := findClass_of_methodNamed B.named
  have hlocks := B.notSynchronized
  have hS : va_S (fun _ => False) s.heap s.heap [] := va_S.rf
  have hl := lv_entry ([.ref (adV 0), .int (nI k)]) (n := 2) (Nat.le_of_ble_eq_true rfl)
  rw [lg_entry_eq]
  generalize (lg_sl ([.ref (adV 0), .int (nI k)]) ++ List.replicate (2 - (lg_sl ([.ref (adV 0), .int (nI k)])).length) Slot.unset).toArray = ls at hl ⊢
  have hl : lv_has ls 2 [(0, .ref (adV 0)), (1, .int (nI k))] := hl
  have hT := (hZ.2.1.1 0 (by decide)).2.2.2
  refine lv_iload_n hx hb (idc_J1_charAt_3b067 (0, .iload_n 1, 1) (List.mem_of_getElem? (i := 0) rfl)) rfl (lv_at hl 1 rfl) ?_
  refine lv_aload_n hx hb (idc_J1_charAt_3b067 (1, .aload_n 0, 1) (List.mem_of_getElem? (i := 1) rfl)) rfl (lv_at hl 0 rfl) ?_
  refine va_tlen (v := nI 129) hx hb hT (vS_any hS) rfl (idc_J1_charAt_3b067 (2, .arraylength, 1) (List.mem_of_getElem? (i := 2) rfl)) ?_
  refine va_callv (S := Unit) (va_runS (As := [.int (nI k), .int (nI 129)]) (rest := []) ⟨hx, hb, hml, hown, hts⟩ (sk_chk l adK adV A (nI k) (nI 129) (nI_pos (by omega)) (nI_lt hk (by decide))) (va_cwS 2 hts (b_goodS (TW_mk (tl_1 _ (List.mem_of_getElem? (i := 212) rfl)) rfl) (TW_mk (tl_1 _ (List.mem_of_getElem? (i := 213) rfl)) rfl) (TW_mk (tl_1 _ (List.mem_of_getElem? (i := 7) rfl)) rfl) (TW_mk (tl_1 _ (List.mem_of_getElem? (i := 214) rfl)) rfl)) rfl rfl rfl (by decide +kernel) ⟨Nat.le_of_ble_eq_true rfl, Nat.le_of_ble_eq_true rfl⟩) ⟨fun a U g mk q => ⟨q.1, q.2.calling⟩, fun U hU hW => ⟨rfl, ((hZ.kept (vS_any hS)).warm hU hW)⟩⟩ rfl rfl hl.1 rfl (lv_room (Nat.le_of_ble_eq_true rfl)) (idc_J1_charAt_3b067 (3, .invokestatic 9, 3) (List.mem_of_getElem? (i := 3) rfl)) ⟨Nat.le_of_ble_eq_true rfl, Nat.le_of_ble_eq_true rfl⟩) hS (fun q _ h => h.elim) (fun q h => h.elim) (fun u t H locs ht hvm hw hB hz1 hk1 hS => ?_)
  refine lv_aload_n hx hb (idc_J1_charAt_3b067 (6, .aload_n 0, 1) (List.mem_of_getElem? (i := 4) rfl)) rfl (lv_at hl 0 rfl) ?_
  refine lv_iload_n hx hb (idc_J1_charAt_3b067 (7, .iload_n 1, 1) (List.mem_of_getElem? (i := 5) rfl)) rfl (lv_at hl 1 rfl) ?_
  refine va_tb (v := .int ((bytK.getD 0 []).getD k 0)) hx hb hT (vS_any hS) (vp_in_nI hk (by decide)) (by rw [nI_clamp (by omega)]) (idc_J1_charAt_3b067 (8, .baload, 1) (List.mem_of_getElem? (i := 6) rfl)) ?_
  refine lv_sipush (v := 255) hx hb (idc_J1_charAt_3b067 (9, .sipush 255, 3) (List.mem_of_getElem? (i := 7) rfl)) (by decide) ?_
  refine lv_iand hx hb (idc_J1_charAt_3b067 (12, .iand, 1) (List.mem_of_getElem? (i := 8) rfl)) ?_
  refine lv_i2c (v := chK k) hx hb (idc_J1_charAt_3b067 (13, .i2c, 1) (List.mem_of_getElem? (i := 9) rfl)) rfl ?_
  exact W.zret hx hb hr (chK_nar k hk) (fun t ht hW => ⟨⟨_, (), rfl, rfl, trivial⟩, hS.F ht⟩) hS.2.2 (idc_J1_charAt_3b067 (14, .ireturn, 1) (List.mem_of_getElem? (i := 10) rfl))
def itab_J0_isLatin1_aae02 : List (Nat × Instr × Nat) := [(0, .getstatic 38, 3), (3, .ifCond .eq 14, 3), (6, .aload_n 0, 1), (7, .getfield 15, 3), (10, .ifCond .ne 7, 3), (13, .iconst 1, 1), (14, .goto 4, 3), (17, .iconst 0, 1), (18, .ireturn, 1)]
set_option maxRecDepth 100000 in
theorem idc_J0_isLatin1_aae02 : ∀ q ∈ itab_J0_isLatin1_aae02, decode cJ0_isLatin1_aae02 q.1 = .ok q.2 := by decide +kernel
set_option maxRecDepth 100000 in
set_option maxHeartbeats 8000000 in
theorem sk_lat (l : Launch) (adK adV : Nat → Nat) (A : Nat → Prop) : Met l yJ0_isLatin1_aae02 (Cond.code yJ0_isLatin1_aae02 cJ0_isLatin1_aae02 1 (some .boolean) :: TW) { frames := 0, cells := 0, slots := 0, locals := 0 } (va_Pc [.ref (adK 0)] (fun U => xK adK adV A U U.heap)) (va_Qi (fun (r : Int32) (_ : Unit) => r = 1) (fun _ _ => True) (fun _ => False)) 0 0 (fun _ => False) := by
  refine bofW (cc := cJ0_isLatin1_aae02) (maxL := 1) (ret := (some .boolean)) (by decide +kernel) rfl ?_
  intro p e s m args below meth c s₁ B hml hv
  obtain ⟨rfl, hZ⟩ := hv
  have hx := B.exec
  have hb := B.bytes
  have hr := B.returns
  have hts := atoms_spec (ws := Cond.code yJ0_isLatin1_aae02 cJ0_isLatin1_aae02 1 (some .boolean) :: TW) B.pre
  have hown : s.vm.findClass RJ0 = some m.cls := findClass_of_methodNamed B.named
  have hlocks := B.notSynchronized
  have hS : va_S (fun _ => False) s.heap s.heap [] := va_S.rf
  have hl := lv_entry ([.ref (adK 0)]) (n := 1) (Nat.le_of_ble_eq_true rfl)
  rw [lg_entry_eq]
  generalize (lg_sl ([.ref (adK 0)]) ++ List.replicate (1 - (lg_sl ([.ref (adK 0)])).length) Slot.unset).toArray = ls at hl ⊢
  have hl : lv_has ls 1 [(0, .ref (adK 0))] := hl
  refine va_gets hx hb hZ.2.2.2.1 (vS_any hS) hown (hts _ (List.mem_cons_of_mem _ (TW_mk (tl_1 _ (List.mem_of_getElem? (i := 199) rfl)) rfl))) (fun _ h9 => h9) (idc_J0_isLatin1_aae02 (0, .getstatic 38, 3) (List.mem_of_getElem? (i := 0) rfl)) ?_
  refine lv_if_eq (tgt := 17) hx hb (idc_J0_isLatin1_aae02 (3, .ifCond .eq 14, 3) (List.mem_of_getElem? (i := 1) rfl)) (by decide) (fun h => absurd h (by decide)) (fun _ => ?_)
  refine lv_aload_n hx hb (idc_J0_isLatin1_aae02 (6, .aload_n 0, 1) (List.mem_of_getElem? (i := 2) rfl)) rfl (lv_at hl 0 rfl) ?_
  refine vk_getf hx hb (hZ.2.1.1 0 (by decide)).2.1 (vS_any hS) hown (hts _ (List.mem_cons_of_mem _ (TW_mk (tl_10 _ (List.mem_of_getElem? (i := 60) rfl)) rfl))) (fun _ h9 => h9) (idc_J0_isLatin1_aae02 (7, .getfield 15, 3) (List.mem_of_getElem? (i := 3) rfl)) ?_
  refine lv_if_ne (tgt := 17) hx hb (idc_J0_isLatin1_aae02 (10, .ifCond .ne 7, 3) (List.mem_of_getElem? (i := 4) rfl)) (by decide) (fun h => absurd rfl h) (fun _ => ?_)
  refine lv_iconst (v := 1) hx hb (idc_J0_isLatin1_aae02 (13, .iconst 1, 1) (List.mem_of_getElem? (i := 5) rfl)) (by decide) ?_
  refine lv_goto (tgt := 18) hx hb (idc_J0_isLatin1_aae02 (14, .goto 4, 3) (List.mem_of_getElem? (i := 6) rfl)) (by decide) ?_
  exact W.zret hx hb hr rfl (fun t ht hW => ⟨⟨_, (), rfl, rfl, trivial⟩, hS.F ht⟩) hS.2.2 (idc_J0_isLatin1_aae02 (18, .ireturn, 1) (List.mem_of_getElem? (i := 8) rfl))
def itab_J0_coder_7d493 : List (Nat × Instr × Nat) := [(0, .getstatic 38, 3), (3, .ifCond .eq 10, 3), (6, .aload_n 0, 1), (7, .getfield 15, 3), (10, .goto 4, 3), (13, .iconst 1, 1), (14, .ireturn, 1)]
set_option maxRecDepth 100000 in
theorem idc_J0_coder_7d493 : ∀ q ∈ itab_J0_coder_7d493, decode cJ0_coder_7d493 q.1 = .ok q.2 := by decide +kernel
set_option maxRecDepth 100000 in
set_option maxHeartbeats 8000000 in
theorem sk_cod (l : Launch) (adK adV : Nat → Nat) (A : Nat → Prop) : Met l yJ0_coder_7d493 (Cond.code yJ0_coder_7d493 cJ0_coder_7d493 1 (some .byte) :: TW) { frames := 0, cells := 0, slots := 0, locals := 0 } (va_Pc [.ref (adK 0)] (fun U => xK adK adV A U U.heap)) (va_Qi (fun (r : Int32) (_ : Unit) => r = 0) (fun _ _ => True) (fun _ => False)) 0 0 (fun _ => False) := by
  refine bofW (cc := cJ0_coder_7d493) (maxL := 1) (ret := (some .byte)) (by decide +kernel) rfl ?_
  intro p e s m args below meth c s₁ B hml hv
  obtain ⟨rfl, hZ⟩ := hv
  have hx := B.exec
  have hb := B.bytes
  have hr := B.returns
  have hts := atoms_spec (ws := Cond.code yJ0_coder_7d493 cJ0_coder_7d493 1 (some .byte) :: TW) B.pre
  have hown : s.vm.findClass RJ0 = some m.cls := findClass_of_methodNamed B.named
  have hlocks := B.notSynchronized
  have hS : va_S (fun _ => False) s.heap s.heap [] := va_S.rf
  have hl := lv_entry ([.ref (adK 0)]) (n := 1) (Nat.le_of_ble_eq_true rfl)
  rw [lg_entry_eq]
  generalize (lg_sl ([.ref (adK 0)]) ++ List.replicate (1 - (lg_sl ([.ref (adK 0)])).length) Slot.unset).toArray = ls at hl ⊢
  have hl : lv_has ls 1 [(0, .ref (adK 0))] := hl
  refine va_gets hx hb hZ.2.2.2.1 (vS_any hS) hown (hts _ (List.mem_cons_of_mem _ (TW_mk (tl_1 _ (List.mem_of_getElem? (i := 199) rfl)) rfl))) (fun _ h9 => h9) (idc_J0_coder_7d493 (0, .getstatic 38, 3) (List.mem_of_getElem? (i := 0) rfl)) ?_
  refine lv_if_eq (tgt := 13) hx hb (idc_J0_coder_7d493 (3, .ifCond .eq 10, 3) (List.mem_of_getElem? (i := 1) rfl)) (by decide) (fun h => absurd h (by decide)) (fun _ => ?_)
  refine lv_aload_n hx hb (idc_J0_coder_7d493 (6, .aload_n 0, 1) (List.mem_of_getElem? (i := 2) rfl)) rfl (lv_at hl 0 rfl) ?_
  refine vk_getf hx hb (hZ.2.1.1 0 (by decide)).2.1 (vS_any hS) hown (hts _ (List.mem_cons_of_mem _ (TW_mk (tl_10 _ (List.mem_of_getElem? (i := 60) rfl)) rfl))) (fun _ h9 => h9) (idc_J0_coder_7d493 (7, .getfield 15, 3) (List.mem_of_getElem? (i := 3) rfl)) ?_
  refine lv_goto (tgt := 14) hx hb (idc_J0_coder_7d493 (10, .goto 4, 3) (List.mem_of_getElem? (i := 4) rfl)) (by decide) ?_
  exact W.zret hx hb hr rfl (fun t ht hW => ⟨⟨_, (), rfl, rfl, trivial⟩, hS.F ht⟩) hS.2.2 (idc_J0_coder_7d493 (14, .ireturn, 1) (List.mem_of_getElem? (i := 6) rfl))
def itab_J0_length_8abf5 : List (Nat × Instr × Nat) := [(0, .aload_n 0, 1), (1, .getfield 9, 3), (4, .arraylength, 1), (5, .aload_n 0, 1), (6, .invokevirtual 335, 3), (9, .ishr, 1), (10, .ireturn, 1)]
set_option maxRecDepth 100000 in
theorem idc_J0_length_8abf5 : ∀ q ∈ itab_J0_length_8abf5, decode cJ0_length_8abf5 q.1 = .ok q.2 := by decide +kernel
set_option maxRecDepth 100000 in
set_option maxHeartbeats 8000000 in
theorem sk_len (l : Launch) (adK adV : Nat → Nat) (A : Nat → Prop) : Met l yJ0_length_8abf5 (Cond.code yJ0_length_8abf5 cJ0_length_8abf5 1 (some .int) :: TW) { frames := 1, cells := 0, slots := 0, locals := 36 } (va_Pc [.ref (adK 0)] (fun U => xK adK adV A U U.heap)) (va_Qi (fun (r : Int32) (_ : Unit) => r = nI 129) (fun _ _ => True) (fun _ => False)) 0 0 (fun _ => False) := by
  refine bofW (cc := cJ0_length_8abf5) (maxL := 1) (ret := (some .int)) (by decide +kernel) rfl ?_
  intro p e s m args below meth c s₁ B hml hv
  obtain ⟨rfl, hZ⟩ := hv
  have hx := B.exec
  have hb := B.bytes
  have hr := B.returns
  have hts := atoms_spec (ws := Cond.code yJ0_length_8abf5 cJ0_length_8abf5 1 (some .int) :: TW) B.pre
  have hown : s.vm.findClass RJ0 = some m.cls := findClass_of_methodNamed B.named
  have hlocks := B.notSynchronized
  have hS : va_S (fun _ => False) s.heap s.heap [] := va_S.rf
  have hl := lv_entry ([.ref (adK 0)]) (n := 1) (Nat.le_of_ble_eq_true rfl)
  rw [lg_entry_eq]
  generalize (lg_sl ([.ref (adK 0)]) ++ List.replicate (1 - (lg_sl ([.ref (adK 0)])).length) Slot.unset).toArray = ls at hl ⊢
  have hl : lv_has ls 1 [(0, .ref (adK 0))] := hl
  have hT := (hZ.2.1.1 0 (by decide)).2.2.2
  refine lv_aload_n hx hb (idc_J0_length_8abf5 (0, .aload_n 0, 1) (List.mem_of_getElem? (i := 0) rfl)) rfl (lv_at hl 0 rfl) ?_
  refine vk_getf hx hb (hZ.2.1.1 0 (by decide)).2.2.1 (vS_any hS) hown (hts _ (List.mem_cons_of_mem _ (TW_mk (tl_10 _ (List.mem_of_getElem? (i := 59) rfl)) rfl))) (fun _ h9 => h9) (idc_J0_length_8abf5 (1, .getfield 9, 3) (List.mem_of_getElem? (i := 1) rfl)) ?_
  refine va_tlen (v := nI 129) hx hb hT (vS_any hS) rfl (idc_J0_length_8abf5 (4, .arraylength, 1) (List.mem_of_getElem? (i := 2) rfl)) ?_
  refine lv_aload_n hx hb (idc_J0_length_8abf5 (5, .aload_n 0, 1) (List.mem_of_getElem? (i := 3) rfl)) rfl (lv_at hl 0 rfl) ?_
  refine va_calli (S := Unit) (va_runV (As := []) (rest := [.int (nI 129)]) ⟨hx, hb, hml, hown, hts⟩ (sk_cod l adK adV A) (cwV 0 hts (b_goodV (TW_mk (tl_1 _ (List.mem_of_getElem? (i := 195) rfl)) rfl) (TW_mk (tl_1 _ (List.mem_of_getElem? (i := 196) rfl)) rfl) (TW_mk (tl_1 _ (List.mem_of_getElem? (i := 197) rfl)) rfl) (TW_mk (tl_1 _ (List.mem_of_getElem? (i := 7) rfl)) rfl) (TW_mk (tl_1 _ (List.mem_of_getElem? (i := 198) rfl)) rfl)) rfl rfl rfl (by decide +kernel) ⟨Nat.le_of_ble_eq_true rfl, Nat.le_of_ble_eq_true rfl⟩) ⟨fun a U g mk q => ⟨q.1, q.2.calling⟩, vk_recv hZ.2.1 (by decide) (vS_any hS), fun U hU hW => ⟨rfl, ((hZ.kept (vS_any hS)).warm hU hW)⟩⟩ rfl rfl hl.1 rfl (lv_room (Nat.le_of_ble_eq_true rfl)) (idc_J0_length_8abf5 (6, .invokevirtual 335, 3) (List.mem_of_getElem? (i := 4) rfl)) ⟨Nat.le_of_ble_eq_true rfl, Nat.le_of_ble_eq_true rfl⟩) hS (fun q _ h => h.elim) (fun q h => h.elim) (fun r u t H locs ht hvm hw hB hz1 hk1 hS => ?_)
  have hw : r = 0 := hw
  subst hw
  refine lv_ishr hx hb (idc_J0_length_8abf5 (9, .ishr, 1) (List.mem_of_getElem? (i := 5) rfl)) ?_
  exact W.iret hx hb hr (fun t ht hW => ⟨⟨_, (), rfl, by decide, trivial⟩, hS.F ht⟩) hS.2.2 (idc_J0_length_8abf5 (10, .ireturn, 1) (List.mem_of_getElem? (i := 6) rfl))
def itab_J0_charAt_5068e : List (Nat × Instr × Nat) := [(0, .aload_n 0, 1), (1, .invokevirtual 492, 3), (4, .ifCond .eq 12, 3), (7, .aload_n 0, 1), (8, .getfield 9, 3), (11, .iload_n 1, 1), (12, .invokestatic 495, 3), (15, .ireturn, 1), (16, .aload_n 0, 1), (17, .getfield 9, 3), (20, .iload_n 1, 1), (21, .invokestatic 498, 3), (24, .ireturn, 1)]
set_option maxRecDepth 100000 in
theorem idc_J0_charAt_5068e : ∀ q ∈ itab_J0_charAt_5068e, decode cJ0_charAt_5068e q.1 = .ok q.2 := by decide +kernel
set_option maxRecDepth 100000 in
set_option maxHeartbeats 8000000 in
theorem sk_cha (l : Launch) (adK adV : Nat → Nat) (A : Nat → Prop) (k : Nat) (hk : k < 129) : Met l yJ0_charAt_5068e (Cond.code yJ0_charAt_5068e cJ0_charAt_5068e 2 (some .char) :: TW) { frames := 3, cells := 0, slots := 0, locals := 108 } (va_Pc [.ref (adK 0), .int (nI k)] (fun U => xK adK adV A U U.heap)) (va_Qi (fun (r : Int32) (_ : Unit) => r = chK k) (fun _ _ => True) (fun _ => False)) 0 0 (fun _ => False) := by
  refine bofW (cc := cJ0_charAt_5068e) (maxL := 2) (ret := (some .char)) (by decide +kernel) rfl ?_
  intro p e s m args below meth c s₁ B hml hv
  obtain ⟨rfl, hZ⟩ := hv
  have hx := B.exec
  have hb := B.bytes
  have hr := B.returns
  have hts := atoms_spec (ws := Cond.code yJ0_charAt_5068e cJ0_charAt_5068e 2 (some .char) :: TW) B.pre
  have hown : s.vm.findClass RJ0 = some m.cls := findClass_of_methodNamed B.named
  have hlocks := B.notSynchronized
  have hS : va_S (fun _ => False) s.heap s.heap [] := va_S.rf
  have hl := lv_entry ([.ref (adK 0), .int (nI k)]) (n := 2) (Nat.le_of_ble_eq_true rfl)
  rw [lg_entry_eq]
  generalize (lg_sl ([.ref (adK 0), .int (nI k)]) ++ List.replicate (2 - (lg_sl ([.ref (adK 0), .int (nI k)])).length) Slot.unset).toArray = ls at hl ⊢
  have hl : lv_has ls 2 [(0, .ref (adK 0)), (1, .int (nI k))] := hl
  refine lv_aload_n hx hb (idc_J0_charAt_5068e (0, .aload_n 0, 1) (List.mem_of_getElem? (i := 0) rfl)) rfl (lv_at hl 0 rfl) ?_
  refine va_calli (S := Unit) (va_runV (As := []) (rest := []) ⟨hx, hb, hml, hown, hts⟩ (sk_lat l adK adV A) (cwV 0 hts (b_goodV (TW_mk (tl_1 _ (List.mem_of_getElem? (i := 205) rfl)) rfl) (TW_mk (tl_1 _ (List.mem_of_getElem? (i := 206) rfl)) rfl) (TW_mk (tl_1 _ (List.mem_of_getElem? (i := 207) rfl)) rfl) (TW_mk (tl_1 _ (List.mem_of_getElem? (i := 7) rfl)) rfl) (TW_mk (tl_1 _ (List.mem_of_getElem? (i := 208) rfl)) rfl)) rfl rfl rfl (by decide +kernel) ⟨Nat.le_of_ble_eq_true rfl, Nat.le_of_ble_eq_true rfl⟩) ⟨fun a U g mk q => ⟨q.1, q.2.calling⟩, vk_recv hZ.2.1 (by decide) (vS_any hS), fun U hU hW => ⟨rfl, ((hZ.kept (vS_any hS)).warm hU hW)⟩⟩ rfl rfl hl.1 rfl (lv_room (Nat.le_of_ble_eq_true rfl)) (idc_J0_charAt_5068e (1, .invokevirtual 492, 3) (List.mem_of_getElem? (i := 1) rfl)) ⟨Nat.le_of_ble_eq_true rfl, Nat.le_of_ble_eq_true rfl⟩) hS (fun q _ h => h.elim) (fun q h => h.elim) (fun r u t H locs ht hvm hw hB hz1 hk1 hS => ?_)
  have hw : r = 1 := hw
  subst hw
  refine lv_if_eq (tgt := 16) hx hb (idc_J0_charAt_5068e (4, .ifCond .eq 12, 3) (List.mem_of_getElem? (i := 2) rfl)) (by decide) (fun h => absurd h (by decide)) (fun _ => ?_)
  refine lv_aload_n hx hb (idc_J0_charAt_5068e (7, .aload_n 0, 1) (List.mem_of_getElem? (i := 3) rfl)) rfl (lv_at hl 0 rfl) ?_
  refine vk_getf hx hb (hZ.2.1.1 0 (by decide)).2.2.1 (vS_any hS) hown (hts _ (List.mem_cons_of_mem _ (TW_mk (tl_10 _ (List.mem_of_getElem? (i := 59) rfl)) rfl))) (fun _ h9 => h9) (idc_J0_charAt_5068e (8, .getfield 9, 3) (List.mem_of_getElem? (i := 4) rfl)) ?_
  refine lv_iload_n hx hb (idc_J0_charAt_5068e (11, .iload_n 1, 1) (List.mem_of_getElem? (i := 5) rfl)) rfl (lv_at hl 1 rfl) ?_
  refine va_calli (S := Unit) (va_runS (As := [.ref (adV 0), .int (nI k)]) (rest := []) ⟨hx, hb, hml, hown, hts⟩ (sk_lch l adK adV A k hk) (va_cwS 2 hts (b_goodS (TW_mk (tl_1 _ (List.mem_of_getElem? (i := 209) rfl)) rfl) (TW_mk (tl_1 _ (List.mem_of_getElem? (i := 210) rfl)) rfl) (TW_mk (tl_1 _ (List.mem_of_getElem? (i := 8) rfl)) rfl) (TW_mk (tl_1 _ (List.mem_of_getElem? (i := 211) rfl)) rfl)) rfl rfl rfl (by decide +kernel) ⟨Nat.le_of_ble_eq_true rfl, Nat.le_of_ble_eq_true rfl⟩) ⟨fun a U g mk q => ⟨q.1, q.2.calling⟩, fun U hU hW => ⟨rfl, ((hZ.kept (vS_any hS)).warm hU hW)⟩⟩ rfl rfl hl.1 rfl (lv_room (Nat.le_of_ble_eq_true rfl)) (idc_J0_charAt_5068e (12, .invokestatic 495, 3) (List.mem_of_getElem? (i := 6) rfl)) ⟨Nat.le_of_ble_eq_true rfl, Nat.le_of_ble_eq_true rfl⟩) hS (fun q _ h => h.elim) (fun q h => h.elim) (fun r u t H locs ht hvm hw hB hz1 hk1 hS => ?_)
  have hw : r = chK k := hw
  subst hw
  exact W.zret hx hb hr (chK_nar k hk) (fun t ht hW => ⟨⟨_, (), rfl, rfl, trivial⟩, hS.F ht⟩) hS.2.2 (idc_J0_charAt_5068e (15, .ireturn, 1) (List.mem_of_getElem? (i := 7) rfl))
