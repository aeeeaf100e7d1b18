section BS
theorem bblt {a b : Nat} (h : Nat.blt a b = true) : a < b := Nat.le_of_ble_eq_true h
theorem bbeq_ne {j k : Nat} (h : ¬ j = k) : Nat.beq j k = false := by
  cases e : Nat.beq j k with
  | true => exact absurd (Nat.eq_of_beq_eq_true e) h
  | false => rfl
theorem bws_get {ad : Nat → Nat} {cA : Nat → ClassId} {W : bW} {k : Nat} {c : bC} (h : W[k]? = some c) : (bws ad cA W)[k]? = some (ad k, bcell ad cA c) := by
  have hk : k < W.length := (List.getElem?_eq_some_iff.mp h).1
  have e : W[k] = c := (List.getElem?_eq_some_iff.mp h).2
  simp [bws, hk, e]
theorem bws_len {ad : Nat → Nat} {cA : Nat → ClassId} {W : bW} : (bws ad cA W).length = W.length := by simp [bws]
theorem bws_set {ad : Nat → Nat} {cA : Nat → ClassId} {W : bW} {k : Nat} {c : bC} : (bws ad cA W).set k (ad k, bcell ad cA c) = bws ad cA (bup W k c) := by
  apply List.ext_getElem?
  intro j
  by_cases hn : j < W.length
  · by_cases hj : k = j
    · subst hj
      rw [List.getElem?_set_self (by rw [bws_len]; exact hn)]
      exact (bws_get (by rw [List.getElem?_set_self hn])).symm
    · rw [List.getElem?_set_ne hj, bws_get (c := W[j]) (by simp [hn]), bws_get (c := W[j]) (by rw [List.getElem?_set_ne hj]; simp [hn])]
  · rw [List.getElem?_eq_none (by simp [bws]; omega), List.getElem?_eq_none (by simp [bws]; omega)]
theorem bif_some {β : Type} {c : Bool} {x : Option β} {r : β} (h : bif_ c x = some r) : c = true ∧ x = some r := by
  cases c with
  | true => exact ⟨rfl, h⟩
  | false => cases h
theorem bI1_some {β : Type} {st : List Value} {k : Int32 → List Value → Option β} {r : β} (h : bI1 st k = some r) : ∃ x q, st = .int x :: q ∧ k x q = some r := by
  unfold bI1 at h; split at h
  · exact ⟨_, _, rfl, h⟩
  · cases h
theorem bI2_some {β : Type} {st : List Value} {k : Int32 → Int32 → List Value → Option β} {r : β} (h : bI2 st k = some r) : ∃ x y q, st = .int y :: .int x :: q ∧ k x y q = some r := by
  unfold bI2 at h; split at h
  · exact ⟨_, _, _, rfl, h⟩
  · cases h
theorem bJ1_some {β : Type} {st : List Value} {k : Int64 → List Value → Option β} {r : β} (h : bJ1 st k = some r) : ∃ x q, st = .long x :: q ∧ k x q = some r := by
  unfold bJ1 at h; split at h
  · exact ⟨_, _, rfl, h⟩
  · cases h
theorem bJ2_some {β : Type} {st : List Value} {k : Int64 → Int64 → List Value → Option β} {r : β} (h : bJ2 st k = some r) : ∃ x y q, st = .long y :: .long x :: q ∧ k x y q = some r := by
  unfold bJ2 at h; split at h
  · exact ⟨_, _, _, rfl, h⟩
  · cases h
theorem bA1_some {β : Type} {st : List Value} {k : Nat → List Value → Option β} {r : β} (h : bA1 st k = some r) : ∃ x q, st = .ref x :: q ∧ k x q = some r := by
  unfold bA1 at h; split at h
  · exact ⟨_, _, rfl, h⟩
  · cases h
theorem bV1_some {β : Type} {st : List Value} {k : Value → List Value → Option β} {r : β} (h : bV1 st k = some r) : ∃ x q, st = x :: q ∧ k x q = some r := by
  unfold bV1 at h; split at h
  · exact ⟨_, _, rfl, h⟩
  · cases h
theorem bLI_some {β : Type} {L : bL} {i : Nat} {k : Int32 → Option β} {r : β} (h : bLI L i k = some r) : ∃ x, L[i]? = some (some (.int x)) ∧ k x = some r := by
  unfold bLI at h; split at h
  · exact ⟨_, by assumption, h⟩
  · cases h
theorem bLA_some {β : Type} {L : bL} {i : Nat} {k : Nat → Option β} {r : β} (h : bLA L i k = some r) : ∃ x, L[i]? = some (some (.ref x)) ∧ k x = some r := by
  unfold bLA at h; split at h
  · exact ⟨_, by assumption, h⟩
  · cases h
theorem bLJ_some {β : Type} {J : bJ} {i : Nat} {k : Int64 → Option β} {r : β} (h : bLJ J i k = some r) : ∃ x, bfind J i = some x ∧ k x = some r := by
  unfold bLJ at h; split at h
  · exact ⟨_, by assumption, h⟩
  · cases h
theorem bfind_mem {α : Type} : ∀ {l : List (Nat × α)} {k : Nat} {a : α}, bfind l k = some a → (k, a) ∈ l
  | [], _, _, h => by cases h
  | (j, b) :: t, k, a, h => by
    unfold bfind at h
    cases hb : Nat.beq j k with
    | true =>
      rw [hb] at h
      have e := Nat.eq_of_beq_eq_true hb
      subst e
      cases h
      exact List.mem_cons_self
    | false =>
      rw [hb] at h
      exact List.mem_cons_of_mem _ (bfind_mem h)
theorem bAI_some {β : Type} {W : bW} {b : Nat} {k : Nat → Nat → (Nat → Int32) → Option β} {r : β} (h : bAI W b k = some r) : ∃ t n f, W[b]? = some (.inl (t, n, f)) ∧ k t n f = some r := by
  unfold bAI at h
  split at h
  · exact ⟨_, _, _, by assumption, h⟩
  · cases h
theorem bAJ_some {β : Type} {W : bW} {b : Nat} {k : Nat → (Nat → Int64) → Option β} {r : β} (h : bAJ W b k = some r) : ∃ n f, W[b]? = some (.inr (.inl (n, f))) ∧ k n f = some r := by
  unfold bAJ at h
  split at h
  · exact ⟨_, _, by assumption, h⟩
  · cases h
theorem bAO_some {β : Type} {W : bW} {b : Nat} {k : Nat → List Value → Option β} {r : β} (h : bAO W b k = some r) : ∃ n f, W[b]? = some (.inr (.inr (n, f))) ∧ k n f = some r := by
  unfold bAO at h
  split at h
  · exact ⟨_, _, by assumption, h⟩
  · cases h
theorem bLen_some {β : Type} {W : bW} {b : Nat} {k : Nat → Option β} {r : β} (h : bLen W b k = some r) : ∃ n, ((∃ t f, t < 3 ∧ W[b]? = some (.inl (t, n, f))) ∨ ∃ f, W[b]? = some (.inr (.inl (n, f)))) ∧ k n = some r := by
  unfold bLen at h
  split at h
  · obtain ⟨h3, h4⟩ := bif_some h
    exact ⟨_, Or.inl ⟨_, _, bblt h3, by assumption⟩, h4⟩
  · exact ⟨_, Or.inr ⟨_, by assumption⟩, h⟩
  · cases h
theorem bin_some {β : Type} {i : Int32} {n : Nat} {x : Option β} {r : β} (h : bin_ i n x = some r) : vp_in i n ∧ x = some r := by
  unfold bin_ at h
  split at h
  · cases h
  · exact ⟨by assumption, h⟩
theorem btgt_some {β : Type} {pc : Nat} {off : Int} {k : Nat → Option β} {r : β} (h : btgt pc off k = some r) : ∃ t : Nat, (pc : Int) + off = (t : Int) ∧ k t = some r := by
  unfold btgt at h
  split at h
  · exact ⟨_, by assumption, h⟩
  · cases h
theorem bd_some {call : bCall} {d : Nat} {M : bM} {args : List Value} {W : bW} {k : Option Value → bW → Option bR} {r : bR} (h : bdo call d M args W k = some r) : ∃ d' v W', d = d' + 1 ∧ (bcat args ≤ bM_maxL M ∧ call d' M args W = some (v, W')) ∧ k v W' = some r := by
  unfold bdo at h
  split at h
  · cases h
  · obtain ⟨h0, h⟩ := bif_some h
    unfold bopt at h
    split at h
    · exact ⟨_, _, _, rfl, ⟨Nat.le_of_ble_eq_true h0, by assumption⟩, h⟩
    · cases h
theorem bmt_some {MT : List bM} {mi : Nat} {k : bM → Option bR} {r : bR} (h : bmt MT mi k = some r) : ∃ M, MT[mi]? = some M ∧ k M = some r := by
  unfold bmt at h
  split at h
  · exact ⟨_, by assumption, h⟩
  · cases h
end BS
/-- the locals hold what the two lists say -/
def bhas (ad : Nat → Nat) (ls : Array Slot) (nL : Nat) (L : bL) (J : bJ) : Prop := ls.size = nL ∧ lv_wf ls ∧ (∀ (i : Nat) (v : Value), L[i]? = some (some v) → v.category = 1 ∧ ls[i]? = some (.val (bg ad v))) ∧ ∀ q ∈ J, ls[q.1]? = some (.val (.long q.2))
theorem bg_cat (ad : Nat → Nat) (v : Value) : (bg ad v).category = v.category := by cases v <;> rfl
theorem bg_cats (ad : Nat → Nat) (st : List Value) : ((st.map (bg ad)).map fun v => v.category).sum = bcat st := by
  unfold bcat
  rw [List.map_map]
  congr 1
  apply List.map_congr_left
  intro v _
  exact bg_cat ad v
def blst (ad : Nat → Nat) (L : bL) (J : bJ) : List (Nat × Value) := (List.range L.length).filterMap (fun i => match L[i]? with
  | some (some v) => some (i, bg ad v)
  | _ => none) ++ J.map (fun q => (q.1, .long q.2))
theorem blst_L {ad : Nat → Nat} {L : bL} {J : bJ} {i : Nat} {v : Value} (h : L[i]? = some (some v)) : (i, bg ad v) ∈ blst ad L J := by
  refine List.mem_append_left _ (List.mem_filterMap.mpr ⟨i, List.mem_range.mpr (List.getElem?_eq_some_iff.mp h).1, ?_⟩)
  rw [h]
theorem blst_J {ad : Nat → Nat} {L : bL} {J : bJ} {q : Nat × Int64} (h : q ∈ J) : (q.1, Value.long q.2) ∈ blst ad L J := List.mem_append_right _ (List.mem_map.mpr ⟨q, h, rfl⟩)
theorem bhas_lv {ad : Nat → Nat} {ls : Array Slot} {nL : Nat} {L : bL} {J : bJ} (h : bhas ad ls nL L J) : lv_has ls nL (blst ad L J) := by
  refine ⟨h.1, h.2.1, fun q hq => ?_⟩
  rcases List.mem_append.mp hq with hq | hq
  · obtain ⟨i, -, hi⟩ := List.mem_filterMap.mp hq
    split at hi
    · rename_i v hv
      cases hi
      exact (h.2.2.1 i v hv).2
    · cases hi
  · obtain ⟨z, hz, rfl⟩ := List.mem_map.mp hq
    exact h.2.2.2 z hz
theorem bhas_st1 {ad : Nat → Nat} {ls ls' : Array Slot} {nL : Nat} {L : bL} {J : bJ} (h : bhas ad ls nL L J) {i : Nat} {v : Value} (hc : v.category = 1) (h' : lv_has ls' nL ((i, bg ad v) :: (blst ad L J).filter (fun q => !(q.1 == i) && !(q.1 + 1 == i && q.2.category == 2)))) : bhas ad ls' nL (L.set i (some v)) (bJ_1 J i) := by
  obtain ⟨h1, h2, h3, h4⟩ := h
  refine ⟨h'.1, h'.2.1, fun j w hj => ?_, fun q hq => ?_⟩
  · by_cases e : i = j
    · subst e
      rw [List.getElem?_set] at hj
      rw [if_pos rfl] at hj
      split at hj
      · cases hj
        exact ⟨hc, h'.2.2 (i, bg ad v) List.mem_cons_self⟩
      · cases hj
    · rw [List.getElem?_set_ne e] at hj
      obtain ⟨c1, c2⟩ := h3 j w hj
      refine ⟨c1, h'.2.2 (j, bg ad w) (List.mem_cons_of_mem _ (List.mem_filter.mpr ⟨blst_L hj, ?_⟩))⟩
      have e' : ¬ j = i := fun z => e z.symm
      simp [e', bg_cat, c1]
  · obtain ⟨q1, q2⟩ := List.mem_filter.mp hq
    refine h'.2.2 (q.1, .long q.2) (List.mem_cons_of_mem _ (List.mem_filter.mpr ⟨blst_J q1, ?_⟩))
    simp only [Bool.and_eq_true, Bool.not_eq_true', beq_eq_false_iff_ne, ne_eq] at q2
    simp [q2.1, q2.2]
theorem bhas_st2 {ad : Nat → Nat} {ls ls' : Array Slot} {nL : Nat} {L : bL} {J : bJ} (h : bhas ad ls nL L J) {i : Nat} {x : Int64} (h' : lv_has ls' nL ((i, .long x) :: (blst ad L J).filter (fun q => !(q.1 == i) && (!(q.1 == i + 1) && !(q.1 + 1 == i && q.2.category == 2))))) : bhas ad ls' nL ((L.set i none).set (i + 1) none) ((i, x) :: bJ_2 J i) := by
  obtain ⟨h1, h2, h3, h4⟩ := h
  refine ⟨h'.1, h'.2.1, fun j w hj => ?_, fun q hq => ?_⟩
  · by_cases e : i + 1 = j
    · subst e
      rw [List.getElem?_set] at hj
      rw [if_pos rfl] at hj
      split at hj <;> cases hj
    · rw [List.getElem?_set_ne e] at hj
      by_cases e2 : i = j
      · subst e2
        rw [List.getElem?_set] at hj
        rw [if_pos rfl] at hj
        split at hj <;> cases hj
      · rw [List.getElem?_set_ne e2] at hj
        obtain ⟨c1, c2⟩ := h3 j w hj
        refine ⟨c1, h'.2.2 (j, bg ad w) (List.mem_cons_of_mem _ (List.mem_filter.mpr ⟨blst_L hj, ?_⟩))⟩
        have e' : ¬ j = i := fun z => e2 z.symm
        have e'' : ¬ j = i + 1 := fun z => e z.symm
        simp [e', e'', bg_cat, c1]
  · rcases List.mem_cons.mp hq with rfl | hq
    · exact h'.2.2 (i, .long x) List.mem_cons_self
    · obtain ⟨q1, q2⟩ := List.mem_filter.mp hq
      refine h'.2.2 (q.1, .long q.2) (List.mem_cons_of_mem _ (List.mem_filter.mpr ⟨blst_J q1, ?_⟩))
      simp only [Bool.and_eq_true, Bool.not_eq_true', beq_eq_false_iff_ne, ne_eq] at q2
      simp [q2.1, q2.2.1, q2.2.2]
theorem bent_args (ad : Nat → Nat) : ∀ (vs : List Value) (i : Nat), (∀ (j : Nat) (v : Value), (bent i vs).1[j]? = some (some v) → v.category = 1 ∧ (i + j, bg ad v) ∈ lv_args i (vs.map (bg ad))) ∧ ∀ q ∈ (bent i vs).2, (q.1, Value.long q.2) ∈ lv_args i (vs.map (bg ad))
  | [], i => ⟨fun j v h => by simp [bent] at h, fun q hq => by cases hq⟩
  | v :: vs, i => by
    cases v with
    | int x =>
      obtain ⟨h1, h2⟩ := bent_args ad vs (i + 1)
      refine ⟨fun j w h => ?_, fun q hq => List.mem_cons_of_mem _ (h2 q hq)⟩
      cases j with
      | zero => cases h; exact ⟨rfl, List.mem_cons_self⟩
      | succ j =>
        obtain ⟨a1, a2⟩ := h1 j w h
        exact ⟨a1, List.mem_cons_of_mem _ (by rw [show i + (j + 1) = i + 1 + j from by omega]; exact a2)⟩
    | ref x =>
      obtain ⟨h1, h2⟩ := bent_args ad vs (i + 1)
      refine ⟨fun j w h => ?_, fun q hq => List.mem_cons_of_mem _ (h2 q hq)⟩
      cases j with
      | zero => cases h; exact ⟨rfl, List.mem_cons_self⟩
      | succ j =>
        obtain ⟨a1, a2⟩ := h1 j w h
        exact ⟨a1, List.mem_cons_of_mem _ (by rw [show i + (j + 1) = i + 1 + j from by omega]; exact a2)⟩
    | long x =>
      obtain ⟨h1, h2⟩ := bent_args ad vs (i + 2)
      refine ⟨fun j w h => ?_, fun q hq => ?_⟩
      · match j, h with
        | 0, h => cases h
        | 1, h => cases h
        | j + 2, h =>
          obtain ⟨a1, a2⟩ := h1 j w h
          exact ⟨a1, List.mem_cons_of_mem _ (by rw [show i + (j + 2) = i + 2 + j from by omega]; exact a2)⟩
      · rcases List.mem_cons.mp hq with rfl | hq
        · exact List.mem_cons_self
        · exact List.mem_cons_of_mem _ (h2 q hq)
    | float x => exact ⟨fun j w h => by simp [bent] at h, fun q hq => by cases hq⟩
    | double x => exact ⟨fun j w h => by simp [bent] at h, fun q hq => by cases hq⟩
    | null => exact ⟨fun j w h => by simp [bent] at h, fun q hq => by cases hq⟩
    | retAddr x => exact ⟨fun j w h => by simp [bent] at h, fun q hq => by cases hq⟩
theorem bpad_at : ∀ (n : Nat) (L : bL) (j : Nat) (v : Value), (bpad n L)[j]? = some (some v) → L[j]? = some (some v)
  | 0, L, j, v, h => h
  | n + 1, [], 0, v, h => by cases h
  | n + 1, [], j + 1, v, h => by
    have := bpad_at n [] j v h
    simp at this
  | n + 1, x :: L, 0, v, h => h
  | n + 1, x :: L, j + 1, v, h => bpad_at n L j v h
theorem bhas_entry {ad : Nat → Nat} {vs : List Value} {n : Nat} (h : (lg_sl (vs.map (bg ad))).length ≤ n) : bhas ad ((lg_sl (vs.map (bg ad)) ++ List.replicate (n - (lg_sl (vs.map (bg ad))).length) Slot.unset).toArray) n (bpad n (bent 0 vs).1) (bent 0 vs).2 := by
  have hl := lv_entry (vs.map (bg ad)) h
  obtain ⟨h1, h2⟩ := bent_args ad vs 0
  refine ⟨hl.1, hl.2.1, fun i v hv => ?_, fun q hq => hl.2.2 _ (h2 q hq)⟩
  obtain ⟨a1, a2⟩ := h1 i v (bpad_at _ _ _ _ hv)
  rw [Nat.zero_add] at a2
  exact ⟨a1, hl.2.2 _ a2⟩
/-- what is to be known of a pool's entry -/
def bpok (TW : List Cond) (cl : List vw_C) (MT : List bM) (own : String) (x : Nat) (k : bLk) : Prop := match k with
  | .inl (ci, k, kd) => ∃ (C : String) (T : u_T) (N : Nat), cl[ci]? = some (C, T, N) ∧ k < N ∧ Cond.fieldLink own x (T k).1 (T k).2.1 (T k).2.2.1 ∈ TW ∧ (kd < 3 → (T k).2.2.2 = false) ∧ (kd = 0 → parseFieldDescriptor (T k).2.2.1 = some .int) ∧ (kd = 1 → parseFieldDescriptor (T k).2.2.1 = some .boolean) ∧ (kd = 2 → ∃ o, parseFieldDescriptor (T k).2.2.1 = some (.object o))
  | .inr (.inl 0) => Cond.methodLink own x arraycopyName ∈ TW ∧ Cond.native arraycopyName ∈ TW ∧ Cond.static arraycopyName ∈ TW ∧ Cond.initialized "java/lang/System" ∈ TW
  | .inr (.inl (mi + 1)) => ∃ M', MT[mi + 1]? = some M' ∧ Cond.methodLink own x (bM_y M') ∈ TW
  | .inr (.inr (.inl v)) => Cond.constant own x v ∈ TW
  | .inr (.inr (.inr v)) => Cond.constantLong own x v ∈ TW
def bmok (TW : List Cond) (cl : List vw_C) (MT : List bM) (M : bM) : Prop :=
  Cond.code (bM_y M) (bM_code M) (bM_maxL M) (bM_ret M) ∈ TW ∧ Cond.initialized (bM_y M).cls ∈ TW ∧ plainFor (bM_y M) = true ∧
  ((bM_y M).cls ≠ "java/lang/invoke/MethodHandle" ∧ (bM_y M).cls ≠ "java/lang/invoke/VarHandle" ∧ (parseMethodDescriptor (bM_y M).desc).map (fun d => d.parameters.length) = some (bM_na M)) ∧
  (bM_st M = true → Cond.static (bM_y M) ∈ TW) ∧
  (bM_st M = false → Cond.instanceMethod (bM_y M) ∈ TW ∧ Cond.selects (bM_y M).cls (bM_y M) (bM_y M) ∈ TW ∧ ∃ T N, cl[bM_ci M]? = some ((bM_y M).cls, T, N)) ∧
  (∀ q ∈ bM_tab M, decode (bM_code M) q.1 = .ok q.2) ∧ (∀ q ∈ bM_pool M, bpok TW cl MT (bM_y M).cls q.1 q.2) ∧ bM_maxL M ≤ 17
def bok (TW : List Cond) (cl : List vw_C) (MT : List bM) : Prop :=
  (∀ w ∈ TW, goodWord w = true) ∧ (∀ q ∈ cl, (∀ w ∈ u_ws q.1 q.2.1 q.2.2, w ∈ TW) ∧ (∃ ty0 : Nat → FieldType, ∀ k, k < q.2.2 → parseFieldDescriptor (q.2.1 k).2.2.1 = some (ty0 k)) ∧ ∀ a, a < q.2.2 → ∀ b, b < q.2.2 → a ≠ b → (q.2.1 a).2.1 ≠ (q.2.1 b).2.1) ∧ ∀ M ∈ MT, bmok TW cl MT M
abbrev brm (d : Nat) : Room := { frames := d, cells := 0, slots := 0, locals := 36 * d }
abbrev bwsM (TW : List Cond) (M : bM) : List Cond := Cond.code (bM_y M) (bM_code M) (bM_maxL M) (bM_ret M) :: TW
def bB (D : va_G) (cl : List vw_C) (cA : Nat → ClassId) (ad : Nat → Nat) (A : Nat → Prop) (w : bW) (t : State) : Prop := va_P D cl (bws ad cA w) t.heap ∧ va_K D cl (btys cA) t ∧ va_D A (bws ad cA w)
def bPc (D : va_G) (cl : List vw_C) (cA : Nat → ClassId) (ad : Nat → Nat) (sz : Nat) (vs : List Value) (w : bW) : Array Value → State → Prop := va_Pc (vs.map (bg ad)) (fun U => U.heap.size = sz ∧ va_P D cl (bws ad cA w) U.heap ∧ va_K D cl (btys cA) U ∧ va_D (fun _ => True) (bws ad cA w))
def bQ (D : va_G) (cl : List vw_C) (cA : Nat → ClassId) (ad : Nat → Nat) (A : Nat → Prop) (r : bR) : Array Value → State → Outcome → State → Prop := match r.1 with
  | none => va_Qv (fun _ : Unit => True) (fun _ => bB D cl cA ad A r.2) A
  | some (.int x) => va_Qi (fun y (_ : Unit) => y = x) (fun _ => bB D cl cA ad A r.2) A
  | some (.long x) => va_Ql (fun y (_ : Unit) => y = x) (fun _ => bB D cl cA ad A r.2) A
  | _ => fun _ _ _ _ => False
/-- from here on the machine comes to Q -/
def bWj (p : Program) (l : Launch) (e : Env) (R : Room) (s : State) (m : MethodId) (args : Array Value) (below : List Frame) (meth : Method) (c : Code) (Q : State → Prop) (D : va_G) (cl : List vw_C) (cA : Nat → ClassId) (ad : Nat → Nat) (nL : Nat) (A : Nat → Prop) (pc : Nat) (L : bL) (J : bJ) (st : List Value) (w : bW) : Prop :=
  ∀ (H : Heap) (locs : List Loc) (ls : Array Slot), bhas ad ls nL L J → va_P D cl (bws ad cA w) H → va_D A (bws ad cA w) → va_S A s.heap H locs → W p l e R s m args below meth c H locs 0 0 Q (F0 m pc ls (st.map (bg ad)))
