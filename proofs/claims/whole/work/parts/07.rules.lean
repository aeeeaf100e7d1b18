section BRU
variable {MT : List bM}
theorem bif_m {β : Type} {c : Bool} {x y : Option β} {r : β} (h : x = some r → y = some r) : bif_ c x = some r → bif_ c y = some r := by
  cases c with
  | true => exact h
  | false => exact fun z => z
theorem bI1_m {β : Type} {st : List Value} {k1 k2 : Int32 → List Value → Option β} {r : β} (h : ∀ x q, k1 x q = some r → k2 x q = some r) : bI1 st k1 = some r → bI1 st k2 = some r := fun z => by
  obtain ⟨x, q, rfl, z⟩ := bI1_some z
  exact h x q z
theorem bI2_m {β : Type} {st : List Value} {k1 k2 : Int32 → Int32 → List Value → Option β} {r : β} (h : ∀ x y q, k1 x y q = some r → k2 x y q = some r) : bI2 st k1 = some r → bI2 st k2 = some r := fun z => by
  obtain ⟨x, y, q, rfl, z⟩ := bI2_some z
  exact h x y q z
theorem bJ1_m {β : Type} {st : List Value} {k1 k2 : Int64 → List Value → Option β} {r : β} (h : ∀ x q, k1 x q = some r → k2 x q = some r) : bJ1 st k1 = some r → bJ1 st k2 = some r := fun z => by
  obtain ⟨x, q, rfl, z⟩ := bJ1_some z
  exact h x q z
theorem bJ2_m {β : Type} {st : List Value} {k1 k2 : Int64 → Int64 → List Value → Option β} {r : β} (h : ∀ x y q, k1 x y q = some r → k2 x y q = some r) : bJ2 st k1 = some r → bJ2 st k2 = some r := fun z => by
  obtain ⟨x, y, q, rfl, z⟩ := bJ2_some z
  exact h x y q z
theorem bA1_m {β : Type} {st : List Value} {k1 k2 : Nat → List Value → Option β} {r : β} (h : ∀ x q, k1 x q = some r → k2 x q = some r) : bA1 st k1 = some r → bA1 st k2 = some r := fun z => by
  obtain ⟨x, q, rfl, z⟩ := bA1_some z
  exact h x q z
theorem bV1_m {β : Type} {st : List Value} {k1 k2 : Value → List Value → Option β} {r : β} (h : ∀ x q, k1 x q = some r → k2 x q = some r) : bV1 st k1 = some r → bV1 st k2 = some r := fun z => by
  obtain ⟨x, q, rfl, z⟩ := bV1_some z
  exact h x q z
theorem bLI_m {β : Type} {L : bL} {i : Nat} {k1 k2 : Int32 → Option β} {r : β} (h : ∀ x, k1 x = some r → k2 x = some r) : bLI L i k1 = some r → bLI L i k2 = some r := fun z => by
  obtain ⟨x, e, z⟩ := bLI_some z
  unfold bLI
  rw [e]
  exact h x z
theorem bLA_m {β : Type} {L : bL} {i : Nat} {k1 k2 : Nat → Option β} {r : β} (h : ∀ x, k1 x = some r → k2 x = some r) : bLA L i k1 = some r → bLA L i k2 = some r := fun z => by
  obtain ⟨x, e, z⟩ := bLA_some z
  unfold bLA
  rw [e]
  exact h x z
theorem bLJ_m {β : Type} {J : bJ} {i : Nat} {k1 k2 : Int64 → Option β} {r : β} (h : ∀ x, k1 x = some r → k2 x = some r) : bLJ J i k1 = some r → bLJ J i k2 = some r := fun z => by
  obtain ⟨x, e, z⟩ := bLJ_some z
  unfold bLJ
  rw [e]
  exact h x z
theorem bAI_m {β : Type} {W : bW} {b : Nat} {k1 k2 : Nat → Nat → (Nat → Int32) → Option β} {r : β} (h : ∀ t n f, k1 t n f = some r → k2 t n f = some r) : bAI W b k1 = some r → bAI W b k2 = some r := fun z => by
  obtain ⟨t, n, f, e, z⟩ := bAI_some z
  unfold bAI
  rw [e]
  exact h t n f z
theorem bAJ_m {β : Type} {W : bW} {b : Nat} {k1 k2 : Nat → (Nat → Int64) → Option β} {r : β} (h : ∀ n f, k1 n f = some r → k2 n f = some r) : bAJ W b k1 = some r → bAJ W b k2 = some r := fun z => by
  obtain ⟨n, f, e, z⟩ := bAJ_some z
  unfold bAJ
  rw [e]
  exact h n f z
theorem bAO_m {β : Type} {W : bW} {b : Nat} {k1 k2 : Nat → List Value → Option β} {r : β} (h : ∀ n f, k1 n f = some r → k2 n f = some r) : bAO W b k1 = some r → bAO W b k2 = some r := fun z => by
  obtain ⟨n, f, e, z⟩ := bAO_some z
  unfold bAO
  rw [e]
  exact h n f z
theorem bLen_m {β : Type} {W : bW} {b : Nat} {k1 k2 : Nat → Option β} {r : β} (h : ∀ n, k1 n = some r → k2 n = some r) : bLen W b k1 = some r → bLen W b k2 = some r := by
  unfold bLen
  split
  · exact bif_m (h _)
  · exact h _
  · exact fun z => z
theorem bin_m {β : Type} {i : Int32} {n : Nat} {x y : Option β} {r : β} (h : x = some r → y = some r) : bin_ i n x = some r → bin_ i n y = some r := by
  unfold bin_
  split
  · exact fun z => z
  · exact h
theorem btgt_m {β : Type} {pc : Nat} {off : Int} {k1 k2 : Nat → Option β} {r : β} (h : ∀ t, k1 t = some r → k2 t = some r) : btgt pc off k1 = some r → btgt pc off k2 = some r := by
  unfold btgt
  split
  · exact h _
  · exact fun z => z
theorem bbr_m {β : Type} {c : ClassFile.Cond} {x y : Int32} {t1 t2 f1 f2 : Option β} {r : β} (h1 : t1 = some r → t2 = some r) (h2 : f1 = some r → f2 = some r) : bbr c x y t1 f1 = some r → bbr c x y t2 f2 = some r := by
  cases c <;> (unfold bbr; dsimp only; split) <;> first | exact h1 | exact h2
theorem bsw_m {β : Type} {pc : Nat} {x : Int32} {dflt : Int} {k1 k2 : Nat → Option β} {r : β} (h : ∀ t, k1 t = some r → k2 t = some r) : ∀ (os : List Int) (lo : Int), bsw pc x dflt k1 lo os = some r → bsw pc x dflt k2 lo os = some r
  | [], _ => btgt_m h
  | o :: os, lo => by
    unfold bsw
    split
    · exact btgt_m h
    · exact bsw_m h os (lo + 1)
theorem bite_m {β : Type} {c : Prop} [Decidable c] {x1 x2 : Option β} {r : β} (h : x1 = some r → x2 = some r) : (if c then none else x1) = some r → (if c then none else x2) = some r := by
  split
  · exact fun z => z
  · exact h
theorem bdo_m {c1 c2 : bCall} {d : Nat} {M : bM} {vs : List Value} {W : bW} {k1 k2 : Option Value → bW → Option bR} {r : bR} (hc : ∀ d' v, c1 d' M vs W = some v → c2 d' M vs W = some v) (h : ∀ v w, k1 v w = some r → k2 v w = some r) : bdo c1 d M vs W k1 = some r → bdo c2 d M vs W k2 = some r := fun z => by
  obtain ⟨d', v, w, rfl, ⟨e1, e2⟩, z⟩ := bd_some z
  show bif_ (Nat.ble (bcat vs) (bM_maxL M)) _ = some r
  rw [Nat.ble_eq_true_of_le e1]
  show bopt (c2 d' M vs W) k2 = some r
  unfold bopt
  rw [hc d' _ e2]
  exact h v w z
theorem bmt_m {mi : Nat} {k1 k2 : bM → Option bR} {r : bR} (h : ∀ M, k1 M = some r → k2 M = some r) : bmt MT mi k1 = some r → bmt MT mi k2 = some r := by
  unfold bmt
  split
  · exact h _
  · exact fun z => z
theorem bcopy_m {W : bW} {d : Nat} {st : List Value} {k1 k2 : List Value → bW → Option bR} {r : bR} (h : ∀ q w, k1 q w = some r → k2 q w = some r) : bcopy W d st k1 = some r → bcopy W d st k2 = some r := by
  unfold bcopy
  split
  · exact bAI_m fun t n f => bAI_m fun t n f => bif_m (bite_m (h _ _))
  · exact fun z => z
set_option maxHeartbeats 4000000 in
theorem bstep_m {c1 c2 : bCall} {K1 K2 : bK} {M : bM} {d pc len : Nat} {i : Instr} {L : bL} {J : bJ} {st : List Value} {w : bW} {r : bR} (hc : ∀ d' M' vs w v, c1 d' M' vs w = some v → c2 d' M' vs w = some v) (hK : ∀ pc L J st w, K1 pc L J st w = some r → K2 pc L J st w = some r) : bstep MT c1 M K1 d pc i len L J st w = some r → bstep MT c2 M K2 d pc i len L J st w = some r := by
  cases i with
  | aload_n k => exact bif_m (bLA_m fun x => hK _ _ _ _ _)
  | aload k => exact bif_m (bLA_m fun x => hK _ _ _ _ _)
  | iload_n k => exact bif_m (bLI_m fun x => hK _ _ _ _ _)
  | iload k => exact bif_m (bLI_m fun x => hK _ _ _ _ _)
  | iinc k n => exact bif_m (bLI_m fun x => hK _ _ _ _ _)
  | lload_n k => exact bif_m (bLJ_m fun x => hK _ _ _ _ _)
  | lload k => exact bif_m (bLJ_m fun x => hK _ _ _ _ _)
  | istore_n k => exact bif_m (bI1_m fun x q => hK _ _ _ _ _)
  | istore k => exact bif_m (bI1_m fun x q => hK _ _ _ _ _)
  | i2l => exact bif_m (bI1_m fun x q => hK _ _ _ _ _)
  | i2b => exact bif_m (bI1_m fun x q => hK _ _ _ _ _)
  | i2c => exact bif_m (bI1_m fun x q => hK _ _ _ _ _)
  | astore_n k => exact bif_m (bA1_m fun x q => hK _ _ _ _ _)
  | astore k => exact bif_m (bA1_m fun x q => hK _ _ _ _ _)
  | lstore_n k => exact bif_m (bJ1_m fun x q => hK _ _ _ _ _)
  | lstore k => exact bif_m (bJ1_m fun x q => hK _ _ _ _ _)
  | l2i => exact bif_m (bJ1_m fun x q => hK _ _ _ _ _)
  | iconst n => exact bif_m (hK _ _ _ _ _)
  | bipush n => exact bif_m (hK _ _ _ _ _)
  | sipush n => exact bif_m (hK _ _ _ _ _)
  | lconst n => exact bif_m (hK _ _ _ _ _)
  | ldc x =>
    refine bif_m ?_
    generalize bfind (bM_pool M) x = o
    match o with
    | none => exact fun z => z
    | some (.inl (ci, k, kd)) => exact fun z => z
    | some (.inr (.inl mi)) => exact fun z => z
    | some (.inr (.inr (.inl v))) => exact hK _ _ _ _ _
    | some (.inr (.inr (.inr v))) => exact fun z => z
  | ldc_w x =>
    refine bif_m ?_
    generalize bfind (bM_pool M) x = o
    match o with
    | none => exact fun z => z
    | some (.inl (ci, k, kd)) => exact fun z => z
    | some (.inr (.inl mi)) => exact fun z => z
    | some (.inr (.inr (.inl v))) => exact hK _ _ _ _ _
    | some (.inr (.inr (.inr v))) => exact fun z => z
  | ldc2_w x =>
    refine bif_m ?_
    generalize bfind (bM_pool M) x = o
    match o with
    | none => exact fun z => z
    | some (.inl (ci, k, kd)) => exact fun z => z
    | some (.inr (.inl mi)) => exact fun z => z
    | some (.inr (.inr (.inl v))) => exact fun z => z
    | some (.inr (.inr (.inr v))) => exact hK _ _ _ _ _
  | getfield x =>
    refine bif_m ?_
    generalize bfind (bM_pool M) x = o
    match o with
    | none => exact fun z => z
    | some (.inl (ci, k, kd)) => exact bA1_m fun b r => bAO_m fun c fs => bif_m (by
      generalize fs[k]? = u
      cases u with
      | none => exact fun z => z
      | some v => exact hK _ _ _ _ _)
    | some (.inr (.inl mi)) => exact fun z => z
    | some (.inr (.inr (.inl v))) => exact fun z => z
    | some (.inr (.inr (.inr v))) => exact fun z => z
  | putfield x =>
    refine bif_m ?_
    generalize bfind (bM_pool M) x = o
    match o with
    | none => exact fun z => z
    | some (.inl (ci, k, kd)) => exact bV1_m fun v r1 => bA1_m fun b r => bAO_m fun c fs => bif_m (hK _ _ _ _ _)
    | some (.inr (.inl mi)) => exact fun z => z
    | some (.inr (.inr (.inl v))) => exact fun z => z
    | some (.inr (.inr (.inr v))) => exact fun z => z
  | iaload => exact bif_m (bI1_m fun i r1 => bA1_m fun b r => bAI_m fun t n f => bif_m (bin_m (hK _ _ _ _ _)))
  | baload => exact bif_m (bI1_m fun i r1 => bA1_m fun b r => bAI_m fun t n f => bif_m (bin_m (hK _ _ _ _ _)))
  | laload => exact bif_m (bI1_m fun i r1 => bA1_m fun b r => bAJ_m fun n f => bin_m (hK _ _ _ _ _))
  | iastore => exact bif_m (bI2_m fun i x r1 => bA1_m fun b r => bAI_m fun t n f => bif_m (bin_m (hK _ _ _ _ _)))
  | bastore => exact bif_m (bI2_m fun i x r1 => bA1_m fun b r => bAI_m fun t n f => by
      match t with
      | 0 => exact fun z => z
      | 1 => exact bin_m (hK _ _ _ _ _)
      | 2 => exact bin_m (hK _ _ _ _ _)
      | t + 3 => exact fun z => z)
  | lastore => exact bif_m (bJ1_m fun x r2 => bI1_m fun i r1 => bA1_m fun b r => bAJ_m fun n f => bin_m (hK _ _ _ _ _))
  | arraylength => exact bif_m (bA1_m fun b r => bLen_m fun n => hK _ _ _ _ _)
  | iadd => exact bif_m (bI2_m fun x y q => hK _ _ _ _ _)
  | isub => exact bif_m (bI2_m fun x y q => hK _ _ _ _ _)
  | imul => exact bif_m (bI2_m fun x y q => hK _ _ _ _ _)
  | iand => exact bif_m (bI2_m fun x y q => hK _ _ _ _ _)
  | ior => exact bif_m (bI2_m fun x y q => hK _ _ _ _ _)
  | ixor => exact bif_m (bI2_m fun x y q => hK _ _ _ _ _)
  | ishl => exact bif_m (bI2_m fun x y q => hK _ _ _ _ _)
  | ishr => exact bif_m (bI2_m fun x y q => hK _ _ _ _ _)
  | iushr => exact bif_m (bI2_m fun x y q => hK _ _ _ _ _)
  | idiv => exact bif_m (bI2_m fun x y q => bite_m (hK _ _ _ _ _))
  | irem => exact bif_m (bI2_m fun x y q => bite_m (hK _ _ _ _ _))
  | ladd => exact bif_m (bJ2_m fun x y q => hK _ _ _ _ _)
  | lsub => exact bif_m (bJ2_m fun x y q => hK _ _ _ _ _)
  | lmul => exact bif_m (bJ2_m fun x y q => hK _ _ _ _ _)
  | lcmp => exact bif_m (bJ2_m fun x y q => hK _ _ _ _ _)
  | dup => exact bif_m (bV1_m fun v q => bif_m (hK _ _ _ _ _))
  | pop => exact bif_m (bV1_m fun v q => bif_m (hK _ _ _ _ _))
  | dup2 => exact bif_m (bV1_m fun v q1 => bV1_m fun v2 q => bif_m (hK _ _ _ _ _))
  | ifCond cn off => exact bif_m (bI1_m fun x q => btgt_m fun t => bbr_m (hK _ _ _ _ _) (hK _ _ _ _ _))
  | if_icmp cn off => exact bif_m (bI2_m fun x y q => btgt_m fun t => bbr_m (hK _ _ _ _ _) (hK _ _ _ _ _))
  | goto off => exact bif_m (btgt_m fun t => hK _ _ _ _ _)
  | tableswitch dflt lo hi offs => exact bif_m (bI1_m fun x q => bsw_m (fun t => hK _ _ _ _ _) _ _)
  | invokevirtual x =>
    refine bif_m ?_
    generalize bfind (bM_pool M) x = o
    match o with
    | none => exact fun z => z
    | some (.inl (ci, k, kd)) => exact fun z => z
    | some (.inr (.inl mi)) =>
      exact bmt_m fun M1 => bA1_m fun b r => bAO_m fun ci fs => bif_m (bdo_m (fun d v => hc _ _ _ _ _) (fun v w => hK _ _ _ _ _))
    | some (.inr (.inr (.inl v))) => exact fun z => z
    | some (.inr (.inr (.inr v))) => exact fun z => z
  | invokestatic x =>
    refine bif_m ?_
    generalize bfind (bM_pool M) x = o
    match o with
    | none => exact fun z => z
    | some (.inl (ci, k, kd)) => exact fun z => z
    | some (.inr (.inl 0)) => exact bcopy_m (fun q w => hK _ _ _ _ _)
    | some (.inr (.inl (mi + 1))) =>
      exact bmt_m fun M1 => bif_m (bdo_m (fun d v => hc _ _ _ _ _) (fun v w => hK _ _ _ _ _))
    | some (.inr (.inr (.inl v))) => exact fun z => z
    | some (.inr (.inr (.inr v))) => exact fun z => z
  | ireturn => exact fun z => z
  | lreturn => exact fun z => z
  | return_ => exact fun z => z
  | _ => exact fun z => z
theorem brun_m : ∀ (n d : Nat) (M : bM) (pc : Nat) (L : bL) (J : bJ) (st : List Value) (w : bW) (r : bR), brun MT n d M pc L J st w = some r → brun MT (n + 1) d M pc L J st w = some r
  | 0, _, _, _, _, _, _, _, _, h => bnone h
  | n + 1, d, M, pc, L, J, st, w, r, h => by
    rw [brun_succ] at h ⊢
    generalize bfind (bM_tab M) pc = o at h ⊢
    match o, h with
    | some (i, len), h => exact bstep_m (fun d' M' vs w v => brun_m n _ _ _ _ _ _ _ _) (fun pc L J st w => brun_m n _ _ _ _ _ _ _ _) h
theorem brun_le {n m d : Nat} {M : bM} {pc : Nat} {L : bL} {J : bJ} {st : List Value} {w : bW} {r : bR} (hnm : n ≤ m) (h : brun MT n d M pc L J st w = some r) : brun MT m d M pc L J st w = some r := by
  induction m with
  | zero => cases Nat.le_zero.mp hnm; exact h
  | succ m ih =>
    by_cases e : n = m + 1
    · subst e; exact h
    · exact brun_m _ _ _ _ _ _ _ _ _ (ih (by omega))
end BRU
def bfr (MT : List bM) (d : Nat) (M : bM) (pc : Nat) (L : bL) (J : bJ) (st : List Value) (w : bW) (r : bR) : Prop := ∃ n, brun MT n d M pc L J st w = some r
def ob {α β : Type} (o : Option α) (k : α → Option β) : Option β := match o with
  | some a => k a
  | none => none
theorem ob_some {α β : Type} {o : Option α} {k : α → Option β} {r : β} (h : ob o k = some r) : ∃ a, o = some a ∧ k a = some r := by
  cases o with
  | none => cases h
  | some a => exact ⟨a, rfl, h⟩
/-- k instructions, with what goes on behind them, and calls, left open -/
def bgo (MT : List bM) (call : bCall) (M : bM) (d : Nat) (K : bK) : Nat → bK
  | 0 => K
  | k + 1 => fun pc L J st w => match bfind (bM_tab M) pc with
    | some (i, len) => bstep MT call M (bgo MT call M d K k) d pc i len L J st w
    | none => none
abbrev bcl (MT : List bM) (n : Nat) : bCall := fun d' M' args W => brun MT n d' M' 0 (bpad (bM_maxL M') (bent 0 args).1) (bent 0 args).2 [] W
theorem bgo_run {MT : List bM} {n d : Nat} {M : bM} : ∀ (k pc : Nat) (L : bL) (J : bJ) (st : List Value) (w : bW) (r : bR), bgo MT (bcl MT n) M d (brun MT n d M) k pc L J st w = some r → brun MT (n + k) d M pc L J st w = some r
  | 0, _, _, _, _, _, _, h => h
  | k + 1, pc, L, J, st, w, r, h => by
    show brun MT (n + k + 1) d M pc L J st w = some r
    rw [brun_succ]
    have h : (match bfind (bM_tab M) pc with
      | some (i, len) => bstep MT (bcl MT n) M (bgo MT (bcl MT n) M d (brun MT n d M) k) d pc i len L J st w
      | none => none) = some r := h
    generalize bfind (bM_tab M) pc = o at h ⊢
    match o, h with
    | some (i, len), h => exact bstep_m (fun d' M' vs w v z => brun_le (Nat.le_add_right n k) z) (fun pc L J st w z => bgo_run k pc L J st w r z) h
section BFR
variable {MT : List bM} {d pc pc' : Nat} {M : bM} {L L' : bL} {J J' : bJ} {st st' : List Value} {w w' : bW} {r : bR}
theorem bfr_run (k : Nat) (pc' : Nat) (L' : bL) (J' : bJ) (st' : List Value) (w' : bW) (h : ∀ (call : bCall) (K : bK), bgo MT call M d K k pc L J st w = K pc' L' J' st' w') (hr : bfr MT d M pc' L' J' st' w' r) : bfr MT d M pc L J st w r := by
  obtain ⟨n, hn⟩ := hr
  exact ⟨n + k, bgo_run _ _ _ _ _ _ _ ((h _ _).trans hn)⟩
theorem bfr_ret (k : Nat) (h : ∀ (call : bCall) (K : bK), bgo MT call M d K k pc L J st w = some r) : bfr MT d M pc L J st w r := ⟨0 + k, bgo_run _ _ _ _ _ _ _ (h _ _)⟩
theorem bfr_br {β : Type} {q : β} {c : Prop} [Decidable c] {x y : Option β} (k : Nat) {pc1 pc2 : Nat} {L1 L2 : bL} {J1 J2 : bJ} {st1 st2 : List Value} {w1 w2 : bW} (hrun : ∀ (call : bCall) (K : bK), bgo MT call M d K k pc L J st w = if c then K pc1 L1 J1 st1 w1 else K pc2 L2 J2 st2 w2) (h : (if c then x else y) = some q) (h1 : x = some q → bfr MT d M pc1 L1 J1 st1 w1 r) (h2 : y = some q → bfr MT d M pc2 L2 J2 st2 w2 r) : bfr MT d M pc L J st w r := by
  by_cases hc : c
  · rw [if_pos hc] at h
    obtain ⟨n, hn⟩ := h1 h
    exact ⟨n + k, bgo_run _ _ _ _ _ _ _ (by rw [hrun, if_pos hc]; exact hn)⟩
  · rw [if_neg hc] at h
    obtain ⟨n, hn⟩ := h2 h
    exact ⟨n + k, bgo_run _ _ _ _ _ _ _ (by rw [hrun, if_neg hc]; exact hn)⟩
theorem bfr_in {β : Type} {q : β} {i : Int32} {m : Nat} {x : Option β} (k : Nat) {pc1 : Nat} {L1 : bL} {J1 : bJ} {st1 : List Value} {w1 : bW} (hrun : ∀ (call : bCall) (K : bK), bgo MT call M d K k pc L J st w = bin_ i m (K pc1 L1 J1 st1 w1)) (h : bin_ i m x = some q) (h1 : x = some q → bfr MT d M pc1 L1 J1 st1 w1 r) : bfr MT d M pc L J st w r := by
  unfold bin_ at h
  split at h
  · cases h
  · rename_i hc
    obtain ⟨n, hn⟩ := h1 h
    refine ⟨n + k, bgo_run _ _ _ _ _ _ _ ?_⟩
    rw [hrun]
    unfold bin_
    rw [if_neg hc]
    exact hn
theorem bfr_chk {β : Type} {q : β} {c : Prop} [Decidable c] {x : Option β} (k : Nat) {pc1 : Nat} {L1 : bL} {J1 : bJ} {st1 : List Value} {w1 : bW} (hrun : ∀ (call : bCall) (K : bK), bgo MT call M d K k pc L J st w = if c then none else K pc1 L1 J1 st1 w1) (h : (if c then none else x) = some q) (h1 : x = some q → bfr MT d M pc1 L1 J1 st1 w1 r) : bfr MT d M pc L J st w r := by
  split at h
  · cases h
  · rename_i hc
    obtain ⟨n, hn⟩ := h1 h
    exact ⟨n + k, bgo_run _ _ _ _ _ _ _ (by rw [hrun, if_neg hc]; exact hn)⟩
theorem bfr_call {α β : Type} {q : β} {o : Option α} {kf : α → Option β} (k : Nat) {d1 : Nat} {M1 : bM} {vs : List Value} {w1 : bW} {pc2 : Nat} {L2 : bL} {J2 : bJ} {rest : List Value} (v : α → Option Value) (w2 : α → bW) (hrun : ∀ (call : bCall) (K : bK), bgo MT call M d K k pc L J st w = bopt (call d1 M1 vs w1) (fun v w2 => K pc2 L2 J2 (v.toList ++ rest) w2)) (h : ob o kf = some q) (hc : ∀ a, o = some a → bfr MT d1 M1 0 (bpad (bM_maxL M1) (bent 0 vs).1) (bent 0 vs).2 [] w1 (v a, w2 a)) (h1 : ∀ a, o = some a → kf a = some q → bfr MT d M pc2 L2 J2 ((v a).toList ++ rest) (w2 a) r) : bfr MT d M pc L J st w r := by
  obtain ⟨a, ha, h⟩ := ob_some h
  obtain ⟨n1, hn1⟩ := hc a ha
  obtain ⟨n2, hn2⟩ := h1 a ha h
  refine ⟨max n1 n2 + k, bgo_run _ _ _ _ _ _ _ ?_⟩
  rw [hrun]
  show bopt (brun MT (max n1 n2) d1 M1 0 _ _ [] w1) _ = some r
  rw [brun_le (Nat.le_max_left n1 n2) hn1]
  exact brun_le (Nat.le_max_right n1 n2) hn2
end BFR
