section BM
variable {l : Launch} {D : va_G} {cl : List vw_C} {cA : Nat → ClassId} {ad : Nat → Nat} {TW : List Cond} {MT : List bM}
theorem lg_len (vs : List Value) : (lg_sl vs).length = (vs.map fun v => v.category).sum := by
  induction vs with
  | nil => rfl
  | cons v t ih =>
    have : lg_sl (v :: t) = (if v.category = 2 then [Slot.val v, .second] else [.val v]) ++ lg_sl t := by simp [lg_sl]
    rw [this, List.length_append, ih, List.map_cons, List.sum_cons]
    rcases lv_cat v with h | h
    · rw [h]; simp
    · rw [h]; simp
theorem brun_succ {n d pc : Nat} {M : bM} {L : bL} {J : bJ} {st : List Value} {w : bW} : brun MT (n + 1) d M pc L J st w = match bfind (bM_tab M) pc with
    | some (i, len) => bstep MT (fun d' M' args W => brun MT n d' M' 0 (bpad (bM_maxL M') (bent 0 args).1) (bent 0 args).2 [] W) M (brun MT n d M) d pc i len L J st w
    | none => none := rfl
theorem brun_W (hok : bok TW cl MT) (hok0 : ∀ M0 : bM, bM_st M0 = false → ¬ MT[0]? = some M0) {p : Program} {e : Env} {s : State} {m : MethodId} {args : Array Value} {below : List Frame} {meth : Method} {c : Code} {A : Nat → Prop} (hK : va_K D cl (btys cA) s) (hA : ∀ q, s.heap.size ≤ q → A q) (hx : p.tables.exec = Jvm.exec) (hlocks : meth.locks = false) {M : bM} (hM : M ∈ MT) (hb : c.code = bM_code M) (hml : c.maxLocals = bM_maxL M) (hr : meth.sig.returnType = bM_ret M) (hts : ∀ w ∈ bwsM TW M, w.before args s = true) (hown : s.vm.findClass (bM_y M).cls = some m.cls) {d n0 : Nat} {r : bR}
    (hcall : ∀ n, n < n0 → ∀ (d1 : Nat) (M1 : bM) (vs : List Value) (w : bW) (v : Option Value) (w1 : bW), d = d1 + 1 → M1 ∈ MT → (bcat vs ≤ bM_maxL M1 ∧ brun MT n d1 M1 0 (bpad (bM_maxL M1) (bent 0 vs).1) (bent 0 vs).2 [] w = some (v, w1)) → ∀ sz : Nat, Met l (bM_y M1) (bwsM TW M1) (brm d1) (bPc D cl cA ad sz vs w) (bQ D cl cA ad (va_A (bws ad cA w) sz) (v, w1)) 0 0 (va_A (bws ad cA w) sz)) :
    ∀ n, n ≤ n0 → ∀ pc L J st w, brun MT n d M pc L J st w = some r → bWj p l e (brm d) s m args below meth c (MQ below (bQ D cl cA ad A r) args s 0 0 A) D cl cA ad (bM_maxL M) A pc L J st w
  | 0, _, pc, L, J, st, w, h => bnone h
  | n + 1, hn, pc, L, J, st, w, h => by
    rw [brun_succ] at h
    split at h
    · rename_i i len hf
      obtain ⟨-, -, -, -, -, -, h7, h8, -⟩ := hok.2.2 M hM
      exact bstep_ok (K := brun MT n d M) (call := fun d' M' args W => brun MT n d' M' 0 (bpad (bM_maxL M') (bent 0 args).1) (bent 0 args).2 [] W) hok hok0 h8 hx hb hml hr hlocks hts hown hK hA (fun d1 M1 vs w v w1 hd hm h1 sz => hcall n (by omega) d1 M1 vs w v w1 hd hm h1 sz) (brun_W hok hok0 hK hA hx hlocks hM hb hml hr hts hown hcall n (by omega)) (h7 (pc, i, len) (bfind_mem hf)) h
    · exact bnone h
theorem bofW {y : MethodName} {ws ws' : List Cond} {rm : Room} {Pc : Array Value → State → Prop} {Qc : Array Value → State → Outcome → State → Prop} {mc ms : Nat} {free : Addr → Prop} {cc : ByteArray} {maxL : Nat} {ret : Option FieldType}
    (hy : plainFor y = true) (hw : ws = Cond.code y cc maxL ret :: ws')
    (body : ∀ p e s m args below meth c s₁, BodyLoose p l y (headSpec ws rm) cc maxL ret e s m args below meth c s₁ → c.maxLocals = maxL → Pc args s →
      W p l e (headSpec ws rm).room s m args below meth c s.heap [] 0 0 (MQ below Qc args s mc ms free) (entryFrame m args maxL)) : Met l y ws rm Pc Qc mc ms free := by
  refine MetFree.of_bodySF (code := cc) (maxLocals := maxL) (ret := ret) hy ?_ ?_
  · intro args s m h hn
    obtain ⟨meth, c, h1, h2, h3, h4, h5, h6, -, -⟩ := Cond.code_spec hn (atoms_spec (ws := ws) h _ (by rw [hw]; exact List.mem_cons_self))
    exact ⟨meth, c, h1, h2, h3, h4, h5, h6⟩
  · intro p e s m args below meth c s₁ B hml hP _
    have hh0 : s₁.heap = s.heap := by rw [B.state]; rfl
    obtain ⟨t, a1, o, b1, b2, b3⟩ := body p e s m args below meth c s₁ B hml hP s₁ hh0 (Stand.of_body B)
    exact ⟨t, o, a1, b1, b2, ⟨b3.1, b3.2⟩⟩
/-- WHAT THE SHORT MACHINE ANSWERS, THE MACHINE ANSWERS: a contract of the method -/
theorem bsound (hok : bok TW cl MT) (hok0 : ∀ M0 : bM, bM_st M0 = false → ¬ MT[0]? = some M0) : ∀ (n d : Nat) (M : bM) (vs : List Value) (w : bW) (r : bR), M ∈ MT → (bcat vs ≤ bM_maxL M ∧ brun MT n d M 0 (bpad (bM_maxL M) (bent 0 vs).1) (bent 0 vs).2 [] w = some r) → ∀ sz : Nat, Met l (bM_y M) (bwsM TW M) (brm d) (bPc D cl cA ad sz vs w) (bQ D cl cA ad (va_A (bws ad cA w) sz) r) 0 0 (va_A (bws ad cA w) sz) := by
  intro n
  induction n using Nat.strongRecOn with
  | _ n ih =>
    intro d M vs w r hM h sz
    obtain ⟨h1, -, h3, -⟩ := hok.2.2 M hM
    refine bofW (cc := bM_code M) (maxL := bM_maxL M) (ret := bM_ret M) h3 rfl ?_
    intro p e s m args below meth c s₁ B hml hv
    obtain ⟨rfl, hsz, hP, hK, hD0⟩ := hv
    subst hsz
    have hA : ∀ q : Nat, s.heap.size ≤ q → va_A (bws ad cA w) s.heap.size q := fun q z => Or.inr z
    have hl : (lg_sl (vs.map (bg ad))).length ≤ bM_maxL M := by rw [lg_len, bg_cats]; exact h.1
    rw [lg_entry_eq]
    exact brun_W hok hok0 hK hA B.exec B.notSynchronized hM B.bytes hml B.returns (atoms_spec (ws := bwsM TW M) B.pre) (findClass_of_methodNamed B.named) (n0 := n) (fun k hk d1 M1 vs1 w1 v w2 hd hm h2 sz => ih k hk d1 M1 vs1 w1 (v, w2) hm h2 sz) n (Nat.le_refl n) 0 _ _ _ w h.2 s.heap [] _ (bhas_entry hl) hP hD0.self va_S.rf
end BM
